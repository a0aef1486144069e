set_option maxRecDepth 10000 in
set_option maxHeartbeats 4000000 in
theorem wX10_goesOn_L2 {Z : hZ} {n : Nat} (hz : hOK Z hYm cX10_goesOn RX10 4 (n + 4) none)  (v1 : Int32) (v2 : Int32)   : ∀ (i : Nat) (s : Int32 × hMem), hW Z rtV s.2 2 [(0, .ref (h_b Z + 0)), (1, .int v1), (2, .int v2), (3, .int s.1)] [] (h_lp (fX10_goesOn_L2 v1 v2) i s) := by
  refine x_loop (Ms := fun s : Int32 × hMem => s.2) (Ls := fun s : Int32 × hMem => [(0, .ref (h_b Z + 0)), (1, .int v1), (2, .int v2), (3, .int s.1)]) ?_
  intro k2 hk2 s
  show hW Z rtV s.2 2 [(0, .ref (h_b Z + 0)), (1, .int v1), (2, .int v2), (3, .int s.1)] [] (fX10_goesOn_L2 v1 v2 k2 s)
  unfold fX10_goesOn_L2
  refine x_iload_n hz dX10_goesOn_2 rfl 3 rfl ?_
  refine x_iload_n hz dX10_goesOn_3 rfl 2 rfl ?_
  refine x_icmp_ge hz dX10_goesOn_4 ?_ ?_
  · exact x_vret hz rfl dX10_goesOn_19
  refine x_aload_n hz dX10_goesOn_7 rfl 0 rfl ?_
  refine x_iload_n hz dX10_goesOn_8 rfl 1 rfl ?_
  refine x_iload_n hz dX10_goesOn_9 rfl 3 rfl ?_
  refine x_bind (fun q10 hq10 => ?_)
  refine x_callV hz mv_X10_229 sm_0 (by decide) rfl rfl (kX10_seconds (n := n) v1 s.1 s.2 q10 hq10) rfl (av := [.int v1, .int s.1]) (rest := []) rfl rfl (Nat.le_of_ble_eq_true rfl) dX10_goesOn_10 ?_
  refine x_iinc hz (s.1 + 1) [(3, .int (s.1 + 1)), (0, .ref (h_b Z + 0)), (1, .int v1), (2, .int v2)] dX10_goesOn_13 3 rfl rfl rfl rfl ?_
  refine x_goto hz dX10_goesOn_16 ?_
  exact x_sub [1, 2, 3, 0] rfl (hk2 (s.1 + 1, q10))
set_option maxRecDepth 10000 in
set_option maxHeartbeats 4000000 in
theorem wX10_goesOn {Z : hZ} {n : Nat} (hz : hOK Z hYm cX10_goesOn RX10 4 (n + 4) none) (a1 : Int32) (a2 : Int32) (M : hMem) : hW Z rtV M 0 [(0, .ref (h_b Z + 0)), (1, .int a1), (2, .int a2)] [] (fX10_goesOn a1 a2 M) := by
  unfold fX10_goesOn
  refine x_iconst hz 0 dX10_goesOn_0 rfl ?_
  refine x_istore_n hz [(3, .int 0), (0, .ref (h_b Z + 0)), (1, .int a1), (2, .int a2)] dX10_goesOn_1 rfl rfl rfl ?_
  exact x_sub [1, 2, 3, 0] rfl (wX10_goesOn_L2 hz a1 a2 h_FU (0, M))
theorem kX10_goesOn {l : Launch} {dd : hDD} {b n : Nat} (a1 : Int32) (a2 : Int32) (M : hMem) (r : hMem) (h : fX10_goesOn a1 a2 M = some r) : hC l hYm dd b yX10_goesOn cX10_goesOn 4 none (n + 4) [.ref (b + 0), .int a1, .int a2] M (none, r) :=
  h_met (av := fun b => [.ref (b + 0), .int a1, .int a2]) (rt := rtV) (by decide) (Nat.le_of_ble_eq_true rfl) (fun Z hz => wX10_goesOn (n := n) hz a1 a2 M) r h
set_option maxRecDepth 10000 in
set_option maxHeartbeats 4000000 in
theorem wX10_squareBehind {Z : hZ} {n : Nat} (hz : hOK Z hYm cX10_squareBehind RX10 3 (n + 5) (some .int)) (a1 : Int32) (a2 : Int32) (M : hMem) : hW Z rtM M 0 [(0, .ref (h_b Z + 0)), (1, .int a1), (2, .int a2)] [] (fX10_squareBehind a1 a2 M) := by
  unfold fX10_squareBehind
  refine x_aload_n hz dX10_squareBehind_0 rfl 0 rfl ?_
  refine x_iload_n hz dX10_squareBehind_1 rfl 1 rfl ?_
  refine x_bind (fun q2 hq2 => ?_)
  refine x_callV hz mv_X10_233 sm_0 (by decide) rfl rfl (kX10_begins (n := (n + 4)) a1 M q2 hq2) rfl (av := [.int a1]) (rest := []) rfl rfl (Nat.le_of_ble_eq_true rfl) dX10_squareBehind_2 ?_
  refine x_aload_n hz dX10_squareBehind_5 rfl 0 rfl ?_
  refine x_iload_n hz dX10_squareBehind_6 rfl 1 rfl ?_
  refine x_iload_n hz dX10_squareBehind_7 rfl 2 rfl ?_
  refine x_bind (fun q8 hq8 => ?_)
  refine x_callV hz mv_X10_236 sm_0 (by decide) rfl rfl (kX10_goesOn (n := n) a1 a2 q2 q8 hq8) rfl (av := [.int a1, .int a2]) (rest := []) rfl rfl (Nat.le_of_ble_eq_true rfl) dX10_squareBehind_8 ?_
  refine x_aload_n hz dX10_squareBehind_11 rfl 0 rfl ?_
  refine x_geti hz sm_0 fl_X10_211 rfl dX10_squareBehind_12 ?_
  exact x_iret hz rfl dX10_squareBehind_15
theorem kX10_squareBehind {l : Launch} {dd : hDD} {b n : Nat} (a1 : Int32) (a2 : Int32) (M : hMem) (r : Int32 × hMem) (h : fX10_squareBehind a1 a2 M = some r) : hC l hYm dd b yX10_squareBehind cX10_squareBehind 3 (some .int) (n + 5) [.ref (b + 0), .int a1, .int a2] M (some (.int r.1), r.2) :=
  h_met (av := fun b => [.ref (b + 0), .int a1, .int a2]) (rt := rtM) (by decide) (Nat.le_of_ble_eq_true rfl) (fun Z hz => wX10_squareBehind (n := n) hz a1 a2 M) r h
set_option maxRecDepth 10000 in
set_option maxHeartbeats 4000000 in
theorem wX10_at {Z : hZ} {n : Nat} (hz : hOK Z hYm cX10_at RX10 5 (n + 6) (some .int)) (a1 : Int32) (a2 : Int32) (a3 : Int32) (M : hMem) : hW Z rtM M 0 [(0, .ref (h_b Z + 0)), (1, .int a1), (2, .int a2), (3, .int a3)] [] (fX10_at a1 a2 a3 M) := by
  unfold fX10_at
  refine x_aload_n hz dX10_at_0 rfl 0 rfl ?_
  refine x_iload_n hz dX10_at_1 rfl 1 rfl ?_
  refine x_callV hz mv_X10_199 sm_0 (by decide) rfl rfl (kX10_isHat (n := (n + 4)) a1 M) rfl (av := [.int a1]) (rest := []) rfl rfl (Nat.le_of_ble_eq_true rfl) dX10_at_2 ?_
  refine x_if_ne hz dX10_at_5 ?_ ?_
  · refine x_iload_n hz dX10_at_11 rfl 2 rfl ?_
    refine x_callS hz ms_X10_189 (kX10_areSeconds (n := (n + 4)) a2 M) rfl (av := [.int a2]) (rest := []) rfl rfl (Nat.le_of_ble_eq_true rfl) dX10_at_12 ?_
    refine x_if_eq hz dX10_at_15 ?_ ?_
    · refine x_bipush hz (-7) dX10_at_27 rfl ?_
      exact x_iret hz rfl dX10_at_29
    refine x_iload_n hz dX10_at_18 rfl 3 rfl ?_
    refine x_iconst hz 0 dX10_at_19 rfl ?_
    refine x_iconst hz 1 dX10_at_20 rfl ?_
    refine x_callS hz ms_X10_93 (kX10_in (n := (n + 5)) a3 0 1 M) rfl (av := [.int a3, .int 0, .int 1]) (rest := []) rfl rfl (Nat.le_of_ble_eq_true rfl) dX10_at_21 ?_
    refine x_if_ne hz dX10_at_24 ?_ ?_
    · refine x_aload_n hz dX10_at_30 rfl 0 rfl ?_
      refine x_iload_n hz dX10_at_31 rfl 1 rfl ?_
      refine x_iload_n hz dX10_at_32 rfl 2 rfl ?_
      refine x_bind (fun q33 hq33 => ?_)
      refine x_callV hz mv_X10_239 sm_0 (by decide) rfl rfl (kX10_squareBehind (n := n) a1 a2 M q33 hq33) rfl (av := [.int a1, .int a2]) (rest := []) rfl rfl (Nat.le_of_ble_eq_true rfl) dX10_at_33 ?_
      refine x_istore hz [(4, .int q33.1), (0, .ref (h_b Z + 0)), (1, .int a1), (2, .int a2), (3, .int a3)] dX10_at_36 rfl rfl ?_
      refine x_iload_n hz dX10_at_38 rfl 4 rfl ?_
      refine x_if_ne hz dX10_at_39 ?_ ?_
      · refine x_aload_n hz dX10_at_47 rfl 1 rfl ?_
        refine x_geti hz sm_0 fl_X10_208 rfl dX10_at_48 ?_
        exact x_iret hz rfl dX10_at_51
      refine x_iload hz dX10_at_42 0 rfl ?_
      refine x_goto hz dX10_at_44 ?_
      exact x_iret hz rfl dX10_at_51
    refine x_bipush hz (-7) dX10_at_27 rfl ?_
    exact x_iret hz rfl dX10_at_29
  refine x_bipush hz (-5) dX10_at_8 rfl ?_
  exact x_iret hz rfl dX10_at_10
theorem kX10_at {l : Launch} {dd : hDD} {b n : Nat} (a1 : Int32) (a2 : Int32) (a3 : Int32) (M : hMem) (r : Int32 × hMem) (h : fX10_at a1 a2 a3 M = some r) : hC l hYm dd b yX10_at cX10_at 5 (some .int) (n + 6) [.ref (b + 0), .int a1, .int a2, .int a3] M (some (.int r.1), r.2) :=
  h_met (av := fun b => [.ref (b + 0), .int a1, .int a2, .int a3]) (rt := rtM) (by decide) (Nat.le_of_ble_eq_true rfl) (fun Z hz => wX10_at (n := n) hz a1 a2 a3 M) r h
set_option maxRecDepth 10000 in
set_option maxHeartbeats 4000000 in
theorem wX10_passes_L2 {Z : hZ} {n : Nat} (hz : hOK Z hYm cX10_passes RX10 3 (n + 6) none)  (v1 : Int32)   : ∀ (i : Nat) (s : Int32 × hMem), hW Z rtV s.2 2 [(0, .ref (h_b Z + 0)), (1, .int v1), (2, .int s.1)] [] (h_lp (fX10_passes_L2 v1) i s) := by
  refine x_loop (Ms := fun s : Int32 × hMem => s.2) (Ls := fun s : Int32 × hMem => [(0, .ref (h_b Z + 0)), (1, .int v1), (2, .int s.1)]) ?_
  intro k2 hk2 s
  show hW Z rtV s.2 2 [(0, .ref (h_b Z + 0)), (1, .int v1), (2, .int s.1)] [] (fX10_passes_L2 v1 k2 s)
  unfold fX10_passes_L2
  refine x_iload_n hz dX10_passes_2 rfl 2 rfl ?_
  refine x_aload_n hz dX10_passes_3 rfl 0 rfl ?_
  refine x_geti hz sm_0 fl_X10_105 rfl dX10_passes_4 ?_
  refine x_icmp_ge hz dX10_passes_7 ?_ ?_
  · exact x_vret hz rfl dX10_passes_38
  refine x_aload_n hz dX10_passes_10 rfl 0 rfl ?_
  refine x_getr hz sm_0 fl_X10_25 rfl rm_0_6 (by decide) dX10_passes_11 ?_
  refine x_iload_n hz dX10_passes_14 rfl 2 rfl ?_
  refine x_aload_n hz dX10_passes_15 rfl 0 rfl ?_
  refine x_iload_n hz dX10_passes_16 rfl 2 rfl ?_
  refine x_iload_n hz dX10_passes_17 rfl 1 rfl ?_
  refine x_bind (fun q18 hq18 => ?_)
  refine x_callV hz mv_X10_239 sm_0 (by decide) rfl rfl (kX10_squareBehind (n := n) s.1 v1 s.2 q18 hq18) rfl (av := [.int s.1, .int v1]) (rest := [.int s.1, .ref (h_b Z + 6)]) rfl rfl (Nat.le_of_ble_eq_true rfl) dX10_passes_18 ?_
  refine x_iast hz sm_6 dX10_passes_21 (fun hi21 => ?_)
  refine x_aload_n hz dX10_passes_22 rfl 0 rfl ?_
  refine x_getr hz sm_0 fl_X10_28 rfl rm_0_7 (by decide) dX10_passes_23 ?_
  refine x_iload_n hz dX10_passes_26 rfl 2 rfl ?_
  refine x_aload_n hz dX10_passes_27 rfl 0 rfl ?_
  refine x_geti hz sm_0 fl_X10_208 rfl dX10_passes_28 ?_
  refine x_iast hz sm_7 dX10_passes_31 (fun hi31 => ?_)
  refine x_iinc hz (s.1 + 1) [(2, .int (s.1 + 1)), (0, .ref (h_b Z + 0)), (1, .int v1)] dX10_passes_32 2 rfl rfl rfl rfl ?_
  refine x_goto hz dX10_passes_35 ?_
  exact x_sub [1, 2, 0] rfl (hk2 (s.1 + 1, h_up (h_up q18.2 6 s.1.toNatClampNeg q18.1) 7 s.1.toNatClampNeg ((h_up q18.2 6 s.1.toNatClampNeg q18.1) 0 37)))
set_option maxRecDepth 10000 in
set_option maxHeartbeats 4000000 in
theorem wX10_passes {Z : hZ} {n : Nat} (hz : hOK Z hYm cX10_passes RX10 3 (n + 6) none) (a1 : Int32) (M : hMem) : hW Z rtV M 0 [(0, .ref (h_b Z + 0)), (1, .int a1)] [] (fX10_passes a1 M) := by
  unfold fX10_passes
  refine x_iconst hz 0 dX10_passes_0 rfl ?_
  refine x_istore_n hz [(2, .int 0), (0, .ref (h_b Z + 0)), (1, .int a1)] dX10_passes_1 rfl rfl rfl ?_
  exact x_sub [1, 2, 0] rfl (wX10_passes_L2 hz a1 h_FU (0, M))
theorem kX10_passes {l : Launch} {dd : hDD} {b n : Nat} (a1 : Int32) (M : hMem) (r : hMem) (h : fX10_passes a1 M = some r) : hC l hYm dd b yX10_passes cX10_passes 3 none (n + 6) [.ref (b + 0), .int a1] M (none, r) :=
  h_met (av := fun b => [.ref (b + 0), .int a1]) (rt := rtV) (by decide) (Nat.le_of_ble_eq_true rfl) (fun Z hz => wX10_passes (n := n) hz a1 M) r h
set_option maxRecDepth 10000 in
set_option maxHeartbeats 4000000 in
theorem wX10_pass_L19 {Z : hZ} {n : Nat} (hz : hOK Z hYm cX10_pass RX10 4 (n + 7) (some .int))   (M : hMem)  : ∀ (i : Nat) (s : Int32 × Int32), hW Z rtM M 19 [(0, .ref (h_b Z + 0)), (2, .int s.1), (3, .int s.2)] [] (h_lp (fX10_pass_L19 M) i s) := by
  refine x_loop (Ms := fun s : Int32 × Int32 => M) (Ls := fun s : Int32 × Int32 => [(0, .ref (h_b Z + 0)), (2, .int s.1), (3, .int s.2)]) ?_
  intro k19 hk19 s
  show hW Z rtM M 19 [(0, .ref (h_b Z + 0)), (2, .int s.1), (3, .int s.2)] [] (fX10_pass_L19 M k19 s)
  unfold fX10_pass_L19
  refine x_iload_n hz dX10_pass_19 rfl 2 rfl ?_
  refine x_aload_n hz dX10_pass_20 rfl 0 rfl ?_
  refine x_geti hz sm_0 fl_X10_105 rfl dX10_pass_21 ?_
  refine x_icmp_ge hz dX10_pass_24 ?_ ?_
  · refine x_iload_n hz dX10_pass_55 rfl 1 rfl ?_
    exact x_iret hz rfl dX10_pass_56
  refine x_iload_n hz dX10_pass_27 rfl 1 rfl ?_
  refine x_aload_n hz dX10_pass_28 rfl 0 rfl ?_
  refine x_iconst hz 1 dX10_pass_29 rfl ?_
  refine x_aload_n hz dX10_pass_30 rfl 0 rfl ?_
  refine x_getr hz sm_0 fl_X10_25 rfl rm_0_6 (by decide) dX10_pass_31 ?_
  refine x_iload_n hz dX10_pass_34 rfl 2 rfl ?_
  refine x_iald hz sm_6 dX10_pass_35 (fun hi35 => ?_)
  refine x_bind (fun q36 hq36 => ?_)
  refine x_callV hz mv_X10_101 sm_0 (by decide) rfl rfl (kX10_has (n := (n + 6)) 1 (M 6 s.2.toNatClampNeg) M q36 hq36) rfl (av := [.int 1, .int (M 6 s.2.toNatClampNeg)]) (rest := [.int s.1]) rfl rfl (Nat.le_of_ble_eq_true rfl) dX10_pass_36 ?_
  refine x_if_eq hz dX10_pass_39 ?_ ?_
  · refine x_iconst hz 0 dX10_pass_46 rfl ?_
    refine x_iadd hz dX10_pass_47 ?_
    refine x_istore_n hz [(2, .int (s.1 + 0)), (0, .ref (h_b Z + 0)), (3, .int s.2)] dX10_pass_48 rfl rfl rfl ?_
    refine x_iinc hz (s.2 + 1) [(3, .int (s.2 + 1)), (2, .int (s.1 + 0)), (0, .ref (h_b Z + 0))] dX10_pass_49 2 rfl rfl rfl rfl ?_
    refine x_goto hz dX10_pass_52 ?_
    exact x_sub [2, 1, 0] rfl (hk19 (s.1 + 0, s.2 + 1))
  refine x_iconst hz 1 dX10_pass_42 rfl ?_
  refine x_goto hz dX10_pass_43 ?_
  refine x_iadd hz dX10_pass_47 ?_
  refine x_istore_n hz [(2, .int (s.1 + 1)), (0, .ref (h_b Z + 0)), (3, .int s.2)] dX10_pass_48 rfl rfl rfl ?_
  refine x_iinc hz (s.2 + 1) [(3, .int (s.2 + 1)), (2, .int (s.1 + 1)), (0, .ref (h_b Z + 0))] dX10_pass_49 2 rfl rfl rfl rfl ?_
  refine x_goto hz dX10_pass_52 ?_
  exact x_sub [2, 1, 0] rfl (hk19 (s.1 + 1, s.2 + 1))
set_option maxRecDepth 10000 in
set_option maxHeartbeats 4000000 in
theorem wX10_pass {Z : hZ} {n : Nat} (hz : hOK Z hYm cX10_pass RX10 4 (n + 7) (some .int)) (a1 : Int32) (M : hMem) : hW Z rtM M 0 [(0, .ref (h_b Z + 0)), (1, .int a1)] [] (fX10_pass a1 M) := by
  unfold fX10_pass
  refine x_iload_n hz dX10_pass_0 rfl 1 rfl ?_
  refine x_callS hz ms_X10_189 (kX10_areSeconds (n := (n + 5)) a1 M) rfl (av := [.int a1]) (rest := []) rfl rfl (Nat.le_of_ble_eq_true rfl) dX10_pass_1 ?_
  refine x_if_ne hz dX10_pass_4 ?_ ?_
  · refine x_aload_n hz dX10_pass_10 rfl 0 rfl ?_
    refine x_iload_n hz dX10_pass_11 rfl 1 rfl ?_
    refine x_bind (fun q12 hq12 => ?_)
    refine x_callV hz mv_X10_242 sm_0 (by decide) rfl rfl (kX10_passes (n := n) a1 M q12 hq12) rfl (av := [.int a1]) (rest := []) rfl rfl (Nat.le_of_ble_eq_true rfl) dX10_pass_12 ?_
    refine x_iconst hz 0 dX10_pass_15 rfl ?_
    refine x_istore_n hz [(2, .int 0), (0, .ref (h_b Z + 0)), (1, .int a1)] dX10_pass_16 rfl rfl rfl ?_
    refine x_iconst hz 0 dX10_pass_17 rfl ?_
    refine x_istore_n hz [(3, .int 0), (2, .int 0), (0, .ref (h_b Z + 0)), (1, .int a1)] dX10_pass_18 rfl rfl rfl ?_
    exact x_sub [2, 1, 0] rfl (wX10_pass_L19 hz q12 h_FU (0, 0))
  refine x_bipush hz (-2) dX10_pass_7 rfl ?_
  exact x_iret hz rfl dX10_pass_9
theorem kX10_pass {l : Launch} {dd : hDD} {b n : Nat} (a1 : Int32) (M : hMem) (r : Int32 × hMem) (h : fX10_pass a1 M = some r) : hC l hYm dd b yX10_pass cX10_pass 4 (some .int) (n + 7) [.ref (b + 0), .int a1] M (some (.int r.1), r.2) :=
  h_met (av := fun b => [.ref (b + 0), .int a1]) (rt := rtM) (by decide) (Nat.le_of_ble_eq_true rfl) (fun Z hz => wX10_pass (n := n) hz a1 M) r h
set_option maxRecDepth 10000 in
set_option maxHeartbeats 4000000 in
theorem wX10_when_L28 {Z : hZ} {n : Nat} (hz : hOK Z hYm cX10_when RX10 4 (n + 4) (some .int))  (v1 : Int32) (v2 : Int32)   : ∀ (i : Nat) (s : Int32 × hMem), hW Z rtM s.2 28 [(0, .ref (h_b Z + 0)), (1, .int v1), (2, .int v2), (3, .int s.1)] [] (h_lp (fX10_when_L28 v1 v2) i s) := by
  refine x_loop (Ms := fun s : Int32 × hMem => s.2) (Ls := fun s : Int32 × hMem => [(0, .ref (h_b Z + 0)), (1, .int v1), (2, .int v2), (3, .int s.1)]) ?_
  intro k28 hk28 s
  show hW Z rtM s.2 28 [(0, .ref (h_b Z + 0)), (1, .int v1), (2, .int v2), (3, .int s.1)] [] (fX10_when_L28 v1 v2 k28 s)
  unfold fX10_when_L28
  refine x_iload_n hz dX10_when_28 rfl 3 rfl ?_
  refine x_bipush hz 24 dX10_when_29 rfl ?_
  refine x_icmp_gt hz dX10_when_31 ?_ ?_
  · refine x_iconst hz (-1) dX10_when_62 rfl ?_
    exact x_iret hz rfl dX10_when_63
  refine x_aload_n hz dX10_when_34 rfl 0 rfl ?_
  refine x_geti hz sm_0 fl_X10_211 rfl dX10_when_35 ?_
  refine x_iload_n hz dX10_when_38 rfl 2 rfl ?_
  refine x_icmp_ne hz dX10_when_39 ?_ ?_
  · refine x_iload_n hz dX10_when_44 rfl 3 rfl ?_
    refine x_bipush hz 24 dX10_when_45 rfl ?_
    refine x_icmp_ge hz dX10_when_47 ?_ ?_
    · refine x_iinc hz (s.1 + 1) [(3, .int (s.1 + 1)), (0, .ref (h_b Z + 0)), (1, .int v1), (2, .int v2)] dX10_when_56 3 rfl rfl rfl rfl ?_
      refine x_goto hz dX10_when_59 ?_
      exact x_sub [1, 2, 3, 0] rfl (hk28 (s.1 + 1, s.2))
    refine x_aload_n hz dX10_when_50 rfl 0 rfl ?_
    refine x_iload_n hz dX10_when_51 rfl 1 rfl ?_
    refine x_iload_n hz dX10_when_52 rfl 3 rfl ?_
    refine x_bind (fun q53 hq53 => ?_)
    refine x_callV hz mv_X10_229 sm_0 (by decide) rfl rfl (kX10_seconds (n := n) v1 s.1 s.2 q53 hq53) rfl (av := [.int v1, .int s.1]) (rest := []) rfl rfl (Nat.le_of_ble_eq_true rfl) dX10_when_53 ?_
    refine x_iinc hz (s.1 + 1) [(3, .int (s.1 + 1)), (0, .ref (h_b Z + 0)), (1, .int v1), (2, .int v2)] dX10_when_56 3 rfl rfl rfl rfl ?_
    refine x_goto hz dX10_when_59 ?_
    exact x_sub [1, 2, 3, 0] rfl (hk28 (s.1 + 1, q53))
  refine x_iload_n hz dX10_when_42 rfl 3 rfl ?_
  exact x_iret hz rfl dX10_when_43
set_option maxRecDepth 10000 in
set_option maxHeartbeats 4000000 in
theorem wX10_when {Z : hZ} {n : Nat} (hz : hOK Z hYm cX10_when RX10 4 (n + 4) (some .int)) (a1 : Int32) (a2 : Int32) (M : hMem) : hW Z rtM M 0 [(0, .ref (h_b Z + 0)), (1, .int a1), (2, .int a2)] [] (fX10_when a1 a2 M) := by
  unfold fX10_when
  refine x_aload_n hz dX10_when_0 rfl 0 rfl ?_
  refine x_iload_n hz dX10_when_1 rfl 1 rfl ?_
  refine x_callV hz mv_X10_199 sm_0 (by decide) rfl rfl (kX10_isHat (n := (n + 2)) a1 M) rfl (av := [.int a1]) (rest := []) rfl rfl (Nat.le_of_ble_eq_true rfl) dX10_when_2 ?_
  refine x_if_ne hz dX10_when_5 ?_ ?_
  · refine x_iload_n hz dX10_when_11 rfl 2 rfl ?_
    refine x_callS hz ms_X10_97 (kX10_isSquare (n := (n + 2)) a2 M) rfl (av := [.int a2]) (rest := []) rfl rfl (Nat.le_of_ble_eq_true rfl) dX10_when_12 ?_
    refine x_if_ne hz dX10_when_15 ?_ ?_
    · refine x_aload_n hz dX10_when_21 rfl 0 rfl ?_
      refine x_iload_n hz dX10_when_22 rfl 1 rfl ?_
      refine x_bind (fun q23 hq23 => ?_)
      refine x_callV hz mv_X10_233 sm_0 (by decide) rfl rfl (kX10_begins (n := (n + 3)) a1 M q23 hq23) rfl (av := [.int a1]) (rest := []) rfl rfl (Nat.le_of_ble_eq_true rfl) dX10_when_23 ?_
      refine x_iconst hz 0 dX10_when_26 rfl ?_
      refine x_istore_n hz [(3, .int 0), (0, .ref (h_b Z + 0)), (1, .int a1), (2, .int a2)] dX10_when_27 rfl rfl rfl ?_
      exact x_sub [1, 2, 3, 0] rfl (wX10_when_L28 hz a1 a2 h_FU (0, q23))
    refine x_bipush hz (-7) dX10_when_18 rfl ?_
    exact x_iret hz rfl dX10_when_20
  refine x_bipush hz (-5) dX10_when_8 rfl ?_
  exact x_iret hz rfl dX10_when_10
theorem kX10_when {l : Launch} {dd : hDD} {b n : Nat} (a1 : Int32) (a2 : Int32) (M : hMem) (r : Int32 × hMem) (h : fX10_when a1 a2 M = some r) : hC l hYm dd b yX10_when cX10_when 4 (some .int) (n + 4) [.ref (b + 0), .int a1, .int a2] M (some (.int r.1), r.2) :=
  h_met (av := fun b => [.ref (b + 0), .int a1, .int a2]) (rt := rtM) (by decide) (Nat.le_of_ble_eq_true rfl) (fun Z hz => wX10_when (n := n) hz a1 a2 M) r h
set_option maxRecDepth 10000 in
set_option maxHeartbeats 4000000 in
theorem wX10_track_L32 {Z : hZ} {n : Nat} (hz : hOK Z hYm cX10_track RX10 5 (n + 4) (some .int))  (v1 : Int32) (v2 : Int32)   : ∀ (i : Nat) (s : Int32 × Int32 × hMem), hW Z rtM s.2.2 32 [(0, .ref (h_b Z + 0)), (1, .int v1), (2, .int v2), (3, .int s.1), (4, .int s.2.1)] [] (h_lp (fX10_track_L32 v1 v2) i s) := by
  refine x_loop (Ms := fun s : Int32 × Int32 × hMem => s.2.2) (Ls := fun s : Int32 × Int32 × hMem => [(0, .ref (h_b Z + 0)), (1, .int v1), (2, .int v2), (3, .int s.1), (4, .int s.2.1)]) ?_
  intro k32 hk32 s
  show hW Z rtM s.2.2 32 [(0, .ref (h_b Z + 0)), (1, .int v1), (2, .int v2), (3, .int s.1), (4, .int s.2.1)] [] (fX10_track_L32 v1 v2 k32 s)
  unfold fX10_track_L32
  refine x_iload hz dX10_track_32 4 rfl ?_
  refine x_iload_n hz dX10_track_34 rfl 2 rfl ?_
  refine x_icmp_ge hz dX10_track_35 ?_ ?_
  · refine x_iload_n hz dX10_track_60 rfl 3 rfl ?_
    exact x_iret hz rfl dX10_track_61
  refine x_aload_n hz dX10_track_38 rfl 0 rfl ?_
  refine x_iload_n hz dX10_track_39 rfl 1 rfl ?_
  refine x_iload hz dX10_track_40 4 rfl ?_
  refine x_bind (fun q42 hq42 => ?_)
  refine x_callV hz mv_X10_229 sm_0 (by decide) rfl rfl (kX10_seconds (n := n) v1 s.2.1 s.2.2 q42 hq42) rfl (av := [.int v1, .int s.2.1]) (rest := []) rfl rfl (Nat.le_of_ble_eq_true rfl) dX10_track_42 ?_
  refine x_iload_n hz dX10_track_45 rfl 3 rfl ?_
  refine x_iconst hz 1 dX10_track_46 rfl ?_
  refine x_aload_n hz dX10_track_47 rfl 0 rfl ?_
  refine x_geti hz sm_0 fl_X10_211 rfl dX10_track_48 ?_
  refine x_ishl hz dX10_track_51 ?_
  refine x_ior hz dX10_track_52 ?_
  refine x_istore_n hz [(3, .int (s.1 ||| (1 <<< ((q42 0 36) &&& 31)))), (0, .ref (h_b Z + 0)), (1, .int v1), (2, .int v2), (4, .int s.2.1)] dX10_track_53 rfl rfl rfl ?_
  refine x_iinc hz (s.2.1 + 1) [(4, .int (s.2.1 + 1)), (3, .int (s.1 ||| (1 <<< ((q42 0 36) &&& 31)))), (0, .ref (h_b Z + 0)), (1, .int v1), (2, .int v2)] dX10_track_54 4 rfl rfl rfl rfl ?_
  refine x_goto hz dX10_track_57 ?_
  exact x_sub [2, 3, 4, 1, 0] rfl (hk32 (s.1 ||| (1 <<< ((q42 0 36) &&& 31)), s.2.1 + 1, q42))
set_option maxRecDepth 10000 in
set_option maxHeartbeats 4000000 in
theorem wX10_track {Z : hZ} {n : Nat} (hz : hOK Z hYm cX10_track RX10 5 (n + 4) (some .int)) (a1 : Int32) (a2 : Int32) (M : hMem) : hW Z rtM M 0 [(0, .ref (h_b Z + 0)), (1, .int a1), (2, .int a2)] [] (fX10_track a1 a2 M) := by
  unfold fX10_track
  refine x_aload_n hz dX10_track_0 rfl 0 rfl ?_
  refine x_iload_n hz dX10_track_1 rfl 1 rfl ?_
  refine x_callV hz mv_X10_199 sm_0 (by decide) rfl rfl (kX10_isHat (n := (n + 2)) a1 M) rfl (av := [.int a1]) (rest := []) rfl rfl (Nat.le_of_ble_eq_true rfl) dX10_track_2 ?_
  refine x_if_eq hz dX10_track_5 ?_ ?_
  · refine x_iconst hz 0 dX10_track_15 rfl ?_
    exact x_iret hz rfl dX10_track_16
  refine x_iload_n hz dX10_track_8 rfl 2 rfl ?_
  refine x_callS hz ms_X10_189 (kX10_areSeconds (n := (n + 2)) a2 M) rfl (av := [.int a2]) (rest := []) rfl rfl (Nat.le_of_ble_eq_true rfl) dX10_track_9 ?_
  refine x_if_ne hz dX10_track_12 ?_ ?_
  · refine x_aload_n hz dX10_track_17 rfl 0 rfl ?_
    refine x_iload_n hz dX10_track_18 rfl 1 rfl ?_
    refine x_bind (fun q19 hq19 => ?_)
    refine x_callV hz mv_X10_233 sm_0 (by decide) rfl rfl (kX10_begins (n := (n + 3)) a1 M q19 hq19) rfl (av := [.int a1]) (rest := []) rfl rfl (Nat.le_of_ble_eq_true rfl) dX10_track_19 ?_
    refine x_iconst hz 1 dX10_track_22 rfl ?_
    refine x_aload_n hz dX10_track_23 rfl 0 rfl ?_
    refine x_geti hz sm_0 fl_X10_211 rfl dX10_track_24 ?_
    refine x_ishl hz dX10_track_27 ?_
    refine x_istore_n hz [(3, .int (1 <<< ((q19 0 36) &&& 31))), (0, .ref (h_b Z + 0)), (1, .int a1), (2, .int a2)] dX10_track_28 rfl rfl rfl ?_
    refine x_iconst hz 0 dX10_track_29 rfl ?_
    refine x_istore hz [(4, .int 0), (3, .int (1 <<< ((q19 0 36) &&& 31))), (0, .ref (h_b Z + 0)), (1, .int a1), (2, .int a2)] dX10_track_30 rfl rfl ?_
    exact x_sub [2, 3, 4, 1, 0] rfl (wX10_track_L32 hz a1 a2 h_FU (1 <<< ((q19 0 36) &&& 31), 0, q19))
  refine x_iconst hz 0 dX10_track_15 rfl ?_
  exact x_iret hz rfl dX10_track_16
theorem kX10_track {l : Launch} {dd : hDD} {b n : Nat} (a1 : Int32) (a2 : Int32) (M : hMem) (r : Int32 × hMem) (h : fX10_track a1 a2 M = some r) : hC l hYm dd b yX10_track cX10_track 5 (some .int) (n + 4) [.ref (b + 0), .int a1, .int a2] M (some (.int r.1), r.2) :=
  h_met (av := fun b => [.ref (b + 0), .int a1, .int a2]) (rt := rtM) (by decide) (Nat.le_of_ble_eq_true rfl) (fun Z hz => wX10_track (n := n) hz a1 a2 M) r h
set_option maxRecDepth 10000 in
set_option maxHeartbeats 4000000 in
theorem wX10_over_L18 {Z : hZ} {n : Nat} (hz : hOK Z hYm cX10_over RX10 3 (n + 4) (some .int))  (v1 : Int32)   : ∀ (i : Nat) (s : Int32 × hMem), hW Z rtM s.2 18 [(0, .ref (h_b Z + 0)), (1, .int v1), (2, .int s.1)] [] (h_lp (fX10_over_L18 v1) i s) := by
  refine x_loop (Ms := fun s : Int32 × hMem => s.2) (Ls := fun s : Int32 × hMem => [(0, .ref (h_b Z + 0)), (1, .int v1), (2, .int s.1)]) ?_
  intro k18 hk18 s
  show hW Z rtM s.2 18 [(0, .ref (h_b Z + 0)), (1, .int v1), (2, .int s.1)] [] (fX10_over_L18 v1 k18 s)
  unfold fX10_over_L18
  refine x_iload_n hz dX10_over_18 rfl 2 rfl ?_
  refine x_bipush hz 24 dX10_over_19 rfl ?_
  refine x_icmp_ge hz dX10_over_21 ?_ ?_
  · refine x_aload_n hz dX10_over_50 rfl 0 rfl ?_
    refine x_iconst hz 1 dX10_over_51 rfl ?_
    refine x_aload_n hz dX10_over_52 rfl 0 rfl ?_
    refine x_geti hz sm_0 fl_X10_211 rfl dX10_over_53 ?_
    refine x_bind (fun q56 hq56 => ?_)
    refine x_callV hz mv_X10_101 sm_0 (by decide) rfl rfl (kX10_has (n := (n + 3)) 1 (s.2 0 36) s.2 q56 hq56) rfl (av := [.int 1, .int (s.2 0 36)]) (rest := []) rfl rfl (Nat.le_of_ble_eq_true rfl) dX10_over_56 ?_
    refine x_if_eq hz dX10_over_59 ?_ ?_
    · refine x_iconst hz (-1) dX10_over_67 rfl ?_
      exact x_iret hz rfl dX10_over_68
    refine x_bipush hz 24 dX10_over_62 rfl ?_
    refine x_goto hz dX10_over_64 ?_
    exact x_iret hz rfl dX10_over_68
  refine x_aload_n hz dX10_over_24 rfl 0 rfl ?_
  refine x_iconst hz 1 dX10_over_25 rfl ?_
  refine x_aload_n hz dX10_over_26 rfl 0 rfl ?_
  refine x_geti hz sm_0 fl_X10_211 rfl dX10_over_27 ?_
  refine x_bind (fun q30 hq30 => ?_)
  refine x_callV hz mv_X10_101 sm_0 (by decide) rfl rfl (kX10_has (n := (n + 3)) 1 (s.2 0 36) s.2 q30 hq30) rfl (av := [.int 1, .int (s.2 0 36)]) (rest := []) rfl rfl (Nat.le_of_ble_eq_true rfl) dX10_over_30 ?_
  refine x_if_eq hz dX10_over_33 ?_ ?_
  · refine x_aload_n hz dX10_over_38 rfl 0 rfl ?_
    refine x_iload_n hz dX10_over_39 rfl 1 rfl ?_
    refine x_iload_n hz dX10_over_40 rfl 2 rfl ?_
    refine x_bind (fun q41 hq41 => ?_)
    refine x_callV hz mv_X10_229 sm_0 (by decide) rfl rfl (kX10_seconds (n := n) v1 s.1 s.2 q41 hq41) rfl (av := [.int v1, .int s.1]) (rest := []) rfl rfl (Nat.le_of_ble_eq_true rfl) dX10_over_41 ?_
    refine x_iinc hz (s.1 + 1) [(2, .int (s.1 + 1)), (0, .ref (h_b Z + 0)), (1, .int v1)] dX10_over_44 2 rfl rfl rfl rfl ?_
    refine x_goto hz dX10_over_47 ?_
    exact x_sub [1, 2, 0] rfl (hk18 (s.1 + 1, q41))
  refine x_iload_n hz dX10_over_36 rfl 2 rfl ?_
  exact x_iret hz rfl dX10_over_37
set_option maxRecDepth 10000 in
set_option maxHeartbeats 4000000 in
theorem wX10_over {Z : hZ} {n : Nat} (hz : hOK Z hYm cX10_over RX10 3 (n + 4) (some .int)) (a1 : Int32) (M : hMem) : hW Z rtM M 0 [(0, .ref (h_b Z + 0)), (1, .int a1)] [] (fX10_over a1 M) := by
  unfold fX10_over
  refine x_aload_n hz dX10_over_0 rfl 0 rfl ?_
  refine x_iload_n hz dX10_over_1 rfl 1 rfl ?_
  refine x_callV hz mv_X10_199 sm_0 (by decide) rfl rfl (kX10_isHat (n := (n + 2)) a1 M) rfl (av := [.int a1]) (rest := []) rfl rfl (Nat.le_of_ble_eq_true rfl) dX10_over_2 ?_
  refine x_if_ne hz dX10_over_5 ?_ ?_
  · refine x_aload_n hz dX10_over_11 rfl 0 rfl ?_
    refine x_iload_n hz dX10_over_12 rfl 1 rfl ?_
    refine x_bind (fun q13 hq13 => ?_)
    refine x_callV hz mv_X10_233 sm_0 (by decide) rfl rfl (kX10_begins (n := (n + 3)) a1 M q13 hq13) rfl (av := [.int a1]) (rest := []) rfl rfl (Nat.le_of_ble_eq_true rfl) dX10_over_13 ?_
    refine x_iconst hz 0 dX10_over_16 rfl ?_
    refine x_istore_n hz [(2, .int 0), (0, .ref (h_b Z + 0)), (1, .int a1)] dX10_over_17 rfl rfl rfl ?_
    exact x_sub [1, 2, 0] rfl (wX10_over_L18 hz a1 h_FU (0, q13))
  refine x_bipush hz (-5) dX10_over_8 rfl ?_
  exact x_iret hz rfl dX10_over_10
theorem kX10_over {l : Launch} {dd : hDD} {b n : Nat} (a1 : Int32) (M : hMem) (r : Int32 × hMem) (h : fX10_over a1 M = some r) : hC l hYm dd b yX10_over cX10_over 3 (some .int) (n + 4) [.ref (b + 0), .int a1] M (some (.int r.1), r.2) :=
  h_met (av := fun b => [.ref (b + 0), .int a1]) (rt := rtM) (by decide) (Nat.le_of_ble_eq_true rfl) (fun Z hz => wX10_over (n := n) hz a1 M) r h
set_option maxRecDepth 10000 in
set_option maxHeartbeats 4000000 in
theorem wX10_round_L51 {Z : hZ} {n : Nat} (hz : hOK Z hYm cX10_round RX10 4 (n + 5) (some .int))  (v1 : Int32) (v2 : Int32)   : ∀ (i : Nat) (s : Int32 × hMem), hW Z rtM s.2 51 [(0, .ref (h_b Z + 0)), (1, .int v1), (2, .int v2), (3, .int s.1)] [] (h_lp (fX10_round_L51 v1 v2) i s) := by
  refine x_loop (Ms := fun s : Int32 × hMem => s.2) (Ls := fun s : Int32 × hMem => [(0, .ref (h_b Z + 0)), (1, .int v1), (2, .int v2), (3, .int s.1)]) ?_
  intro k51 hk51 s
  show hW Z rtM s.2 51 [(0, .ref (h_b Z + 0)), (1, .int v1), (2, .int v2), (3, .int s.1)] [] (fX10_round_L51 v1 v2 k51 s)
  unfold fX10_round_L51
  refine x_aload_n hz dX10_round_51 rfl 0 rfl ?_
  refine x_getr hz sm_0 fl_X10_70 rfl rm_0_40 (by decide) dX10_round_52 ?_
  refine x_iconst hz 3 dX10_round_55 rfl ?_
  refine x_aload_n hz dX10_round_56 rfl 0 rfl ?_
  refine x_geti hz sm_0 fl_X10_211 rfl dX10_round_57 ?_
  refine x_imul hz dX10_round_60 ?_
  refine x_aload_n hz dX10_round_61 rfl 0 rfl ?_
  refine x_geti hz sm_0 fl_X10_208 rfl dX10_round_62 ?_
  refine x_iadd hz dX10_round_65 ?_
  refine x_iald hz sm_21 dX10_round_66 (fun hi66 => ?_)
  refine x_iconst hz (-1) dX10_round_67 rfl ?_
  refine x_icmp_ne hz dX10_round_68 ?_ ?_
  · refine x_iload_n hz dX10_round_101 rfl 2 rfl ?_
    refine x_if_ne hz dX10_round_102 ?_ ?_
    · refine x_iload_n hz dX10_round_109 rfl 3 rfl ?_
      refine x_aload_n hz dX10_round_110 rfl 0 rfl ?_
      refine x_getr hz sm_0 fl_X10_70 rfl rm_0_40 (by decide) dX10_round_111 ?_
      refine x_iconst hz 3 dX10_round_114 rfl ?_
      refine x_aload_n hz dX10_round_115 rfl 0 rfl ?_
      refine x_geti hz sm_0 fl_X10_211 rfl dX10_round_116 ?_
      refine x_imul hz dX10_round_119 ?_
      refine x_aload_n hz dX10_round_120 rfl 0 rfl ?_
      refine x_geti hz sm_0 fl_X10_208 rfl dX10_round_121 ?_
      refine x_iadd hz dX10_round_124 ?_
      refine x_iald hz sm_21 dX10_round_125 (fun hi125 => ?_)
      refine x_isub hz dX10_round_126 ?_
      exact x_iret hz rfl dX10_round_127
    refine x_iload_n hz dX10_round_105 rfl 3 rfl ?_
    refine x_goto hz dX10_round_106 ?_
    exact x_iret hz rfl dX10_round_127
  refine x_aload_n hz dX10_round_71 rfl 0 rfl ?_
  refine x_getr hz sm_0 fl_X10_70 rfl rm_0_40 (by decide) dX10_round_72 ?_
  refine x_iconst hz 3 dX10_round_75 rfl ?_
  refine x_aload_n hz dX10_round_76 rfl 0 rfl ?_
  refine x_geti hz sm_0 fl_X10_211 rfl dX10_round_77 ?_
  refine x_imul hz dX10_round_80 ?_
  refine x_aload_n hz dX10_round_81 rfl 0 rfl ?_
  refine x_geti hz sm_0 fl_X10_208 rfl dX10_round_82 ?_
  refine x_iadd hz dX10_round_85 ?_
  refine x_iload_n hz dX10_round_86 rfl 3 rfl ?_
  refine x_iast hz sm_21 dX10_round_87 (fun hi87 => ?_)
  refine x_aload_n hz dX10_round_88 rfl 0 rfl ?_
  refine x_iload_n hz dX10_round_89 rfl 1 rfl ?_
  refine x_bipush hz 24 dX10_round_90 rfl ?_
  refine x_bind (fun q92 hq92 => ?_)
  refine x_callV hz mv_X10_236 sm_0 (by decide) rfl rfl (kX10_goesOn (n := n) v1 24 (h_up s.2 21 ((3 * (s.2 0 36)) + (s.2 0 37)).toNatClampNeg s.1) q92 hq92) rfl (av := [.int v1, .int 24]) (rest := []) rfl rfl (Nat.le_of_ble_eq_true rfl) dX10_round_92 ?_
  refine x_iinc hz (s.1 + 1) [(3, .int (s.1 + 1)), (0, .ref (h_b Z + 0)), (1, .int v1), (2, .int v2)] dX10_round_95 3 rfl rfl rfl rfl ?_
  refine x_goto hz dX10_round_98 ?_
  exact x_sub [1, 2, 3, 0] rfl (hk51 (s.1 + 1, q92))
set_option maxRecDepth 10000 in
set_option maxHeartbeats 4000000 in
theorem wX10_round_L25 {Z : hZ} {n : Nat} (hz : hOK Z hYm cX10_round RX10 4 (n + 5) (some .int))  (v1 : Int32) (v2 : Int32)   : ∀ (i : Nat) (s : Int32 × hMem), hW Z rtM s.2 25 [(0, .ref (h_b Z + 0)), (1, .int v1), (2, .int v2), (3, .int s.1)] [] (h_lp (fX10_round_L25 v1 v2) i s) := by
  refine x_loop (Ms := fun s : Int32 × hMem => s.2) (Ls := fun s : Int32 × hMem => [(0, .ref (h_b Z + 0)), (1, .int v1), (2, .int v2), (3, .int s.1)]) ?_
  intro k25 hk25 s
  show hW Z rtM s.2 25 [(0, .ref (h_b Z + 0)), (1, .int v1), (2, .int v2), (3, .int s.1)] [] (fX10_round_L25 v1 v2 k25 s)
  unfold fX10_round_L25
  refine x_iload_n hz dX10_round_25 rfl 3 rfl ?_
  refine x_bipush hz 96 dX10_round_26 rfl ?_
  refine x_icmp_ge hz dX10_round_28 ?_ ?_
  · refine x_aload_n hz dX10_round_44 rfl 0 rfl ?_
    refine x_iload_n hz dX10_round_45 rfl 1 rfl ?_
    refine x_bind (fun q46 hq46 => ?_)
    refine x_callV hz mv_X10_233 sm_0 (by decide) rfl rfl (kX10_begins (n := (n + 4)) v1 s.2 q46 hq46) rfl (av := [.int v1]) (rest := []) rfl rfl (Nat.le_of_ble_eq_true rfl) dX10_round_46 ?_
    refine x_iconst hz 0 dX10_round_49 rfl ?_
    refine x_istore_n hz [(3, .int 0), (0, .ref (h_b Z + 0)), (1, .int v1), (2, .int v2)] dX10_round_50 rfl rfl rfl ?_
    exact x_sub [1, 2, 3, 0] rfl (wX10_round_L51 hz v1 v2 h_FU (0, q46))
  refine x_aload_n hz dX10_round_31 rfl 0 rfl ?_
  refine x_getr hz sm_0 fl_X10_70 rfl rm_0_40 (by decide) dX10_round_32 ?_
  refine x_iload_n hz dX10_round_35 rfl 3 rfl ?_
  refine x_iconst hz (-1) dX10_round_36 rfl ?_
  refine x_iast hz sm_21 dX10_round_37 (fun hi37 => ?_)
  refine x_iinc hz (s.1 + 1) [(3, .int (s.1 + 1)), (0, .ref (h_b Z + 0)), (1, .int v1), (2, .int v2)] dX10_round_38 3 rfl rfl rfl rfl ?_
  refine x_goto hz dX10_round_41 ?_
  exact x_sub [1, 2, 3, 0] rfl (hk25 (s.1 + 1, h_up s.2 21 s.1.toNatClampNeg (-1)))
set_option maxRecDepth 10000 in
set_option maxHeartbeats 4000000 in
theorem wX10_round {Z : hZ} {n : Nat} (hz : hOK Z hYm cX10_round RX10 4 (n + 5) (some .int)) (a1 : Int32) (a2 : Int32) (M : hMem) : hW Z rtM M 0 [(0, .ref (h_b Z + 0)), (1, .int a1), (2, .int a2)] [] (fX10_round a1 a2 M) := by
  unfold fX10_round
  refine x_aload_n hz dX10_round_0 rfl 0 rfl ?_
  refine x_iload_n hz dX10_round_1 rfl 1 rfl ?_
  refine x_callV hz mv_X10_199 sm_0 (by decide) rfl rfl (kX10_isHat (n := (n + 3)) a1 M) rfl (av := [.int a1]) (rest := []) rfl rfl (Nat.le_of_ble_eq_true rfl) dX10_round_2 ?_
  refine x_if_ne hz dX10_round_5 ?_ ?_
  · refine x_iload_n hz dX10_round_11 rfl 2 rfl ?_
    refine x_iconst hz 0 dX10_round_12 rfl ?_
    refine x_iconst hz 1 dX10_round_13 rfl ?_
    refine x_callS hz ms_X10_93 (kX10_in (n := (n + 4)) a2 0 1 M) rfl (av := [.int a2, .int 0, .int 1]) (rest := []) rfl rfl (Nat.le_of_ble_eq_true rfl) dX10_round_14 ?_
    refine x_if_ne hz dX10_round_17 ?_ ?_
    · refine x_iconst hz 0 dX10_round_23 rfl ?_
      refine x_istore_n hz [(3, .int 0), (0, .ref (h_b Z + 0)), (1, .int a1), (2, .int a2)] dX10_round_24 rfl rfl rfl ?_
      exact x_sub [1, 2, 3, 0] rfl (wX10_round_L25 hz a1 a2 h_FU (0, M))
    refine x_bipush hz (-7) dX10_round_20 rfl ?_
    exact x_iret hz rfl dX10_round_22
  refine x_bipush hz (-5) dX10_round_8 rfl ?_
  exact x_iret hz rfl dX10_round_10
theorem kX10_round {l : Launch} {dd : hDD} {b n : Nat} (a1 : Int32) (a2 : Int32) (M : hMem) (r : Int32 × hMem) (h : fX10_round a1 a2 M = some r) : hC l hYm dd b yX10_round cX10_round 4 (some .int) (n + 5) [.ref (b + 0), .int a1, .int a2] M (some (.int r.1), r.2) :=
  h_met (av := fun b => [.ref (b + 0), .int a1, .int a2]) (rt := rtM) (by decide) (Nat.le_of_ble_eq_true rfl) (fun Z hz => wX10_round (n := n) hz a1 a2 M) r h
set_option maxRecDepth 10000 in
set_option maxHeartbeats 4000000 in
theorem wX10_comesFromAll_L38 {Z : hZ} {n : Nat} (hz : hOK Z hYm cX10_comesFromAll RX10 4 (n + 5) none)  (v1 : Int32) (v2 : Int32) (v3 : Int32) (M : hMem) {k2 : (Int32 × hMem) → Option hMem} (hk2 : ∀ s, hW Z rtV s.2 2 [(0, .ref (h_b Z + 0)), (1, .int v1), (2, .int v2), (3, .int s.1)] [] (k2 s)) : hW Z rtV M 38 [(0, .ref (h_b Z + 0)), (1, .int v1), (2, .int v2), (3, .int v3)] [] (fX10_comesFromAll_L38 k2 v1 v2 v3 M) := by
  unfold fX10_comesFromAll_L38
  refine x_aload_n hz dX10_comesFromAll_38 rfl 0 rfl ?_
  refine x_getr hz sm_0 fl_X10_73 rfl rm_0_41 (by decide) dX10_comesFromAll_39 ?_
  refine x_iload_n hz dX10_comesFromAll_42 rfl 3 rfl ?_
  refine x_aload_n hz dX10_comesFromAll_43 rfl 0 rfl ?_
  refine x_iconst hz 0 dX10_comesFromAll_44 rfl ?_
  refine x_iload_n hz dX10_comesFromAll_45 rfl 3 rfl ?_
  refine x_bind (fun q46 hq46 => ?_)
  refine x_callV hz mv_X10_101 sm_0 (by decide) rfl rfl (kX10_has (n := (n + 4)) 0 v3 M q46 hq46) rfl (av := [.int 0, .int v3]) (rest := [.int v3, .ref (h_b Z + 22)]) rfl rfl (Nat.le_of_ble_eq_true rfl) dX10_comesFromAll_46 ?_
  refine x_if_eq hz dX10_comesFromAll_49 ?_ ?_
  · refine x_aload_n hz dX10_comesFromAll_56 rfl 0 rfl ?_
    refine x_geti hz sm_0 fl_X10_211 rfl dX10_comesFromAll_57 ?_
    refine x_iast hz sm_22 dX10_comesFromAll_60 (fun hi60 => ?_)
    refine x_iinc hz (v3 + 1) [(3, .int (v3 + 1)), (0, .ref (h_b Z + 0)), (1, .int v1), (2, .int v2)] dX10_comesFromAll_61 3 rfl rfl rfl rfl ?_
    refine x_goto hz dX10_comesFromAll_64 ?_
    exact x_sub [1, 2, 3, 0] rfl (hk2 (v3 + 1, h_up M 22 v3.toNatClampNeg (M 0 36)))
  refine x_iconst hz (-1) dX10_comesFromAll_52 rfl ?_
  refine x_goto hz dX10_comesFromAll_53 ?_
  refine x_iast hz sm_22 dX10_comesFromAll_60 (fun hi60 => ?_)
  refine x_iinc hz (v3 + 1) [(3, .int (v3 + 1)), (0, .ref (h_b Z + 0)), (1, .int v1), (2, .int v2)] dX10_comesFromAll_61 3 rfl rfl rfl rfl ?_
  refine x_goto hz dX10_comesFromAll_64 ?_
  exact x_sub [1, 2, 3, 0] rfl (hk2 (v3 + 1, h_up M 22 v3.toNatClampNeg (-1)))
set_option maxRecDepth 10000 in
set_option maxHeartbeats 4000000 in
theorem wX10_comesFromAll_L2 {Z : hZ} {n : Nat} (hz : hOK Z hYm cX10_comesFromAll RX10 4 (n + 5) none)  (v1 : Int32) (v2 : Int32)   : ∀ (i : Nat) (s : Int32 × hMem), hW Z rtV s.2 2 [(0, .ref (h_b Z + 0)), (1, .int v1), (2, .int v2), (3, .int s.1)] [] (h_lp (fX10_comesFromAll_L2 v1 v2) i s) := by
  refine x_loop (Ms := fun s : Int32 × hMem => s.2) (Ls := fun s : Int32 × hMem => [(0, .ref (h_b Z + 0)), (1, .int v1), (2, .int v2), (3, .int s.1)]) ?_
  intro k2 hk2 s
  show hW Z rtV s.2 2 [(0, .ref (h_b Z + 0)), (1, .int v1), (2, .int v2), (3, .int s.1)] [] (fX10_comesFromAll_L2 v1 v2 k2 s)
  unfold fX10_comesFromAll_L2
  refine x_iload_n hz dX10_comesFromAll_2 rfl 3 rfl ?_
  refine x_bipush hz 32 dX10_comesFromAll_3 rfl ?_
  refine x_icmp_ge hz dX10_comesFromAll_5 ?_ ?_
  · exact x_vret hz rfl dX10_comesFromAll_67
  refine x_aload_n hz dX10_comesFromAll_8 rfl 0 rfl ?_
  refine x_iload_n hz dX10_comesFromAll_9 rfl 3 rfl ?_
  refine x_puti hz sm_0 fp_X10_211 rfl dX10_comesFromAll_10 ?_
  refine x_aload_n hz dX10_comesFromAll_13 rfl 0 rfl ?_
  refine x_aload_n hz dX10_comesFromAll_14 rfl 0 rfl ?_
  refine x_getr hz sm_0 fl_X10_28 rfl rm_0_7 (by decide) dX10_comesFromAll_15 ?_
  refine x_iload_n hz dX10_comesFromAll_18 rfl 1 rfl ?_
  refine x_iald hz sm_7 dX10_comesFromAll_19 (fun hi19 => ?_)
  refine x_puti hz sm_0 fp_X10_208 rfl dX10_comesFromAll_20 ?_
  refine x_aload_n hz dX10_comesFromAll_23 rfl 0 rfl ?_
  refine x_iconst hz 0 dX10_comesFromAll_24 rfl ?_
  refine x_iload_n hz dX10_comesFromAll_25 rfl 3 rfl ?_
  refine x_bind (fun q26 hq26 => ?_)
  refine x_callV hz mv_X10_101 sm_0 (by decide) rfl rfl (kX10_has (n := (n + 4)) 0 s.1 (h_up (h_up s.2 0 36 s.1) 0 37 ((h_up s.2 0 36 s.1) 7 v1.toNatClampNeg)) q26 hq26) rfl (av := [.int 0, .int s.1]) (rest := []) rfl rfl (Nat.le_of_ble_eq_true rfl) dX10_comesFromAll_26 ?_
  refine x_if_ne hz dX10_comesFromAll_29 ?_ ?_
  · exact x_sub [0, 1, 2, 3] rfl (wX10_comesFromAll_L38 hz v1 v2 s.1 (h_up (h_up s.2 0 36 s.1) 0 37 ((h_up s.2 0 36 s.1) 7 v1.toNatClampNeg)) hk2)
  refine x_aload_n hz dX10_comesFromAll_32 rfl 0 rfl ?_
  refine x_iload_n hz dX10_comesFromAll_33 rfl 1 rfl ?_
  refine x_iload_n hz dX10_comesFromAll_34 rfl 2 rfl ?_
  refine x_bind (fun q35 hq35 => ?_)
  refine x_callV hz mv_X10_236 sm_0 (by decide) rfl rfl (kX10_goesOn (n := n) v1 v2 (h_up (h_up s.2 0 36 s.1) 0 37 ((h_up s.2 0 36 s.1) 7 v1.toNatClampNeg)) q35 hq35) rfl (av := [.int v1, .int v2]) (rest := []) rfl rfl (Nat.le_of_ble_eq_true rfl) dX10_comesFromAll_35 ?_
  exact x_sub [0, 1, 2, 3] rfl (wX10_comesFromAll_L38 hz v1 v2 s.1 q35 hk2)
set_option maxRecDepth 10000 in
set_option maxHeartbeats 4000000 in
theorem wX10_comesFromAll {Z : hZ} {n : Nat} (hz : hOK Z hYm cX10_comesFromAll RX10 4 (n + 5) none) (a1 : Int32) (a2 : Int32) (M : hMem) : hW Z rtV M 0 [(0, .ref (h_b Z + 0)), (1, .int a1), (2, .int a2)] [] (fX10_comesFromAll a1 a2 M) := by
  unfold fX10_comesFromAll
  refine x_iconst hz 0 dX10_comesFromAll_0 rfl ?_
  refine x_istore_n hz [(3, .int 0), (0, .ref (h_b Z + 0)), (1, .int a1), (2, .int a2)] dX10_comesFromAll_1 rfl rfl rfl ?_
  exact x_sub [1, 2, 3, 0] rfl (wX10_comesFromAll_L2 hz a1 a2 h_FU (0, M))
theorem kX10_comesFromAll {l : Launch} {dd : hDD} {b n : Nat} (a1 : Int32) (a2 : Int32) (M : hMem) (r : hMem) (h : fX10_comesFromAll a1 a2 M = some r) : hC l hYm dd b yX10_comesFromAll cX10_comesFromAll 4 none (n + 5) [.ref (b + 0), .int a1, .int a2] M (none, r) :=
  h_met (av := fun b => [.ref (b + 0), .int a1, .int a2]) (rt := rtV) (by decide) (Nat.le_of_ble_eq_true rfl) (fun Z hz => wX10_comesFromAll (n := n) hz a1 a2 M) r h
set_option maxRecDepth 10000 in
set_option maxHeartbeats 4000000 in
theorem wX10_from_L36 {Z : hZ} {n : Nat} (hz : hOK Z hYm cX10_from RX10 6 (n + 6) (some .int))  (v3 : Int32) (M : hMem)  : ∀ (i : Nat) (s : Int32 × Int32), hW Z rtM M 36 [(0, .ref (h_b Z + 0)), (3, .int v3), (4, .int s.1), (5, .int s.2)] [] (h_lp (fX10_from_L36 v3 M) i s) := by
  refine x_loop (Ms := fun s : Int32 × Int32 => M) (Ls := fun s : Int32 × Int32 => [(0, .ref (h_b Z + 0)), (3, .int v3), (4, .int s.1), (5, .int s.2)]) ?_
  intro k36 hk36 s
  show hW Z rtM M 36 [(0, .ref (h_b Z + 0)), (3, .int v3), (4, .int s.1), (5, .int s.2)] [] (fX10_from_L36 v3 M k36 s)
  unfold fX10_from_L36
  refine x_iload hz dX10_from_36 3 rfl ?_
  refine x_bipush hz 32 dX10_from_38 rfl ?_
  refine x_icmp_ge hz dX10_from_40 ?_ ?_
  · refine x_iload hz dX10_from_73 2 rfl ?_
    exact x_iret hz rfl dX10_from_75
  refine x_iload hz dX10_from_43 2 rfl ?_
  refine x_aload_n hz dX10_from_45 rfl 0 rfl ?_
  refine x_getr hz sm_0 fl_X10_73 rfl rm_0_41 (by decide) dX10_from_46 ?_
  refine x_iload hz dX10_from_49 3 rfl ?_
  refine x_iald hz sm_22 dX10_from_51 (fun hi51 => ?_)
  refine x_iload_n hz dX10_from_52 rfl 1 rfl ?_
  refine x_icmp_ne hz dX10_from_53 ?_ ?_
  · refine x_iconst hz 0 dX10_from_63 rfl ?_
    refine x_ior hz dX10_from_64 ?_
    refine x_istore hz [(4, .int (s.1 ||| 0)), (0, .ref (h_b Z + 0)), (3, .int v3), (5, .int s.2)] dX10_from_65 rfl rfl ?_
    refine x_iinc hz (s.2 + 1) [(5, .int (s.2 + 1)), (4, .int (s.1 ||| 0)), (0, .ref (h_b Z + 0)), (3, .int v3)] dX10_from_67 3 rfl rfl rfl rfl ?_
    refine x_goto hz dX10_from_70 ?_
    exact x_sub [2, 3, 1, 0] rfl (hk36 (s.1 ||| 0, s.2 + 1))
  refine x_iconst hz 1 dX10_from_56 rfl ?_
  refine x_iload hz dX10_from_57 3 rfl ?_
  refine x_ishl hz dX10_from_59 ?_
  refine x_goto hz dX10_from_60 ?_
  refine x_ior hz dX10_from_64 ?_
  refine x_istore hz [(4, .int (s.1 ||| (1 <<< (s.2 &&& 31)))), (0, .ref (h_b Z + 0)), (3, .int v3), (5, .int s.2)] dX10_from_65 rfl rfl ?_
  refine x_iinc hz (s.2 + 1) [(5, .int (s.2 + 1)), (4, .int (s.1 ||| (1 <<< (s.2 &&& 31)))), (0, .ref (h_b Z + 0)), (3, .int v3)] dX10_from_67 3 rfl rfl rfl rfl ?_
  refine x_goto hz dX10_from_70 ?_
  exact x_sub [2, 3, 1, 0] rfl (hk36 (s.1 ||| (1 <<< (s.2 &&& 31)), s.2 + 1))
set_option maxRecDepth 10000 in
set_option maxHeartbeats 4000000 in
theorem wX10_from {Z : hZ} {n : Nat} (hz : hOK Z hYm cX10_from RX10 6 (n + 6) (some .int)) (a1 : Int32) (a2 : Int32) (a3 : Int32) (M : hMem) : hW Z rtM M 0 [(0, .ref (h_b Z + 0)), (1, .int a1), (2, .int a2), (3, .int a3)] [] (fX10_from a1 a2 a3 M) := by
  unfold fX10_from
  refine x_aload_n hz dX10_from_0 rfl 0 rfl ?_
  refine x_iload_n hz dX10_from_1 rfl 1 rfl ?_
  refine x_callV hz mv_X10_199 sm_0 (by decide) rfl rfl (kX10_isHat (n := (n + 4)) a1 M) rfl (av := [.int a1]) (rest := []) rfl rfl (Nat.le_of_ble_eq_true rfl) dX10_from_2 ?_
  refine x_if_eq hz dX10_from_5 ?_ ?_
  · refine x_iconst hz 0 dX10_from_22 rfl ?_
    exact x_iret hz rfl dX10_from_23
  refine x_iload_n hz dX10_from_8 rfl 2 rfl ?_
  refine x_callS hz ms_X10_189 (kX10_areSeconds (n := (n + 4)) a2 M) rfl (av := [.int a2]) (rest := []) rfl rfl (Nat.le_of_ble_eq_true rfl) dX10_from_9 ?_
  refine x_if_eq hz dX10_from_12 ?_ ?_
  · refine x_iconst hz 0 dX10_from_22 rfl ?_
    exact x_iret hz rfl dX10_from_23
  refine x_iload_n hz dX10_from_15 rfl 3 rfl ?_
  refine x_callS hz ms_X10_97 (kX10_isSquare (n := (n + 4)) a3 M) rfl (av := [.int a3]) (rest := []) rfl rfl (Nat.le_of_ble_eq_true rfl) dX10_from_16 ?_
  refine x_if_ne hz dX10_from_19 ?_ ?_
  · refine x_aload_n hz dX10_from_24 rfl 0 rfl ?_
    refine x_iload_n hz dX10_from_25 rfl 1 rfl ?_
    refine x_iload_n hz dX10_from_26 rfl 2 rfl ?_
    refine x_bind (fun q27 hq27 => ?_)
    refine x_callV hz mv_X10_245 sm_0 (by decide) rfl rfl (kX10_comesFromAll (n := n) a1 a2 M q27 hq27) rfl (av := [.int a1, .int a2]) (rest := []) rfl rfl (Nat.le_of_ble_eq_true rfl) dX10_from_27 ?_
    refine x_iconst hz 0 dX10_from_30 rfl ?_
    refine x_istore hz [(4, .int 0), (0, .ref (h_b Z + 0)), (1, .int a1), (2, .int a2), (3, .int a3)] dX10_from_31 rfl rfl ?_
    refine x_iconst hz 0 dX10_from_33 rfl ?_
    refine x_istore hz [(5, .int 0), (4, .int 0), (0, .ref (h_b Z + 0)), (1, .int a1), (2, .int a2), (3, .int a3)] dX10_from_34 rfl rfl ?_
    exact x_sub [2, 5, 1, 0] rfl (wX10_from_L36 hz a3 q27 h_FU (0, 0))
  refine x_iconst hz 0 dX10_from_22 rfl ?_
  exact x_iret hz rfl dX10_from_23
theorem kX10_from {l : Launch} {dd : hDD} {b n : Nat} (a1 : Int32) (a2 : Int32) (a3 : Int32) (M : hMem) (r : Int32 × hMem) (h : fX10_from a1 a2 a3 M = some r) : hC l hYm dd b yX10_from cX10_from 6 (some .int) (n + 6) [.ref (b + 0), .int a1, .int a2, .int a3] M (some (.int r.1), r.2) :=
  h_met (av := fun b => [.ref (b + 0), .int a1, .int a2, .int a3]) (rt := rtM) (by decide) (Nat.le_of_ble_eq_true rfl) (fun Z hz => wX10_from (n := n) hz a1 a2 a3 M) r h
set_option maxRecDepth 10000 in
set_option maxHeartbeats 4000000 in
theorem wX10_keeps_L107 {Z : hZ} {n : Nat} (hz : hOK Z hYm cX10_keeps RX10 9 (n + 6) (some .int))  (v3 : Int32) (v5 : Int32) (v6 : Int32) (v7 : Int32) (t0 : Int32) (M : hMem) {k45 : (Int32 × Int32 × Int32) → Option (Int32 × hMem)} (hk45 : ∀ s, hW Z rtM M 45 [(0, .ref (h_b Z + 0)), (3, .int v3), (4, .int s.1), (5, .int s.2.1), (6, .int s.2.2)] [] (k45 s)) : hW Z rtM M 107 [(0, .ref (h_b Z + 0)), (3, .int v3), (5, .int v5), (6, .int v6), (7, .int v7)] [.int t0] (fX10_keeps_L107 k45 v3 v5 v6 v7 t0 M) := by
  unfold fX10_keeps_L107
  refine x_istore hz [(4, .int t0), (0, .ref (h_b Z + 0)), (3, .int v3), (5, .int v5), (6, .int v6), (7, .int v7)] dX10_keeps_107 rfl rfl ?_
  refine x_iload hz dX10_keeps_109 5 rfl ?_
  refine x_iload hz dX10_keeps_111 3 rfl ?_
  refine x_icmp_le hz dX10_keeps_113 ?_ ?_
  · refine x_iload hz dX10_keeps_121 3 rfl ?_
    refine x_istore hz [(5, .int v5), (4, .int t0), (0, .ref (h_b Z + 0)), (3, .int v3), (6, .int v6), (7, .int v7)] dX10_keeps_123 rfl rfl ?_
    refine x_iinc hz (v6 + 1) [(6, .int (v6 + 1)), (5, .int v5), (4, .int t0), (0, .ref (h_b Z + 0)), (3, .int v3), (7, .int v7)] dX10_keeps_125 4 rfl rfl rfl rfl ?_
    refine x_goto hz dX10_keeps_128 ?_
    exact x_sub [3, 4, 2, 1, 0] rfl (hk45 (t0, v5, v6 + 1))
  refine x_iload hz dX10_keeps_116 5 rfl ?_
  refine x_goto hz dX10_keeps_118 ?_
  refine x_istore hz [(5, .int v7), (4, .int t0), (0, .ref (h_b Z + 0)), (3, .int v3), (6, .int v6), (7, .int v7)] dX10_keeps_123 rfl rfl ?_
  refine x_iinc hz (v6 + 1) [(6, .int (v6 + 1)), (5, .int v7), (4, .int t0), (0, .ref (h_b Z + 0)), (3, .int v3), (7, .int v7)] dX10_keeps_125 4 rfl rfl rfl rfl ?_
  refine x_goto hz dX10_keeps_128 ?_
  exact x_sub [3, 4, 2, 1, 0] rfl (hk45 (t0, v7, v6 + 1))
set_option maxRecDepth 10000 in
set_option maxHeartbeats 4000000 in
theorem wX10_keeps_L58 {Z : hZ} {n : Nat} (hz : hOK Z hYm cX10_keeps RX10 9 (n + 6) (some .int))  (v3 : Int32) (v4 : Int32) (v5 : Int32) (v6 : Int32) (M : hMem) {k45 : (Int32 × Int32 × Int32) → Option (Int32 × hMem)} (hk45 : ∀ s, hW Z rtM M 45 [(0, .ref (h_b Z + 0)), (3, .int v3), (4, .int s.1), (5, .int s.2.1), (6, .int s.2.2)] [] (k45 s)) : ∀ (i : Nat) (s : Int32 × Int32), hW Z rtM M 58 [(0, .ref (h_b Z + 0)), (3, .int v3), (4, .int v4), (5, .int v5), (6, .int v6), (7, .int s.1), (8, .int s.2)] [] (h_lp (fX10_keeps_L58 k45 v3 v4 v5 v6 M) i s) := by
  refine x_loop (Ms := fun s : Int32 × Int32 => M) (Ls := fun s : Int32 × Int32 => [(0, .ref (h_b Z + 0)), (3, .int v3), (4, .int v4), (5, .int v5), (6, .int v6), (7, .int s.1), (8, .int s.2)]) ?_
  intro k58 hk58 s
  show hW Z rtM M 58 [(0, .ref (h_b Z + 0)), (3, .int v3), (4, .int v4), (5, .int v5), (6, .int v6), (7, .int s.1), (8, .int s.2)] [] (fX10_keeps_L58 k45 v3 v4 v5 v6 M k58 s)
  unfold fX10_keeps_L58
  refine x_iload hz dX10_keeps_58 6 rfl ?_
  refine x_bipush hz 32 dX10_keeps_60 rfl ?_
  refine x_icmp_ge hz dX10_keeps_62 ?_ ?_
  · refine x_iload hz dX10_keeps_93 5 rfl ?_
    refine x_iload hz dX10_keeps_95 3 rfl ?_
    refine x_icmp_le hz dX10_keeps_97 ?_ ?_
    · refine x_iload hz dX10_keeps_105 2 rfl ?_
      exact x_sub [0, 1, 3, 4, 5] rfl (wX10_keeps_L107 hz v3 v5 v6 s.1 v4 M hk45)
    refine x_iload hz dX10_keeps_100 4 rfl ?_
    refine x_goto hz dX10_keeps_102 ?_
    exact x_sub [0, 1, 3, 4, 5] rfl (wX10_keeps_L107 hz v3 v5 v6 s.1 v6 M hk45)
  refine x_iload hz dX10_keeps_65 5 rfl ?_
  refine x_aload_n hz dX10_keeps_67 rfl 0 rfl ?_
  refine x_getr hz sm_0 fl_X10_73 rfl rm_0_41 (by decide) dX10_keeps_68 ?_
  refine x_iload hz dX10_keeps_71 6 rfl ?_
  refine x_iald hz sm_22 dX10_keeps_73 (fun hi73 => ?_)
  refine x_iload hz dX10_keeps_74 4 rfl ?_
  refine x_icmp_ne hz dX10_keeps_76 ?_ ?_
  · refine x_iconst hz 0 dX10_keeps_83 rfl ?_
    refine x_iadd hz dX10_keeps_84 ?_
    refine x_istore hz [(7, .int (s.1 + 0)), (0, .ref (h_b Z + 0)), (3, .int v3), (4, .int v4), (5, .int v5), (6, .int v6), (8, .int s.2)] dX10_keeps_85 rfl rfl ?_
    refine x_iinc hz (s.2 + 1) [(8, .int (s.2 + 1)), (7, .int (s.1 + 0)), (0, .ref (h_b Z + 0)), (3, .int v3), (4, .int v4), (5, .int v5), (6, .int v6)] dX10_keeps_87 6 rfl rfl rfl rfl ?_
    refine x_goto hz dX10_keeps_90 ?_
    exact x_sub [2, 3, 4, 5, 6, 1, 0] rfl (hk58 (s.1 + 0, s.2 + 1))
  refine x_iconst hz 1 dX10_keeps_79 rfl ?_
  refine x_goto hz dX10_keeps_80 ?_
  refine x_iadd hz dX10_keeps_84 ?_
  refine x_istore hz [(7, .int (s.1 + 1)), (0, .ref (h_b Z + 0)), (3, .int v3), (4, .int v4), (5, .int v5), (6, .int v6), (8, .int s.2)] dX10_keeps_85 rfl rfl ?_
  refine x_iinc hz (s.2 + 1) [(8, .int (s.2 + 1)), (7, .int (s.1 + 1)), (0, .ref (h_b Z + 0)), (3, .int v3), (4, .int v4), (5, .int v5), (6, .int v6)] dX10_keeps_87 6 rfl rfl rfl rfl ?_
  refine x_goto hz dX10_keeps_90 ?_
  exact x_sub [2, 3, 4, 5, 6, 1, 0] rfl (hk58 (s.1 + 1, s.2 + 1))
set_option maxRecDepth 10000 in
set_option maxHeartbeats 4000000 in
theorem wX10_keeps_L45 {Z : hZ} {n : Nat} (hz : hOK Z hYm cX10_keeps RX10 9 (n + 6) (some .int))  (v3 : Int32) (M : hMem)  : ∀ (i : Nat) (s : Int32 × Int32 × Int32), hW Z rtM M 45 [(0, .ref (h_b Z + 0)), (3, .int v3), (4, .int s.1), (5, .int s.2.1), (6, .int s.2.2)] [] (h_lp (fX10_keeps_L45 v3 M) i s) := by
  refine x_loop (Ms := fun s : Int32 × Int32 × Int32 => M) (Ls := fun s : Int32 × Int32 × Int32 => [(0, .ref (h_b Z + 0)), (3, .int v3), (4, .int s.1), (5, .int s.2.1), (6, .int s.2.2)]) ?_
  intro k45 hk45 s
  show hW Z rtM M 45 [(0, .ref (h_b Z + 0)), (3, .int v3), (4, .int s.1), (5, .int s.2.1), (6, .int s.2.2)] [] (fX10_keeps_L45 v3 M k45 s)
  unfold fX10_keeps_L45
  refine x_iload hz dX10_keeps_45 4 rfl ?_
  refine x_bipush hz 32 dX10_keeps_47 rfl ?_
  refine x_icmp_ge hz dX10_keeps_49 ?_ ?_
  · refine x_iload_n hz dX10_keeps_131 rfl 1 rfl ?_
    refine x_if_ne hz dX10_keeps_132 ?_ ?_
    · refine x_iload hz dX10_keeps_140 3 rfl ?_
      exact x_iret hz rfl dX10_keeps_142
    refine x_iload hz dX10_keeps_135 2 rfl ?_
    refine x_goto hz dX10_keeps_137 ?_
    exact x_iret hz rfl dX10_keeps_142
  refine x_iconst hz 0 dX10_keeps_52 rfl ?_
  refine x_istore hz [(7, .int 0), (0, .ref (h_b Z + 0)), (3, .int v3), (4, .int s.1), (5, .int s.2.1), (6, .int s.2.2)] dX10_keeps_53 rfl rfl ?_
  refine x_iconst hz 0 dX10_keeps_55 rfl ?_
  refine x_istore hz [(8, .int 0), (7, .int 0), (0, .ref (h_b Z + 0)), (3, .int v3), (4, .int s.1), (5, .int s.2.1), (6, .int s.2.2)] dX10_keeps_56 rfl rfl ?_
  exact x_sub [2, 3, 4, 5, 6, 1, 0] rfl (wX10_keeps_L58 hz v3 s.1 s.2.1 s.2.2 M hk45 h_FU (0, 0))
set_option maxRecDepth 10000 in
set_option maxHeartbeats 4000000 in
theorem wX10_keeps {Z : hZ} {n : Nat} (hz : hOK Z hYm cX10_keeps RX10 9 (n + 6) (some .int)) (a1 : Int32) (a2 : Int32) (a3 : Int32) (M : hMem) : hW Z rtM M 0 [(0, .ref (h_b Z + 0)), (1, .int a1), (2, .int a2), (3, .int a3)] [] (fX10_keeps a1 a2 a3 M) := by
  unfold fX10_keeps
  refine x_aload_n hz dX10_keeps_0 rfl 0 rfl ?_
  refine x_iload_n hz dX10_keeps_1 rfl 1 rfl ?_
  refine x_callV hz mv_X10_199 sm_0 (by decide) rfl rfl (kX10_isHat (n := (n + 4)) a1 M) rfl (av := [.int a1]) (rest := []) rfl rfl (Nat.le_of_ble_eq_true rfl) dX10_keeps_2 ?_
  refine x_if_ne hz dX10_keeps_5 ?_ ?_
  · refine x_iload_n hz dX10_keeps_11 rfl 2 rfl ?_
    refine x_callS hz ms_X10_189 (kX10_areSeconds (n := (n + 4)) a2 M) rfl (av := [.int a2]) (rest := []) rfl rfl (Nat.le_of_ble_eq_true rfl) dX10_keeps_12 ?_
    refine x_if_eq hz dX10_keeps_15 ?_ ?_
    · refine x_bipush hz (-7) dX10_keeps_27 rfl ?_
      exact x_iret hz rfl dX10_keeps_29
    refine x_iload_n hz dX10_keeps_18 rfl 3 rfl ?_
    refine x_iconst hz 0 dX10_keeps_19 rfl ?_
    refine x_iconst hz 1 dX10_keeps_20 rfl ?_
    refine x_callS hz ms_X10_93 (kX10_in (n := (n + 5)) a3 0 1 M) rfl (av := [.int a3, .int 0, .int 1]) (rest := []) rfl rfl (Nat.le_of_ble_eq_true rfl) dX10_keeps_21 ?_
    refine x_if_ne hz dX10_keeps_24 ?_ ?_
    · refine x_aload_n hz dX10_keeps_30 rfl 0 rfl ?_
      refine x_iload_n hz dX10_keeps_31 rfl 1 rfl ?_
      refine x_iload_n hz dX10_keeps_32 rfl 2 rfl ?_
      refine x_bind (fun q33 hq33 => ?_)
      refine x_callV hz mv_X10_245 sm_0 (by decide) rfl rfl (kX10_comesFromAll (n := n) a1 a2 M q33 hq33) rfl (av := [.int a1, .int a2]) (rest := []) rfl rfl (Nat.le_of_ble_eq_true rfl) dX10_keeps_33 ?_
      refine x_iconst hz (-1) dX10_keeps_36 rfl ?_
      refine x_istore hz [(4, .int (-1)), (0, .ref (h_b Z + 0)), (1, .int a1), (2, .int a2), (3, .int a3)] dX10_keeps_37 rfl rfl ?_
      refine x_iconst hz 0 dX10_keeps_39 rfl ?_
      refine x_istore hz [(5, .int 0), (4, .int (-1)), (0, .ref (h_b Z + 0)), (1, .int a1), (2, .int a2), (3, .int a3)] dX10_keeps_40 rfl rfl ?_
      refine x_iconst hz 0 dX10_keeps_42 rfl ?_
      refine x_istore hz [(6, .int 0), (5, .int 0), (4, .int (-1)), (0, .ref (h_b Z + 0)), (1, .int a1), (2, .int a2), (3, .int a3)] dX10_keeps_43 rfl rfl ?_
      exact x_sub [3, 6, 2, 1, 0] rfl (wX10_keeps_L45 hz a3 q33 h_FU ((-1), 0, 0))
    refine x_bipush hz (-7) dX10_keeps_27 rfl ?_
    exact x_iret hz rfl dX10_keeps_29
  refine x_bipush hz (-5) dX10_keeps_8 rfl ?_
  exact x_iret hz rfl dX10_keeps_10
theorem kX10_keeps {l : Launch} {dd : hDD} {b n : Nat} (a1 : Int32) (a2 : Int32) (a3 : Int32) (M : hMem) (r : Int32 × hMem) (h : fX10_keeps a1 a2 a3 M = some r) : hC l hYm dd b yX10_keeps cX10_keeps 9 (some .int) (n + 6) [.ref (b + 0), .int a1, .int a2, .int a3] M (some (.int r.1), r.2) :=
  h_met (av := fun b => [.ref (b + 0), .int a1, .int a2, .int a3]) (rt := rtM) (by decide) (Nat.le_of_ble_eq_true rfl) (fun Z hz => wX10_keeps (n := n) hz a1 a2 a3 M) r h
set_option maxRecDepth 10000 in
set_option maxHeartbeats 4000000 in
theorem wX10_areThere {Z : hZ} {n : Nat} (hz : hOK Z hYm cX10_areThere RX10 3 (n + 2) (some .boolean)) (a1 : Int32) (a2 : Int32) (M : hMem) : hW Z (rtP M) M 0 [(0, .ref (h_b Z + 0)), (1, .int a1), (2, .int a2)] [] (some (fX10_areThere a1 a2 M)) := by
  unfold fX10_areThere
  refine x_aload_n hz dX10_areThere_0 rfl 0 rfl ?_
  refine x_iload_n hz dX10_areThere_1 rfl 1 rfl ?_
  refine x_callV hz mv_X10_199 sm_0 (by decide) rfl rfl (kX10_isHat (n := n) a1 M) rfl (av := [.int a1]) (rest := []) rfl rfl (Nat.le_of_ble_eq_true rfl) dX10_areThere_2 ?_
  refine x_pull ?_
  refine x_if_eq hz dX10_areThere_5 ?_ ?_
  · refine x_iconst hz 0 dX10_areThere_20 rfl ?_
    exact x_zret hz rfl rfl dX10_areThere_21
  refine x_aload_n hz dX10_areThere_8 rfl 0 rfl ?_
  refine x_iload_n hz dX10_areThere_9 rfl 2 rfl ?_
  refine x_callV hz mv_X10_202 sm_0 (by decide) rfl rfl (kX10_isCatcher (n := n) a2 M) rfl (av := [.int a2]) (rest := []) rfl rfl (Nat.le_of_ble_eq_true rfl) dX10_areThere_10 ?_
  refine x_pull ?_
  refine x_if_eq hz dX10_areThere_13 ?_ ?_
  · refine x_iconst hz 0 dX10_areThere_20 rfl ?_
    exact x_zret hz rfl rfl dX10_areThere_21
  refine x_iconst hz 1 dX10_areThere_16 rfl ?_
  refine x_goto hz dX10_areThere_17 ?_
  exact x_zret hz rfl rfl dX10_areThere_21
theorem bX10_areThere (a1 : Int32) (a2 : Int32) (M : hMem) : narrow .boolean (.int (fX10_areThere a1 a2 M)) = .int (fX10_areThere a1 a2 M) := by
  unfold fX10_areThere
  repeat (first | rfl | split)
theorem kX10_areThere {l : Launch} {dd : hDD} {b n : Nat} (a1 : Int32) (a2 : Int32) (M : hMem) : hC l hYm dd b yX10_areThere cX10_areThere 3 (some .boolean) (n + 2) [.ref (b + 0), .int a1, .int a2] M (some (.int (fX10_areThere a1 a2 M)), M) :=
  h_met (av := fun b => [.ref (b + 0), .int a1, .int a2]) (rt := (rtP M)) (by decide) (Nat.le_of_ble_eq_true rfl) (fun Z hz => wX10_areThere (n := n) hz a1 a2 M) _ rfl
set_option maxRecDepth 10000 in
set_option maxHeartbeats 4000000 in
theorem wX10_spreads_L73 {Z : hZ} {n : Nat} (hz : hOK Z hYm cX10_spreads RX10 5 (n + 3) none)  (v2 : Int32) (v3 : Int32) (t0 : Int32) (M : hMem) {k32 : (Int32 × hMem) → Option hMem} (hk32 : ∀ s, hW Z rtV s.2 32 [(0, .ref (h_b Z + 0)), (2, .int s.1)] [] (k32 s)) {k40 : (Int32 × hMem) → Option hMem} (hk40 : ∀ s, hW Z rtV s.2 40 [(0, .ref (h_b Z + 0)), (2, .int v2), (3, .int s.1)] [] (k40 s)) : hW Z rtV M 73 [(0, .ref (h_b Z + 0)), (2, .int v2), (3, .int v3)] [.int t0] (fX10_spreads_L73 k32 k40 v2 v3 t0 M) := by
  unfold fX10_spreads_L73
  refine x_istore hz [(4, .int t0), (0, .ref (h_b Z + 0)), (2, .int v2), (3, .int v3)] dX10_spreads_73 rfl rfl ?_
  refine x_iload hz dX10_spreads_75 0 rfl ?_
  refine x_iconst hz (-1) dX10_spreads_77 rfl ?_
  refine x_icmp_eq hz dX10_spreads_78 ?_ ?_
  · refine x_iinc hz (v3 + 1) [(3, .int (v3 + 1)), (4, .int t0), (0, .ref (h_b Z + 0)), (2, .int v2)] dX10_spreads_102 3 rfl rfl rfl rfl ?_
    refine x_goto hz dX10_spreads_105 ?_
    exact x_sub [2, 3, 0] rfl (hk40 (v3 + 1, M))
  refine x_aload_n hz dX10_spreads_81 rfl 1 rfl ?_
  refine x_getr hz sm_0 fl_X10_76 rfl rm_0_42 (by decide) dX10_spreads_82 ?_
  refine x_iload hz dX10_spreads_85 0 rfl ?_
  refine x_iald hz sm_23 dX10_spreads_87 (fun hi87 => ?_)
  refine x_iconst hz (-1) dX10_spreads_88 rfl ?_
  refine x_icmp_ne hz dX10_spreads_89 ?_ ?_
  · refine x_iinc hz (v3 + 1) [(3, .int (v3 + 1)), (4, .int t0), (0, .ref (h_b Z + 0)), (2, .int v2)] dX10_spreads_102 3 rfl rfl rfl rfl ?_
    refine x_goto hz dX10_spreads_105 ?_
    exact x_sub [2, 3, 0] rfl (hk40 (v3 + 1, M))
  refine x_aload_n hz dX10_spreads_92 rfl 1 rfl ?_
  refine x_getr hz sm_0 fl_X10_76 rfl rm_0_42 (by decide) dX10_spreads_93 ?_
  refine x_iload hz dX10_spreads_96 0 rfl ?_
  refine x_iload_n hz dX10_spreads_98 rfl 2 rfl ?_
  refine x_iconst hz 1 dX10_spreads_99 rfl ?_
  refine x_iadd hz dX10_spreads_100 ?_
  refine x_iast hz sm_23 dX10_spreads_101 (fun hi101 => ?_)
  refine x_iinc hz (v3 + 1) [(3, .int (v3 + 1)), (4, .int t0), (0, .ref (h_b Z + 0)), (2, .int v2)] dX10_spreads_102 3 rfl rfl rfl rfl ?_
  refine x_goto hz dX10_spreads_105 ?_
  exact x_sub [2, 3, 0] rfl (hk40 (v3 + 1, h_up M 23 t0.toNatClampNeg (v2 + 1)))
set_option maxRecDepth 10000 in
set_option maxHeartbeats 4000000 in
theorem wX10_spreads_L40 {Z : hZ} {n : Nat} (hz : hOK Z hYm cX10_spreads RX10 5 (n + 3) none)  (v2 : Int32)  {k32 : (Int32 × hMem) → Option hMem} (hk32 : ∀ s, hW Z rtV s.2 32 [(0, .ref (h_b Z + 0)), (2, .int s.1)] [] (k32 s)) : ∀ (i : Nat) (s : Int32 × hMem), hW Z rtV s.2 40 [(0, .ref (h_b Z + 0)), (2, .int v2), (3, .int s.1)] [] (h_lp (fX10_spreads_L40 k32 v2) i s) := by
  refine x_loop (Ms := fun s : Int32 × hMem => s.2) (Ls := fun s : Int32 × hMem => [(0, .ref (h_b Z + 0)), (2, .int v2), (3, .int s.1)]) ?_
  intro k40 hk40 s
  show hW Z rtV s.2 40 [(0, .ref (h_b Z + 0)), (2, .int v2), (3, .int s.1)] [] (fX10_spreads_L40 k32 v2 k40 s)
  unfold fX10_spreads_L40
  refine x_iload_n hz dX10_spreads_40 rfl 2 rfl ?_
  refine x_sipush hz 128 dX10_spreads_41 rfl ?_
  refine x_icmp_ge hz dX10_spreads_44 ?_ ?_
  · refine x_iinc hz (v2 + 1) [(2, .int (v2 + 1)), (0, .ref (h_b Z + 0)), (3, .int s.1)] dX10_spreads_108 1 rfl rfl rfl rfl ?_
    refine x_goto hz dX10_spreads_111 ?_
    exact x_sub [1, 0] rfl (hk32 (v2 + 1, s.2))
  refine x_aload_n hz dX10_spreads_47 rfl 0 rfl ?_
  refine x_getr hz sm_0 fl_X10_76 rfl rm_0_42 (by decide) dX10_spreads_48 ?_
  refine x_iload_n hz dX10_spreads_51 rfl 2 rfl ?_
  refine x_iconst hz 4 dX10_spreads_52 rfl ?_
  refine x_idiv hz dX10_spreads_53 (by decide) ?_
  refine x_iald hz sm_23 dX10_spreads_54 (fun hi54 => ?_)
  refine x_iload_n hz dX10_spreads_55 rfl 1 rfl ?_
  refine x_icmp_ne hz dX10_spreads_56 ?_ ?_
  · refine x_iconst hz (-1) dX10_spreads_72 rfl ?_
    exact x_sub [0, 1, 2] rfl (wX10_spreads_L73 hz v2 s.1 (-1) s.2 hk32 hk40)
  refine x_aload_n hz dX10_spreads_59 rfl 0 rfl ?_
  refine x_iload_n hz dX10_spreads_60 rfl 2 rfl ?_
  refine x_iconst hz 4 dX10_spreads_61 rfl ?_
  refine x_idiv hz dX10_spreads_62 (by decide) ?_
  refine x_iload_n hz dX10_spreads_63 rfl 2 rfl ?_
  refine x_iconst hz 4 dX10_spreads_64 rfl ?_
  refine x_irem hz dX10_spreads_65 (by decide) ?_
  refine x_bind (fun q66 hq66 => ?_)
  refine x_callV hz mv_X10_226 sm_0 (by decide) rfl rfl (kX10_beside (n := n) (s.1 / 4) (h_rem s.1 4) s.2 q66 hq66) rfl (av := [.int (s.1 / 4), .int (h_rem s.1 4)]) (rest := []) rfl rfl (Nat.le_of_ble_eq_true rfl) dX10_spreads_66 ?_
  refine x_goto hz dX10_spreads_69 ?_
  exact x_sub [0, 1, 2] rfl (wX10_spreads_L73 hz v2 s.1 q66 s.2 hk32 hk40)
set_option maxRecDepth 10000 in
set_option maxHeartbeats 4000000 in
theorem wX10_spreads_L32 {Z : hZ} {n : Nat} (hz : hOK Z hYm cX10_spreads RX10 5 (n + 3) none)     : ∀ (i : Nat) (s : Int32 × hMem), hW Z rtV s.2 32 [(0, .ref (h_b Z + 0)), (2, .int s.1)] [] (h_lp (fX10_spreads_L32) i s) := by
  refine x_loop (Ms := fun s : Int32 × hMem => s.2) (Ls := fun s : Int32 × hMem => [(0, .ref (h_b Z + 0)), (2, .int s.1)]) ?_
  intro k32 hk32 s
  show hW Z rtV s.2 32 [(0, .ref (h_b Z + 0)), (2, .int s.1)] [] (fX10_spreads_L32 k32 s)
  unfold fX10_spreads_L32
  refine x_iload_n hz dX10_spreads_32 rfl 1 rfl ?_
  refine x_bipush hz 32 dX10_spreads_33 rfl ?_
  refine x_icmp_ge hz dX10_spreads_35 ?_ ?_
  · exact x_vret hz rfl dX10_spreads_114
  refine x_iconst hz 0 dX10_spreads_38 rfl ?_
  refine x_istore_n hz [(3, .int 0), (0, .ref (h_b Z + 0)), (2, .int s.1)] dX10_spreads_39 rfl rfl rfl ?_
  exact x_sub [1, 2, 0] rfl (wX10_spreads_L40 hz s.1 hk32 h_FU (0, s.2))
set_option maxRecDepth 10000 in
set_option maxHeartbeats 4000000 in
theorem wX10_spreads_L2 {Z : hZ} {n : Nat} (hz : hOK Z hYm cX10_spreads RX10 5 (n + 3) none)  (v1 : Int32)   : ∀ (i : Nat) (s : Int32 × hMem), hW Z rtV s.2 2 [(0, .ref (h_b Z + 0)), (1, .int v1), (2, .int s.1)] [] (h_lp (fX10_spreads_L2 v1) i s) := by
  refine x_loop (Ms := fun s : Int32 × hMem => s.2) (Ls := fun s : Int32 × hMem => [(0, .ref (h_b Z + 0)), (1, .int v1), (2, .int s.1)]) ?_
  intro k2 hk2 s
  show hW Z rtV s.2 2 [(0, .ref (h_b Z + 0)), (1, .int v1), (2, .int s.1)] [] (fX10_spreads_L2 v1 k2 s)
  unfold fX10_spreads_L2
  refine x_iload_n hz dX10_spreads_2 rfl 2 rfl ?_
  refine x_bipush hz 32 dX10_spreads_3 rfl ?_
  refine x_icmp_ge hz dX10_spreads_5 ?_ ?_
  · refine x_iconst hz 0 dX10_spreads_30 rfl ?_
    refine x_istore_n hz [(2, .int 0), (0, .ref (h_b Z + 0)), (1, .int v1)] dX10_spreads_31 rfl rfl rfl ?_
    exact x_sub [1, 0] rfl (wX10_spreads_L32 hz h_FU (0, s.2))
  refine x_aload_n hz dX10_spreads_8 rfl 0 rfl ?_
  refine x_getr hz sm_0 fl_X10_76 rfl rm_0_42 (by decide) dX10_spreads_9 ?_
  refine x_iload_n hz dX10_spreads_12 rfl 2 rfl ?_
  refine x_iload_n hz dX10_spreads_13 rfl 2 rfl ?_
  refine x_iload_n hz dX10_spreads_14 rfl 1 rfl ?_
  refine x_icmp_ne hz dX10_spreads_15 ?_ ?_
  · refine x_iconst hz (-1) dX10_spreads_22 rfl ?_
    refine x_iast hz sm_23 dX10_spreads_23 (fun hi23 => ?_)
    refine x_iinc hz (s.1 + 1) [(2, .int (s.1 + 1)), (0, .ref (h_b Z + 0)), (1, .int v1)] dX10_spreads_24 2 rfl rfl rfl rfl ?_
    refine x_goto hz dX10_spreads_27 ?_
    exact x_sub [1, 2, 0] rfl (hk2 (s.1 + 1, h_up s.2 23 s.1.toNatClampNeg (-1)))
  refine x_iconst hz 0 dX10_spreads_18 rfl ?_
  refine x_goto hz dX10_spreads_19 ?_
  refine x_iast hz sm_23 dX10_spreads_23 (fun hi23 => ?_)
  refine x_iinc hz (s.1 + 1) [(2, .int (s.1 + 1)), (0, .ref (h_b Z + 0)), (1, .int v1)] dX10_spreads_24 2 rfl rfl rfl rfl ?_
  refine x_goto hz dX10_spreads_27 ?_
  exact x_sub [1, 2, 0] rfl (hk2 (s.1 + 1, h_up s.2 23 s.1.toNatClampNeg 0))
set_option maxRecDepth 10000 in
set_option maxHeartbeats 4000000 in
theorem wX10_spreads {Z : hZ} {n : Nat} (hz : hOK Z hYm cX10_spreads RX10 5 (n + 3) none) (a1 : Int32) (M : hMem) : hW Z rtV M 0 [(0, .ref (h_b Z + 0)), (1, .int a1)] [] (fX10_spreads a1 M) := by
  unfold fX10_spreads
  refine x_iconst hz 0 dX10_spreads_0 rfl ?_
  refine x_istore_n hz [(2, .int 0), (0, .ref (h_b Z + 0)), (1, .int a1)] dX10_spreads_1 rfl rfl rfl ?_
  exact x_sub [1, 2, 0] rfl (wX10_spreads_L2 hz a1 h_FU (0, M))
theorem kX10_spreads {l : Launch} {dd : hDD} {b n : Nat} (a1 : Int32) (M : hMem) (r : hMem) (h : fX10_spreads a1 M = some r) : hC l hYm dd b yX10_spreads cX10_spreads 5 none (n + 3) [.ref (b + 0), .int a1] M (none, r) :=
  h_met (av := fun b => [.ref (b + 0), .int a1]) (rt := rtV) (by decide) (Nat.le_of_ble_eq_true rfl) (fun Z hz => wX10_spreads (n := n) hz a1 M) r h
set_option maxRecDepth 10000 in
set_option maxHeartbeats 4000000 in
theorem wX10_had_L64 {Z : hZ} {n : Nat} (hz : hOK Z hYm cX10_had RX10 7 (n + 5) (some .int))  (v1 : Int32) (v3 : Int32) (v4 : Int32) (v5 : Int32) (v6 : Int32) (M : hMem) {k19 : (Int32 × hMem) → Option (Int32 × hMem)} (hk19 : ∀ s, hW Z rtM s.2 19 [(0, .ref (h_b Z + 0)), (1, .int v1), (3, .int v3), (4, .int v4), (5, .int v5), (6, .int s.1)] [] (k19 s)) : hW Z rtM M 64 [(0, .ref (h_b Z + 0)), (1, .int v1), (3, .int v3), (4, .int v4), (5, .int v5), (6, .int v6)] [] (fX10_had_L64 k19 v1 v3 v4 v5 v6 M) := by
  unfold fX10_had_L64
  refine x_iload hz dX10_had_64 5 rfl ?_
  refine x_bipush hz 24 dX10_had_66 rfl ?_
  refine x_icmp_ge hz dX10_had_68 ?_ ?_
  · refine x_iinc hz (v6 + 1) [(6, .int (v6 + 1)), (0, .ref (h_b Z + 0)), (1, .int v1), (3, .int v3), (4, .int v4), (5, .int v5)] dX10_had_78 5 rfl rfl rfl rfl ?_
    refine x_goto hz dX10_had_81 ?_
    exact x_sub [1, 2, 3, 4, 5, 0] rfl (hk19 (v6 + 1, M))
  refine x_aload_n hz dX10_had_71 rfl 0 rfl ?_
  refine x_iload_n hz dX10_had_72 rfl 1 rfl ?_
  refine x_iload hz dX10_had_73 5 rfl ?_
  refine x_bind (fun q75 hq75 => ?_)
  refine x_callV hz mv_X10_229 sm_0 (by decide) rfl rfl (kX10_seconds (n := (n + 1)) v1 v6 M q75 hq75) rfl (av := [.int v1, .int v6]) (rest := []) rfl rfl (Nat.le_of_ble_eq_true rfl) dX10_had_75 ?_
  refine x_iinc hz (v6 + 1) [(6, .int (v6 + 1)), (0, .ref (h_b Z + 0)), (1, .int v1), (3, .int v3), (4, .int v4), (5, .int v5)] dX10_had_78 5 rfl rfl rfl rfl ?_
  refine x_goto hz dX10_had_81 ?_
  exact x_sub [1, 2, 3, 4, 5, 0] rfl (hk19 (v6 + 1, q75))
set_option maxRecDepth 10000 in
set_option maxHeartbeats 4000000 in
theorem wX10_had_L19 {Z : hZ} {n : Nat} (hz : hOK Z hYm cX10_had RX10 7 (n + 5) (some .int))  (v1 : Int32) (v3 : Int32) (v4 : Int32) (v5 : Int32)   : ∀ (i : Nat) (s : Int32 × hMem), hW Z rtM s.2 19 [(0, .ref (h_b Z + 0)), (1, .int v1), (3, .int v3), (4, .int v4), (5, .int v5), (6, .int s.1)] [] (h_lp (fX10_had_L19 v1 v3 v4 v5) i s) := by
  refine x_loop (Ms := fun s : Int32 × hMem => s.2) (Ls := fun s : Int32 × hMem => [(0, .ref (h_b Z + 0)), (1, .int v1), (3, .int v3), (4, .int v4), (5, .int v5), (6, .int s.1)]) ?_
  intro k19 hk19 s
  show hW Z rtM s.2 19 [(0, .ref (h_b Z + 0)), (1, .int v1), (3, .int v3), (4, .int v4), (5, .int v5), (6, .int s.1)] [] (fX10_had_L19 v1 v3 v4 v5 k19 s)
  unfold fX10_had_L19
  refine x_iload hz dX10_had_19 5 rfl ?_
  refine x_bipush hz 24 dX10_had_21 rfl ?_
  refine x_icmp_gt hz dX10_had_23 ?_ ?_
  · refine x_iconst hz (-1) dX10_had_84 rfl ?_
    exact x_iret hz rfl dX10_had_85
  refine x_aload_n hz dX10_had_26 rfl 0 rfl ?_
  refine x_getr hz sm_0 fl_X10_76 rfl rm_0_42 (by decide) dX10_had_27 ?_
  refine x_aload_n hz dX10_had_30 rfl 0 rfl ?_
  refine x_geti hz sm_0 fl_X10_211 rfl dX10_had_31 ?_
  refine x_iald hz sm_23 dX10_had_34 (fun hi34 => ?_)
  refine x_iconst hz (-1) dX10_had_35 rfl ?_
  refine x_icmp_eq hz dX10_had_36 ?_ ?_
  · exact x_sub [0, 1, 2, 3, 4, 5] rfl (wX10_had_L64 hz v1 v3 v4 v5 s.1 s.2 hk19)
  refine x_aload_n hz dX10_had_39 rfl 0 rfl ?_
  refine x_getr hz sm_0 fl_X10_76 rfl rm_0_42 (by decide) dX10_had_40 ?_
  refine x_aload_n hz dX10_had_43 rfl 0 rfl ?_
  refine x_geti hz sm_0 fl_X10_211 rfl dX10_had_44 ?_
  refine x_iald hz sm_23 dX10_had_47 (fun hi47 => ?_)
  refine x_iload hz dX10_had_48 3 rfl ?_
  refine x_iload hz dX10_had_50 5 rfl ?_
  refine x_iload_n hz dX10_had_52 rfl 2 rfl ?_
  refine x_isub hz dX10_had_53 ?_
  refine x_imul hz dX10_had_54 ?_
  refine x_iload hz dX10_had_55 4 rfl ?_
  refine x_iadd hz dX10_had_57 ?_
  refine x_icmp_gt hz dX10_had_58 ?_ ?_
  · exact x_sub [0, 1, 2, 3, 4, 5] rfl (wX10_had_L64 hz v1 v3 v4 v5 s.1 s.2 hk19)
  refine x_iload hz dX10_had_61 5 rfl ?_
  exact x_iret hz rfl dX10_had_63
set_option maxRecDepth 10000 in
set_option maxHeartbeats 4000000 in
theorem wX10_had {Z : hZ} {n : Nat} (hz : hOK Z hYm cX10_had RX10 7 (n + 5) (some .int)) (a1 : Int32) (a2 : Int32) (a3 : Int32) (a4 : Int32) (a5 : Int32) (M : hMem) : hW Z rtM M 0 [(0, .ref (h_b Z + 0)), (1, .int a1), (2, .int a2), (3, .int a3), (4, .int a4), (5, .int a5)] [] (fX10_had a1 a2 a3 a4 a5 M) := by
  unfold fX10_had
  refine x_aload_n hz dX10_had_0 rfl 0 rfl ?_
  refine x_iload_n hz dX10_had_1 rfl 2 rfl ?_
  refine x_bind (fun q2 hq2 => ?_)
  refine x_callV hz mv_X10_248 sm_0 (by decide) rfl rfl (kX10_spreads (n := (n + 1)) a2 M q2 hq2) rfl (av := [.int a2]) (rest := []) rfl rfl (Nat.le_of_ble_eq_true rfl) dX10_had_2 ?_
  refine x_aload_n hz dX10_had_5 rfl 0 rfl ?_
  refine x_iload_n hz dX10_had_6 rfl 1 rfl ?_
  refine x_bind (fun q7 hq7 => ?_)
  refine x_callV hz mv_X10_233 sm_0 (by decide) rfl rfl (kX10_begins (n := (n + 4)) a1 q2 q7 hq7) rfl (av := [.int a1]) (rest := []) rfl rfl (Nat.le_of_ble_eq_true rfl) dX10_had_7 ?_
  refine x_aload_n hz dX10_had_10 rfl 0 rfl ?_
  refine x_iload_n hz dX10_had_11 rfl 1 rfl ?_
  refine x_iload_n hz dX10_had_12 rfl 3 rfl ?_
  refine x_bind (fun q13 hq13 => ?_)
  refine x_callV hz mv_X10_236 sm_0 (by decide) rfl rfl (kX10_goesOn (n := n) a1 a3 q7 q13 hq13) rfl (av := [.int a1, .int a3]) (rest := []) rfl rfl (Nat.le_of_ble_eq_true rfl) dX10_had_13 ?_
  refine x_iload_n hz dX10_had_16 rfl 3 rfl ?_
  refine x_istore hz [(6, .int a3), (0, .ref (h_b Z + 0)), (1, .int a1), (2, .int a2), (3, .int a3), (4, .int a4), (5, .int a5)] dX10_had_17 rfl rfl ?_
  exact x_sub [1, 2, 4, 5, 6, 0] rfl (wX10_had_L19 hz a1 a3 a4 a5 h_FU (a3, q13))
theorem kX10_had {l : Launch} {dd : hDD} {b n : Nat} (a1 : Int32) (a2 : Int32) (a3 : Int32) (a4 : Int32) (a5 : Int32) (M : hMem) (r : Int32 × hMem) (h : fX10_had a1 a2 a3 a4 a5 M = some r) : hC l hYm dd b yX10_had cX10_had 7 (some .int) (n + 5) [.ref (b + 0), .int a1, .int a2, .int a3, .int a4, .int a5] M (some (.int r.1), r.2) :=
  h_met (av := fun b => [.ref (b + 0), .int a1, .int a2, .int a3, .int a4, .int a5]) (rt := rtM) (by decide) (Nat.le_of_ble_eq_true rfl) (fun Z hz => wX10_had (n := n) hz a1 a2 a3 a4 a5 M) r h
set_option maxRecDepth 10000 in
set_option maxHeartbeats 4000000 in
theorem wX10_hadBy {Z : hZ} {n : Nat} (hz : hOK Z hYm cX10_hadBy RX10 3 (n + 6) (some .int)) (a1 : Int32) (a2 : Int32) (M : hMem) : hW Z rtM M 0 [(0, .ref (h_b Z + 0)), (1, .int a1), (2, .int a2)] [] (fX10_hadBy a1 a2 M) := by
  unfold fX10_hadBy
  refine x_aload_n hz dX10_hadBy_0 rfl 0 rfl ?_
  refine x_iload_n hz dX10_hadBy_1 rfl 1 rfl ?_
  refine x_aload_n hz dX10_hadBy_2 rfl 0 rfl ?_
  refine x_getr hz sm_0 fl_X10_31 rfl rm_0_9 (by decide) dX10_hadBy_3 ?_
  refine x_iconst hz 3 dX10_hadBy_6 rfl ?_
  refine x_iload_n hz dX10_hadBy_7 rfl 2 rfl ?_
  refine x_imul hz dX10_hadBy_8 ?_
  refine x_iald hz sm_8 dX10_hadBy_9 (fun hi9 => ?_)
  refine x_iconst hz 0 dX10_hadBy_10 rfl ?_
  refine x_aload_n hz dX10_hadBy_11 rfl 0 rfl ?_
  refine x_getr hz sm_0 fl_X10_31 rfl rm_0_9 (by decide) dX10_hadBy_12 ?_
  refine x_iconst hz 3 dX10_hadBy_15 rfl ?_
  refine x_iload_n hz dX10_hadBy_16 rfl 2 rfl ?_
  refine x_imul hz dX10_hadBy_17 ?_
  refine x_iconst hz 1 dX10_hadBy_18 rfl ?_
  refine x_iadd hz dX10_hadBy_19 ?_
  refine x_iald hz sm_8 dX10_hadBy_20 (fun hi20 => ?_)
  refine x_aload_n hz dX10_hadBy_21 rfl 0 rfl ?_
  refine x_getr hz sm_0 fl_X10_31 rfl rm_0_9 (by decide) dX10_hadBy_22 ?_
  refine x_iconst hz 3 dX10_hadBy_25 rfl ?_
  refine x_iload_n hz dX10_hadBy_26 rfl 2 rfl ?_
  refine x_imul hz dX10_hadBy_27 ?_
  refine x_iconst hz 2 dX10_hadBy_28 rfl ?_
  refine x_iadd hz dX10_hadBy_29 ?_
  refine x_iald hz sm_8 dX10_hadBy_30 (fun hi30 => ?_)
  refine x_bind (fun q31 hq31 => ?_)
  refine x_callV hz mv_X10_251 sm_0 (by decide) rfl rfl (kX10_had (n := n) a1 (M 8 (3 * a2).toNatClampNeg) 0 (M 8 ((3 * a2) + 1).toNatClampNeg) (M 8 ((3 * a2) + 2).toNatClampNeg) M q31 hq31) rfl (av := [.int a1, .int (M 8 (3 * a2).toNatClampNeg), .int 0, .int (M 8 ((3 * a2) + 1).toNatClampNeg), .int (M 8 ((3 * a2) + 2).toNatClampNeg)]) (rest := []) rfl rfl (Nat.le_of_ble_eq_true rfl) dX10_hadBy_31 ?_
  exact x_iret hz rfl dX10_hadBy_34
theorem kX10_hadBy {l : Launch} {dd : hDD} {b n : Nat} (a1 : Int32) (a2 : Int32) (M : hMem) (r : Int32 × hMem) (h : fX10_hadBy a1 a2 M = some r) : hC l hYm dd b yX10_hadBy cX10_hadBy 3 (some .int) (n + 6) [.ref (b + 0), .int a1, .int a2] M (some (.int r.1), r.2) :=
  h_met (av := fun b => [.ref (b + 0), .int a1, .int a2]) (rt := rtM) (by decide) (Nat.le_of_ble_eq_true rfl) (fun Z hz => wX10_hadBy (n := n) hz a1 a2 M) r h
set_option maxRecDepth 10000 in
set_option maxHeartbeats 4000000 in
theorem wX10_caught {Z : hZ} {n : Nat} (hz : hOK Z hYm cX10_caught RX10 3 (n + 7) (some .int)) (a1 : Int32) (a2 : Int32) (M : hMem) : hW Z rtM M 0 [(0, .ref (h_b Z + 0)), (1, .int a1), (2, .int a2)] [] (fX10_caught a1 a2 M) := by
  unfold fX10_caught
  refine x_aload_n hz dX10_caught_0 rfl 0 rfl ?_
  refine x_iload_n hz dX10_caught_1 rfl 1 rfl ?_
  refine x_iload_n hz dX10_caught_2 rfl 2 rfl ?_
  refine x_callV hz mv_X10_255 sm_0 (by decide) rfl rfl (kX10_areThere (n := (n + 4)) a1 a2 M) rfl (av := [.int a1, .int a2]) (rest := []) rfl rfl (Nat.le_of_ble_eq_true rfl) dX10_caught_3 ?_
  refine x_if_eq hz dX10_caught_6 ?_ ?_
  · refine x_bipush hz (-5) dX10_caught_18 rfl ?_
    exact x_iret hz rfl dX10_caught_20
  refine x_aload_n hz dX10_caught_9 rfl 0 rfl ?_
  refine x_iload_n hz dX10_caught_10 rfl 1 rfl ?_
  refine x_iload_n hz dX10_caught_11 rfl 2 rfl ?_
  refine x_bind (fun q12 hq12 => ?_)
  refine x_callV hz mv_X10_258 sm_0 (by decide) rfl rfl (kX10_hadBy (n := n) a1 a2 M q12 hq12) rfl (av := [.int a1, .int a2]) (rest := []) rfl rfl (Nat.le_of_ble_eq_true rfl) dX10_caught_12 ?_
  refine x_goto hz dX10_caught_15 ?_
  exact x_iret hz rfl dX10_caught_20
theorem kX10_caught {l : Launch} {dd : hDD} {b n : Nat} (a1 : Int32) (a2 : Int32) (M : hMem) (r : Int32 × hMem) (h : fX10_caught a1 a2 M = some r) : hC l hYm dd b yX10_caught cX10_caught 3 (some .int) (n + 7) [.ref (b + 0), .int a1, .int a2] M (some (.int r.1), r.2) :=
  h_met (av := fun b => [.ref (b + 0), .int a1, .int a2]) (rt := rtM) (by decide) (Nat.le_of_ble_eq_true rfl) (fun Z hz => wX10_caught (n := n) hz a1 a2 M) r h
set_option maxRecDepth 10000 in
set_option maxHeartbeats 4000000 in
theorem wX10_who_L85 {Z : hZ} {n : Nat} (hz : hOK Z hYm cX10_who RX10 8 (n + 7) (some .int))  (v1 : Int32) (v2 : Int32) (v4 : Int32) (v5 : Int32) (v6 : Int32) (v7 : Int32) (t0 : Int32) (M : hMem) {k31 : (Int32 × Int32 × Int32 × hMem) → Option (Int32 × hMem)} (hk31 : ∀ s, hW Z rtM s.2.2.2 31 [(0, .ref (h_b Z + 0)), (1, .int v1), (2, .int v2), (3, .int s.1), (4, .int s.2.1), (5, .int s.2.2.1)] [] (k31 s)) : hW Z rtM M 85 [(0, .ref (h_b Z + 0)), (1, .int v1), (2, .int v2), (4, .int v4), (5, .int v5), (6, .int v6), (7, .int v7)] [.int t0] (fX10_who_L85 k31 v1 v2 v4 v5 v6 v7 t0 M) := by
  unfold fX10_who_L85
  refine x_istore_n hz [(3, .int t0), (0, .ref (h_b Z + 0)), (1, .int v1), (2, .int v2), (4, .int v4), (5, .int v5), (6, .int v6), (7, .int v7)] dX10_who_85 rfl rfl rfl ?_
  refine x_iload hz dX10_who_86 7 rfl ?_
  refine x_if_eq hz dX10_who_88 ?_ ?_
  · refine x_iload hz dX10_who_96 4 rfl ?_
    refine x_istore hz [(4, .int v4), (3, .int t0), (0, .ref (h_b Z + 0)), (1, .int v1), (2, .int v2), (5, .int v5), (6, .int v6), (7, .int v7)] dX10_who_98 rfl rfl ?_
    refine x_iinc hz (v5 + 1) [(5, .int (v5 + 1)), (4, .int v4), (3, .int t0), (0, .ref (h_b Z + 0)), (1, .int v1), (2, .int v2), (6, .int v6), (7, .int v7)] dX10_who_100 5 rfl rfl rfl rfl ?_
    refine x_goto hz dX10_who_103 ?_
    exact x_sub [3, 4, 5, 2, 1, 0] rfl (hk31 (t0, v4, v5 + 1, M))
  refine x_iload hz dX10_who_91 6 rfl ?_
  refine x_goto hz dX10_who_93 ?_
  refine x_istore hz [(4, .int v6), (3, .int t0), (0, .ref (h_b Z + 0)), (1, .int v1), (2, .int v2), (5, .int v5), (6, .int v6), (7, .int v7)] dX10_who_98 rfl rfl ?_
  refine x_iinc hz (v5 + 1) [(5, .int (v5 + 1)), (4, .int v6), (3, .int t0), (0, .ref (h_b Z + 0)), (1, .int v1), (2, .int v2), (6, .int v6), (7, .int v7)] dX10_who_100 5 rfl rfl rfl rfl ?_
  refine x_goto hz dX10_who_103 ?_
  exact x_sub [3, 4, 5, 2, 1, 0] rfl (hk31 (t0, v6, v5 + 1, M))
set_option maxRecDepth 10000 in
set_option maxHeartbeats 4000000 in
theorem wX10_who_L72 {Z : hZ} {n : Nat} (hz : hOK Z hYm cX10_who RX10 8 (n + 7) (some .int))  (v1 : Int32) (v2 : Int32) (v3 : Int32) (v4 : Int32) (v5 : Int32) (v6 : Int32) (t0 : Int32) (M : hMem) {k31 : (Int32 × Int32 × Int32 × hMem) → Option (Int32 × hMem)} (hk31 : ∀ s, hW Z rtM s.2.2.2 31 [(0, .ref (h_b Z + 0)), (1, .int v1), (2, .int v2), (3, .int s.1), (4, .int s.2.1), (5, .int s.2.2.1)] [] (k31 s)) : hW Z rtM M 72 [(0, .ref (h_b Z + 0)), (1, .int v1), (2, .int v2), (3, .int v3), (4, .int v4), (5, .int v5), (6, .int v6)] [.int t0] (fX10_who_L72 k31 v1 v2 v3 v4 v5 v6 t0 M) := by
  unfold fX10_who_L72
  refine x_istore hz [(7, .int t0), (0, .ref (h_b Z + 0)), (1, .int v1), (2, .int v2), (3, .int v3), (4, .int v4), (5, .int v5), (6, .int v6)] dX10_who_72 rfl rfl ?_
  refine x_iload hz dX10_who_74 0 rfl ?_
  refine x_if_eq hz dX10_who_76 ?_ ?_
  · refine x_iload_n hz dX10_who_84 rfl 4 rfl ?_
    exact x_sub [1, 2, 3, 5, 6, 7, 0] rfl (wX10_who_L85 hz v1 v2 v4 v5 v6 t0 v3 M hk31)
  refine x_iload hz dX10_who_79 6 rfl ?_
  refine x_goto hz dX10_who_81 ?_
  exact x_sub [1, 2, 3, 5, 6, 7, 0] rfl (wX10_who_L85 hz v1 v2 v4 v5 v6 t0 v5 M hk31)
set_option maxRecDepth 10000 in
set_option maxHeartbeats 4000000 in
theorem wX10_who_L71 {Z : hZ} {n : Nat} (hz : hOK Z hYm cX10_who RX10 8 (n + 7) (some .int))  (v1 : Int32) (v2 : Int32) (v3 : Int32) (v4 : Int32) (v5 : Int32) (v6 : Int32) (M : hMem) {k31 : (Int32 × Int32 × Int32 × hMem) → Option (Int32 × hMem)} (hk31 : ∀ s, hW Z rtM s.2.2.2 31 [(0, .ref (h_b Z + 0)), (1, .int v1), (2, .int v2), (3, .int s.1), (4, .int s.2.1), (5, .int s.2.2.1)] [] (k31 s)) : hW Z rtM M 71 [(0, .ref (h_b Z + 0)), (1, .int v1), (2, .int v2), (3, .int v3), (4, .int v4), (5, .int v5), (6, .int v6)] [] (fX10_who_L71 k31 v1 v2 v3 v4 v5 v6 M) := by
  unfold fX10_who_L71
  refine x_iconst hz 0 dX10_who_71 rfl ?_
  exact x_sub [0, 1, 2, 3, 4, 5, 6] rfl (wX10_who_L72 hz v1 v2 v3 v4 v5 v6 0 M hk31)
set_option maxRecDepth 10000 in
set_option maxHeartbeats 4000000 in
theorem wX10_who_L67 {Z : hZ} {n : Nat} (hz : hOK Z hYm cX10_who RX10 8 (n + 7) (some .int))  (v1 : Int32) (v2 : Int32) (v3 : Int32) (v4 : Int32) (v5 : Int32) (v6 : Int32) (M : hMem) {k31 : (Int32 × Int32 × Int32 × hMem) → Option (Int32 × hMem)} (hk31 : ∀ s, hW Z rtM s.2.2.2 31 [(0, .ref (h_b Z + 0)), (1, .int v1), (2, .int v2), (3, .int s.1), (4, .int s.2.1), (5, .int s.2.2.1)] [] (k31 s)) : hW Z rtM M 67 [(0, .ref (h_b Z + 0)), (1, .int v1), (2, .int v2), (3, .int v3), (4, .int v4), (5, .int v5), (6, .int v6)] [] (fX10_who_L67 k31 v1 v2 v3 v4 v5 v6 M) := by
  unfold fX10_who_L67
  refine x_iconst hz 1 dX10_who_67 rfl ?_
  refine x_goto hz dX10_who_68 ?_
  exact x_sub [0, 1, 2, 3, 4, 5, 6] rfl (wX10_who_L72 hz v1 v2 v3 v4 v5 v6 1 M hk31)
set_option maxRecDepth 10000 in
set_option maxHeartbeats 4000000 in
theorem wX10_who_L31 {Z : hZ} {n : Nat} (hz : hOK Z hYm cX10_who RX10 8 (n + 7) (some .int))  (v1 : Int32) (v2 : Int32)   : ∀ (i : Nat) (s : Int32 × Int32 × Int32 × hMem), hW Z rtM s.2.2.2 31 [(0, .ref (h_b Z + 0)), (1, .int v1), (2, .int v2), (3, .int s.1), (4, .int s.2.1), (5, .int s.2.2.1)] [] (h_lp (fX10_who_L31 v1 v2) i s) := by
  refine x_loop (Ms := fun s : Int32 × Int32 × Int32 × hMem => s.2.2.2) (Ls := fun s : Int32 × Int32 × Int32 × hMem => [(0, .ref (h_b Z + 0)), (1, .int v1), (2, .int v2), (3, .int s.1), (4, .int s.2.1), (5, .int s.2.2.1)]) ?_
  intro k31 hk31 s
  show hW Z rtM s.2.2.2 31 [(0, .ref (h_b Z + 0)), (1, .int v1), (2, .int v2), (3, .int s.1), (4, .int s.2.1), (5, .int s.2.2.1)] [] (fX10_who_L31 v1 v2 k31 s)
  unfold fX10_who_L31
  refine x_iload hz dX10_who_31 5 rfl ?_
  refine x_aload_n hz dX10_who_33 rfl 0 rfl ?_
  refine x_geti hz sm_0 fl_X10_108 rfl dX10_who_34 ?_
  refine x_icmp_ge hz dX10_who_37 ?_ ?_
  · refine x_iload_n hz dX10_who_106 rfl 2 rfl ?_
    refine x_if_ne hz dX10_who_107 ?_ ?_
    · refine x_iload hz dX10_who_114 4 rfl ?_
      exact x_iret hz rfl dX10_who_116
    refine x_iload_n hz dX10_who_110 rfl 3 rfl ?_
    refine x_goto hz dX10_who_111 ?_
    exact x_iret hz rfl dX10_who_116
  refine x_aload_n hz dX10_who_40 rfl 0 rfl ?_
  refine x_iload_n hz dX10_who_41 rfl 1 rfl ?_
  refine x_iload hz dX10_who_42 5 rfl ?_
  refine x_bind (fun q44 hq44 => ?_)
  refine x_callV hz mv_X10_258 sm_0 (by decide) rfl rfl (kX10_hadBy (n := n) v1 s.2.2.1 s.2.2.2 q44 hq44) rfl (av := [.int v1, .int s.2.2.1]) (rest := []) rfl rfl (Nat.le_of_ble_eq_true rfl) dX10_who_44 ?_
  refine x_istore hz [(6, .int q44.1), (0, .ref (h_b Z + 0)), (1, .int v1), (2, .int v2), (3, .int s.1), (4, .int s.2.1), (5, .int s.2.2.1)] dX10_who_47 rfl rfl ?_
  refine x_iload hz dX10_who_49 0 rfl ?_
  refine x_iconst hz (-1) dX10_who_51 rfl ?_
  refine x_icmp_eq hz dX10_who_52 ?_ ?_
  · exact x_sub [1, 2, 3, 4, 5, 6, 0] rfl (wX10_who_L71 hz v1 v2 s.1 s.2.1 s.2.2.1 q44.1 q44.2 hk31)
  refine x_iload_n hz dX10_who_55 rfl 4 rfl ?_
  refine x_iconst hz (-1) dX10_who_56 rfl ?_
  refine x_icmp_eq hz dX10_who_57 ?_ ?_
  · exact x_sub [1, 2, 3, 4, 5, 6, 0] rfl (wX10_who_L67 hz v1 v2 s.1 s.2.1 s.2.2.1 q44.1 q44.2 hk31)
  refine x_iload hz dX10_who_60 0 rfl ?_
  refine x_iload hz dX10_who_62 5 rfl ?_
  refine x_icmp_ge hz dX10_who_64 ?_ ?_
  · exact x_sub [1, 2, 3, 4, 5, 6, 0] rfl (wX10_who_L71 hz v1 v2 s.1 s.2.1 s.2.2.1 q44.1 q44.2 hk31)
  exact x_sub [1, 2, 3, 4, 5, 6, 0] rfl (wX10_who_L67 hz v1 v2 s.1 s.2.1 s.2.2.1 q44.1 q44.2 hk31)
set_option maxRecDepth 10000 in
set_option maxHeartbeats 4000000 in
theorem wX10_who {Z : hZ} {n : Nat} (hz : hOK Z hYm cX10_who RX10 8 (n + 7) (some .int)) (a1 : Int32) (a2 : Int32) (M : hMem) : hW Z rtM M 0 [(0, .ref (h_b Z + 0)), (1, .int a1), (2, .int a2)] [] (fX10_who a1 a2 M) := by
  unfold fX10_who
  refine x_aload_n hz dX10_who_0 rfl 0 rfl ?_
  refine x_iload_n hz dX10_who_1 rfl 1 rfl ?_
  refine x_callV hz mv_X10_199 sm_0 (by decide) rfl rfl (kX10_isHat (n := (n + 5)) a1 M) rfl (av := [.int a1]) (rest := []) rfl rfl (Nat.le_of_ble_eq_true rfl) dX10_who_2 ?_
  refine x_if_ne hz dX10_who_5 ?_ ?_
  · refine x_iload_n hz dX10_who_11 rfl 2 rfl ?_
    refine x_iconst hz 0 dX10_who_12 rfl ?_
    refine x_iconst hz 1 dX10_who_13 rfl ?_
    refine x_callS hz ms_X10_93 (kX10_in (n := (n + 6)) a2 0 1 M) rfl (av := [.int a2, .int 0, .int 1]) (rest := []) rfl rfl (Nat.le_of_ble_eq_true rfl) dX10_who_14 ?_
    refine x_if_ne hz dX10_who_17 ?_ ?_
    · refine x_iconst hz (-1) dX10_who_23 rfl ?_
      refine x_istore_n hz [(3, .int (-1)), (0, .ref (h_b Z + 0)), (1, .int a1), (2, .int a2)] dX10_who_24 rfl rfl rfl ?_
      refine x_iconst hz (-1) dX10_who_25 rfl ?_
      refine x_istore hz [(4, .int (-1)), (3, .int (-1)), (0, .ref (h_b Z + 0)), (1, .int a1), (2, .int a2)] dX10_who_26 rfl rfl ?_
      refine x_iconst hz 0 dX10_who_28 rfl ?_
      refine x_istore hz [(5, .int 0), (4, .int (-1)), (3, .int (-1)), (0, .ref (h_b Z + 0)), (1, .int a1), (2, .int a2)] dX10_who_29 rfl rfl ?_
      exact x_sub [3, 4, 5, 2, 1, 0] rfl (wX10_who_L31 hz a1 a2 h_FU ((-1), (-1), 0, M))
    refine x_bipush hz (-7) dX10_who_20 rfl ?_
    exact x_iret hz rfl dX10_who_22
  refine x_bipush hz (-5) dX10_who_8 rfl ?_
  exact x_iret hz rfl dX10_who_10
theorem kX10_who {l : Launch} {dd : hDD} {b n : Nat} (a1 : Int32) (a2 : Int32) (M : hMem) (r : Int32 × hMem) (h : fX10_who a1 a2 M = some r) : hC l hYm dd b yX10_who cX10_who 8 (some .int) (n + 7) [.ref (b + 0), .int a1, .int a2] M (some (.int r.1), r.2) :=
  h_met (av := fun b => [.ref (b + 0), .int a1, .int a2]) (rt := rtM) (by decide) (Nat.le_of_ble_eq_true rfl) (fun Z hz => wX10_who (n := n) hz a1 a2 M) r h
set_option maxRecDepth 10000 in
set_option maxHeartbeats 4000000 in
theorem wX10_stand_L129 {Z : hZ} {n : Nat} (hz : hOK Z hYm cX10_stand RX10 9 (n + 6) (some .int))  (v1 : Int32) (v2 : Int32) (v3 : Int32) (v5 : Int32) (v6 : Int32) (v7 : Int32) (v8 : Int32) (t0 : Int32) (M : hMem) {k33 : (Int32 × Int32 × Int32 × hMem) → Option (Int32 × hMem)} (hk33 : ∀ s, hW Z rtM s.2.2.2 33 [(0, .ref (h_b Z + 0)), (1, .int v1), (2, .int v2), (3, .int v3), (4, .int s.1), (5, .int s.2.1), (6, .int s.2.2.1)] [] (k33 s)) : hW Z rtM M 129 [(0, .ref (h_b Z + 0)), (1, .int v1), (2, .int v2), (3, .int v3), (5, .int v5), (6, .int v6), (7, .int v7), (8, .int v8)] [.int t0] (fX10_stand_L129 k33 v1 v2 v3 v5 v6 v7 v8 t0 M) := by
  unfold fX10_stand_L129
  refine x_istore hz [(4, .int t0), (0, .ref (h_b Z + 0)), (1, .int v1), (2, .int v2), (3, .int v3), (5, .int v5), (6, .int v6), (7, .int v7), (8, .int v8)] dX10_stand_129 rfl rfl ?_
  refine x_iload hz dX10_stand_131 8 rfl ?_
  refine x_if_eq hz dX10_stand_133 ?_ ?_
  · refine x_iload hz dX10_stand_141 5 rfl ?_
    refine x_istore hz [(5, .int v5), (4, .int t0), (0, .ref (h_b Z + 0)), (1, .int v1), (2, .int v2), (3, .int v3), (6, .int v6), (7, .int v7), (8, .int v8)] dX10_stand_143 rfl rfl ?_
    refine x_iinc hz (v6 + 1) [(6, .int (v6 + 1)), (5, .int v5), (4, .int t0), (0, .ref (h_b Z + 0)), (1, .int v1), (2, .int v2), (3, .int v3), (7, .int v7), (8, .int v8)] dX10_stand_145 6 rfl rfl rfl rfl ?_
    refine x_goto hz dX10_stand_148 ?_
    exact x_sub [3, 4, 5, 6, 2, 1, 0] rfl (hk33 (t0, v5, v6 + 1, M))
  refine x_iload hz dX10_stand_136 7 rfl ?_
  refine x_goto hz dX10_stand_138 ?_
  refine x_istore hz [(5, .int v7), (4, .int t0), (0, .ref (h_b Z + 0)), (1, .int v1), (2, .int v2), (3, .int v3), (6, .int v6), (7, .int v7), (8, .int v8)] dX10_stand_143 rfl rfl ?_
  refine x_iinc hz (v6 + 1) [(6, .int (v6 + 1)), (5, .int v7), (4, .int t0), (0, .ref (h_b Z + 0)), (1, .int v1), (2, .int v2), (3, .int v3), (7, .int v7), (8, .int v8)] dX10_stand_145 6 rfl rfl rfl rfl ?_
  refine x_goto hz dX10_stand_148 ?_
  exact x_sub [3, 4, 5, 6, 2, 1, 0] rfl (hk33 (t0, v7, v6 + 1, M))
set_option maxRecDepth 10000 in
set_option maxHeartbeats 4000000 in
theorem wX10_stand_L115 {Z : hZ} {n : Nat} (hz : hOK Z hYm cX10_stand RX10 9 (n + 6) (some .int))  (v1 : Int32) (v2 : Int32) (v3 : Int32) (v4 : Int32) (v5 : Int32) (v6 : Int32) (v7 : Int32) (t0 : Int32) (M : hMem) {k33 : (Int32 × Int32 × Int32 × hMem) → Option (Int32 × hMem)} (hk33 : ∀ s, hW Z rtM s.2.2.2 33 [(0, .ref (h_b Z + 0)), (1, .int v1), (2, .int v2), (3, .int v3), (4, .int s.1), (5, .int s.2.1), (6, .int s.2.2.1)] [] (k33 s)) : hW Z rtM M 115 [(0, .ref (h_b Z + 0)), (1, .int v1), (2, .int v2), (3, .int v3), (4, .int v4), (5, .int v5), (6, .int v6), (7, .int v7)] [.int t0] (fX10_stand_L115 k33 v1 v2 v3 v4 v5 v6 v7 t0 M) := by
  unfold fX10_stand_L115
  refine x_istore hz [(8, .int t0), (0, .ref (h_b Z + 0)), (1, .int v1), (2, .int v2), (3, .int v3), (4, .int v4), (5, .int v5), (6, .int v6), (7, .int v7)] dX10_stand_115 rfl rfl ?_
  refine x_iload hz dX10_stand_117 0 rfl ?_
  refine x_if_eq hz dX10_stand_119 ?_ ?_
  · refine x_iload hz dX10_stand_127 5 rfl ?_
    exact x_sub [1, 2, 3, 4, 6, 7, 8, 0] rfl (wX10_stand_L129 hz v1 v2 v3 v5 v6 v7 t0 v4 M hk33)
  refine x_iload hz dX10_stand_122 7 rfl ?_
  refine x_goto hz dX10_stand_124 ?_
  exact x_sub [1, 2, 3, 4, 6, 7, 8, 0] rfl (wX10_stand_L129 hz v1 v2 v3 v5 v6 v7 t0 v6 M hk33)
set_option maxRecDepth 10000 in
set_option maxHeartbeats 4000000 in
theorem wX10_stand_L114 {Z : hZ} {n : Nat} (hz : hOK Z hYm cX10_stand RX10 9 (n + 6) (some .int))  (v1 : Int32) (v2 : Int32) (v3 : Int32) (v4 : Int32) (v5 : Int32) (v6 : Int32) (v7 : Int32) (M : hMem) {k33 : (Int32 × Int32 × Int32 × hMem) → Option (Int32 × hMem)} (hk33 : ∀ s, hW Z rtM s.2.2.2 33 [(0, .ref (h_b Z + 0)), (1, .int v1), (2, .int v2), (3, .int v3), (4, .int s.1), (5, .int s.2.1), (6, .int s.2.2.1)] [] (k33 s)) : hW Z rtM M 114 [(0, .ref (h_b Z + 0)), (1, .int v1), (2, .int v2), (3, .int v3), (4, .int v4), (5, .int v5), (6, .int v6), (7, .int v7)] [] (fX10_stand_L114 k33 v1 v2 v3 v4 v5 v6 v7 M) := by
  unfold fX10_stand_L114
  refine x_iconst hz 0 dX10_stand_114 rfl ?_
  exact x_sub [0, 1, 2, 3, 4, 5, 6, 7] rfl (wX10_stand_L115 hz v1 v2 v3 v4 v5 v6 v7 0 M hk33)
set_option maxRecDepth 10000 in
set_option maxHeartbeats 4000000 in
theorem wX10_stand_L110 {Z : hZ} {n : Nat} (hz : hOK Z hYm cX10_stand RX10 9 (n + 6) (some .int))  (v1 : Int32) (v2 : Int32) (v3 : Int32) (v4 : Int32) (v5 : Int32) (v6 : Int32) (v7 : Int32) (M : hMem) {k33 : (Int32 × Int32 × Int32 × hMem) → Option (Int32 × hMem)} (hk33 : ∀ s, hW Z rtM s.2.2.2 33 [(0, .ref (h_b Z + 0)), (1, .int v1), (2, .int v2), (3, .int v3), (4, .int s.1), (5, .int s.2.1), (6, .int s.2.2.1)] [] (k33 s)) : hW Z rtM M 110 [(0, .ref (h_b Z + 0)), (1, .int v1), (2, .int v2), (3, .int v3), (4, .int v4), (5, .int v5), (6, .int v6), (7, .int v7)] [] (fX10_stand_L110 k33 v1 v2 v3 v4 v5 v6 v7 M) := by
  unfold fX10_stand_L110
  refine x_iconst hz 1 dX10_stand_110 rfl ?_
  refine x_goto hz dX10_stand_111 ?_
  exact x_sub [0, 1, 2, 3, 4, 5, 6, 7] rfl (wX10_stand_L115 hz v1 v2 v3 v4 v5 v6 v7 1 M hk33)
set_option maxRecDepth 10000 in
set_option maxHeartbeats 4000000 in
theorem wX10_stand_L33 {Z : hZ} {n : Nat} (hz : hOK Z hYm cX10_stand RX10 9 (n + 6) (some .int))  (v1 : Int32) (v2 : Int32) (v3 : Int32)   : ∀ (i : Nat) (s : Int32 × Int32 × Int32 × hMem), hW Z rtM s.2.2.2 33 [(0, .ref (h_b Z + 0)), (1, .int v1), (2, .int v2), (3, .int v3), (4, .int s.1), (5, .int s.2.1), (6, .int s.2.2.1)] [] (h_lp (fX10_stand_L33 v1 v2 v3) i s) := by
  refine x_loop (Ms := fun s : Int32 × Int32 × Int32 × hMem => s.2.2.2) (Ls := fun s : Int32 × Int32 × Int32 × hMem => [(0, .ref (h_b Z + 0)), (1, .int v1), (2, .int v2), (3, .int v3), (4, .int s.1), (5, .int s.2.1), (6, .int s.2.2.1)]) ?_
  intro k33 hk33 s
  show hW Z rtM s.2.2.2 33 [(0, .ref (h_b Z + 0)), (1, .int v1), (2, .int v2), (3, .int v3), (4, .int s.1), (5, .int s.2.1), (6, .int s.2.2.1)] [] (fX10_stand_L33 v1 v2 v3 k33 s)
  unfold fX10_stand_L33
  refine x_iload hz dX10_stand_33 6 rfl ?_
  refine x_bipush hz 32 dX10_stand_35 rfl ?_
  refine x_icmp_ge hz dX10_stand_37 ?_ ?_
  · refine x_iload_n hz dX10_stand_151 rfl 3 rfl ?_
    refine x_if_ne hz dX10_stand_152 ?_ ?_
    · refine x_iload hz dX10_stand_160 5 rfl ?_
      exact x_iret hz rfl dX10_stand_162
    refine x_iload hz dX10_stand_155 4 rfl ?_
    refine x_goto hz dX10_stand_157 ?_
    exact x_iret hz rfl dX10_stand_162
  refine x_aload_n hz dX10_stand_40 rfl 0 rfl ?_
  refine x_iconst hz 0 dX10_stand_41 rfl ?_
  refine x_iload hz dX10_stand_42 6 rfl ?_
  refine x_bind (fun q44 hq44 => ?_)
  refine x_callV hz mv_X10_101 sm_0 (by decide) rfl rfl (kX10_has (n := (n + 5)) 0 s.2.2.1 s.2.2.2 q44 hq44) rfl (av := [.int 0, .int s.2.2.1]) (rest := []) rfl rfl (Nat.le_of_ble_eq_true rfl) dX10_stand_44 ?_
  refine x_if_ne hz dX10_stand_47 ?_ ?_
  · refine x_iinc hz (s.2.2.1 + 1) [(6, .int (s.2.2.1 + 1)), (0, .ref (h_b Z + 0)), (1, .int v1), (2, .int v2), (3, .int v3), (4, .int s.1), (5, .int s.2.1)] dX10_stand_145 6 rfl rfl rfl rfl ?_
    refine x_goto hz dX10_stand_148 ?_
    exact x_sub [1, 2, 3, 4, 5, 6, 0] rfl (hk33 (s.1, s.2.1, s.2.2.1 + 1, s.2.2.2))
  refine x_iload hz dX10_stand_50 6 rfl ?_
  refine x_aload_n hz dX10_stand_52 rfl 0 rfl ?_
  refine x_getr hz sm_0 fl_X10_25 rfl rm_0_6 (by decide) dX10_stand_53 ?_
  refine x_iload_n hz dX10_stand_56 rfl 1 rfl ?_
  refine x_iald hz sm_6 dX10_stand_57 (fun hi57 => ?_)
  refine x_icmp_eq hz dX10_stand_58 ?_ ?_
  · refine x_iinc hz (s.2.2.1 + 1) [(6, .int (s.2.2.1 + 1)), (0, .ref (h_b Z + 0)), (1, .int v1), (2, .int v2), (3, .int v3), (4, .int s.1), (5, .int s.2.1)] dX10_stand_145 6 rfl rfl rfl rfl ?_
    refine x_goto hz dX10_stand_148 ?_
    exact x_sub [1, 2, 3, 4, 5, 6, 0] rfl (hk33 (s.1, s.2.1, s.2.2.1 + 1, s.2.2.2))
  refine x_aload_n hz dX10_stand_61 rfl 0 rfl ?_
  refine x_iload_n hz dX10_stand_62 rfl 1 rfl ?_
  refine x_iload hz dX10_stand_63 6 rfl ?_
  refine x_iconst hz 0 dX10_stand_65 rfl ?_
  refine x_aload_n hz dX10_stand_66 rfl 0 rfl ?_
  refine x_getr hz sm_0 fl_X10_31 rfl rm_0_9 (by decide) dX10_stand_67 ?_
  refine x_iconst hz 3 dX10_stand_70 rfl ?_
  refine x_iload_n hz dX10_stand_71 rfl 2 rfl ?_
  refine x_imul hz dX10_stand_72 ?_
  refine x_iconst hz 1 dX10_stand_73 rfl ?_
  refine x_iadd hz dX10_stand_74 ?_
  refine x_iald hz sm_8 dX10_stand_75 (fun hi75 => ?_)
  refine x_aload_n hz dX10_stand_76 rfl 0 rfl ?_
  refine x_getr hz sm_0 fl_X10_31 rfl rm_0_9 (by decide) dX10_stand_77 ?_
  refine x_iconst hz 3 dX10_stand_80 rfl ?_
  refine x_iload_n hz dX10_stand_81 rfl 2 rfl ?_
  refine x_imul hz dX10_stand_82 ?_
  refine x_iconst hz 2 dX10_stand_83 rfl ?_
  refine x_iadd hz dX10_stand_84 ?_
  refine x_iald hz sm_8 dX10_stand_85 (fun hi85 => ?_)
  refine x_bind (fun q86 hq86 => ?_)
  refine x_callV hz mv_X10_251 sm_0 (by decide) rfl rfl (kX10_had (n := n) v1 s.2.2.1 0 (s.2.2.2 8 ((3 * v2) + 1).toNatClampNeg) (s.2.2.2 8 ((3 * v2) + 2).toNatClampNeg) s.2.2.2 q86 hq86) rfl (av := [.int v1, .int s.2.2.1, .int 0, .int (s.2.2.2 8 ((3 * v2) + 1).toNatClampNeg), .int (s.2.2.2 8 ((3 * v2) + 2).toNatClampNeg)]) (rest := []) rfl rfl (Nat.le_of_ble_eq_true rfl) dX10_stand_86 ?_
  refine x_istore hz [(7, .int q86.1), (0, .ref (h_b Z + 0)), (1, .int v1), (2, .int v2), (3, .int v3), (4, .int s.1), (5, .int s.2.1), (6, .int s.2.2.1)] dX10_stand_89 rfl rfl ?_
  refine x_iload hz dX10_stand_91 0 rfl ?_
  refine x_iconst hz (-1) dX10_stand_93 rfl ?_
  refine x_icmp_eq hz dX10_stand_94 ?_ ?_
  · exact x_sub [1, 2, 3, 4, 5, 6, 7, 0] rfl (wX10_stand_L114 hz v1 v2 v3 s.1 s.2.1 s.2.2.1 q86.1 q86.2 hk33)
  refine x_iload hz dX10_stand_97 5 rfl ?_
  refine x_iconst hz (-1) dX10_stand_99 rfl ?_
  refine x_icmp_eq hz dX10_stand_100 ?_ ?_
  · exact x_sub [1, 2, 3, 4, 5, 6, 7, 0] rfl (wX10_stand_L110 hz v1 v2 v3 s.1 s.2.1 s.2.2.1 q86.1 q86.2 hk33)
  refine x_iload hz dX10_stand_103 0 rfl ?_
  refine x_iload hz dX10_stand_105 6 rfl ?_
  refine x_icmp_ge hz dX10_stand_107 ?_ ?_
  · exact x_sub [1, 2, 3, 4, 5, 6, 7, 0] rfl (wX10_stand_L114 hz v1 v2 v3 s.1 s.2.1 s.2.2.1 q86.1 q86.2 hk33)
  exact x_sub [1, 2, 3, 4, 5, 6, 7, 0] rfl (wX10_stand_L110 hz v1 v2 v3 s.1 s.2.1 s.2.2.1 q86.1 q86.2 hk33)
set_option maxRecDepth 10000 in
set_option maxHeartbeats 4000000 in
theorem wX10_stand {Z : hZ} {n : Nat} (hz : hOK Z hYm cX10_stand RX10 9 (n + 6) (some .int)) (a1 : Int32) (a2 : Int32) (a3 : Int32) (M : hMem) : hW Z rtM M 0 [(0, .ref (h_b Z + 0)), (1, .int a1), (2, .int a2), (3, .int a3)] [] (fX10_stand a1 a2 a3 M) := by
  unfold fX10_stand
  refine x_aload_n hz dX10_stand_0 rfl 0 rfl ?_
  refine x_iload_n hz dX10_stand_1 rfl 1 rfl ?_
  refine x_iload_n hz dX10_stand_2 rfl 2 rfl ?_
  refine x_callV hz mv_X10_255 sm_0 (by decide) rfl rfl (kX10_areThere (n := (n + 3)) a1 a2 M) rfl (av := [.int a1, .int a2]) (rest := []) rfl rfl (Nat.le_of_ble_eq_true rfl) dX10_stand_3 ?_
  refine x_if_ne hz dX10_stand_6 ?_ ?_
  · refine x_iload_n hz dX10_stand_12 rfl 3 rfl ?_
    refine x_iconst hz 0 dX10_stand_13 rfl ?_
    refine x_iconst hz 1 dX10_stand_14 rfl ?_
    refine x_callS hz ms_X10_93 (kX10_in (n := (n + 5)) a3 0 1 M) rfl (av := [.int a3, .int 0, .int 1]) (rest := []) rfl rfl (Nat.le_of_ble_eq_true rfl) dX10_stand_15 ?_
    refine x_if_ne hz dX10_stand_18 ?_ ?_
    · refine x_iconst hz (-1) dX10_stand_24 rfl ?_
      refine x_istore hz [(4, .int (-1)), (0, .ref (h_b Z + 0)), (1, .int a1), (2, .int a2), (3, .int a3)] dX10_stand_25 rfl rfl ?_
      refine x_iconst hz (-1) dX10_stand_27 rfl ?_
      refine x_istore hz [(5, .int (-1)), (4, .int (-1)), (0, .ref (h_b Z + 0)), (1, .int a1), (2, .int a2), (3, .int a3)] dX10_stand_28 rfl rfl ?_
      refine x_iconst hz 0 dX10_stand_30 rfl ?_
      refine x_istore hz [(6, .int 0), (5, .int (-1)), (4, .int (-1)), (0, .ref (h_b Z + 0)), (1, .int a1), (2, .int a2), (3, .int a3)] dX10_stand_31 rfl rfl ?_
      exact x_sub [3, 4, 5, 6, 2, 1, 0] rfl (wX10_stand_L33 hz a1 a2 a3 h_FU ((-1), (-1), 0, M))
    refine x_bipush hz (-7) dX10_stand_21 rfl ?_
    exact x_iret hz rfl dX10_stand_23
  refine x_bipush hz (-5) dX10_stand_9 rfl ?_
  exact x_iret hz rfl dX10_stand_11
theorem kX10_stand {l : Launch} {dd : hDD} {b n : Nat} (a1 : Int32) (a2 : Int32) (a3 : Int32) (M : hMem) (r : Int32 × hMem) (h : fX10_stand a1 a2 a3 M = some r) : hC l hYm dd b yX10_stand cX10_stand 9 (some .int) (n + 6) [.ref (b + 0), .int a1, .int a2, .int a3] M (some (.int r.1), r.2) :=
  h_met (av := fun b => [.ref (b + 0), .int a1, .int a2, .int a3]) (rt := rtM) (by decide) (Nat.le_of_ble_eq_true rfl) (fun Z hz => wX10_stand (n := n) hz a1 a2 a3 M) r h
set_option maxRecDepth 10000 in
set_option maxHeartbeats 4000000 in
theorem wX10_wait_L100 {Z : hZ} {n : Nat} (hz : hOK Z hYm cX10_wait RX10 7 (n + 7) (some .int))  (v1 : Int32) (v2 : Int32) (v3 : Int32) (v4 : Int32) (t0 : Int32) (M : hMem) {k32 : (Int32 × Int32 × hMem) → Option (Int32 × hMem)} (hk32 : ∀ s, hW Z rtM s.2.2 32 [(0, .ref (h_b Z + 0)), (1, .int v1), (2, .int v2), (3, .int v3), (4, .int s.1), (5, .int s.2.1)] [] (k32 s)) : hW Z rtM M 100 [(0, .ref (h_b Z + 0)), (1, .int v1), (2, .int v2), (3, .int v3), (4, .int v4)] [.int t0] (fX10_wait_L100 k32 v1 v2 v3 v4 t0 M) := by
  unfold fX10_wait_L100
  refine x_istore hz [(5, .int t0), (0, .ref (h_b Z + 0)), (1, .int v1), (2, .int v2), (3, .int v3), (4, .int v4)] dX10_wait_100 rfl rfl ?_
  refine x_iload hz dX10_wait_102 5 rfl ?_
  refine x_iload hz dX10_wait_104 0 rfl ?_
  refine x_if_eq hz dX10_wait_106 ?_ ?_
  · refine x_iconst hz 0 dX10_wait_113 rfl ?_
    refine x_iadd hz dX10_wait_114 ?_
    refine x_istore hz [(4, .int (v4 + 0)), (5, .int t0), (0, .ref (h_b Z + 0)), (1, .int v1), (2, .int v2), (3, .int v3)] dX10_wait_115 rfl rfl ?_
    refine x_goto hz dX10_wait_117 ?_
    exact x_sub [2, 3, 4, 5, 0, 1] rfl (hk32 (v4 + 0, t0, M))
  refine x_iconst hz 1 dX10_wait_109 rfl ?_
  refine x_goto hz dX10_wait_110 ?_
  refine x_iadd hz dX10_wait_114 ?_
  refine x_istore hz [(4, .int (v4 + 1)), (5, .int t0), (0, .ref (h_b Z + 0)), (1, .int v1), (2, .int v2), (3, .int v3)] dX10_wait_115 rfl rfl ?_
  refine x_goto hz dX10_wait_117 ?_
  exact x_sub [2, 3, 4, 5, 0, 1] rfl (hk32 (v4 + 1, t0, M))
set_option maxRecDepth 10000 in
set_option maxHeartbeats 4000000 in
theorem wX10_wait_L99 {Z : hZ} {n : Nat} (hz : hOK Z hYm cX10_wait RX10 7 (n + 7) (some .int))  (v1 : Int32) (v2 : Int32) (v3 : Int32) (v4 : Int32) (M : hMem) {k32 : (Int32 × Int32 × hMem) → Option (Int32 × hMem)} (hk32 : ∀ s, hW Z rtM s.2.2 32 [(0, .ref (h_b Z + 0)), (1, .int v1), (2, .int v2), (3, .int v3), (4, .int s.1), (5, .int s.2.1)] [] (k32 s)) : hW Z rtM M 99 [(0, .ref (h_b Z + 0)), (1, .int v1), (2, .int v2), (3, .int v3), (4, .int v4)] [] (fX10_wait_L99 k32 v1 v2 v3 v4 M) := by
  unfold fX10_wait_L99
  refine x_iconst hz 0 dX10_wait_99 rfl ?_
  exact x_sub [0, 1, 2, 3, 4] rfl (wX10_wait_L100 hz v1 v2 v3 v4 0 M hk32)
set_option maxRecDepth 10000 in
set_option maxHeartbeats 4000000 in
theorem wX10_wait_L32 {Z : hZ} {n : Nat} (hz : hOK Z hYm cX10_wait RX10 7 (n + 7) (some .int))  (v1 : Int32) (v2 : Int32) (v3 : Int32)   : ∀ (i : Nat) (s : Int32 × Int32 × hMem), hW Z rtM s.2.2 32 [(0, .ref (h_b Z + 0)), (1, .int v1), (2, .int v2), (3, .int v3), (4, .int s.1), (5, .int s.2.1)] [] (h_lp (fX10_wait_L32 v1 v2 v3) i s) := by
  refine x_loop (Ms := fun s : Int32 × Int32 × hMem => s.2.2) (Ls := fun s : Int32 × Int32 × hMem => [(0, .ref (h_b Z + 0)), (1, .int v1), (2, .int v2), (3, .int v3), (4, .int s.1), (5, .int s.2.1)]) ?_
  intro k32 hk32 s
  show hW Z rtM s.2.2 32 [(0, .ref (h_b Z + 0)), (1, .int v1), (2, .int v2), (3, .int v3), (4, .int s.1), (5, .int s.2.1)] [] (fX10_wait_L32 v1 v2 v3 k32 s)
  unfold fX10_wait_L32
  refine x_iload hz dX10_wait_32 5 rfl ?_
  refine x_if_eq hz dX10_wait_34 ?_ ?_
  · refine x_iload hz dX10_wait_120 4 rfl ?_
    exact x_iret hz rfl dX10_wait_122
  refine x_iload hz dX10_wait_37 4 rfl ?_
  refine x_bipush hz 24 dX10_wait_39 rfl ?_
  refine x_icmp_ge hz dX10_wait_41 ?_ ?_
  · refine x_iload hz dX10_wait_120 4 rfl ?_
    exact x_iret hz rfl dX10_wait_122
  refine x_aload_n hz dX10_wait_44 rfl 0 rfl ?_
  refine x_iload_n hz dX10_wait_45 rfl 1 rfl ?_
  refine x_aload_n hz dX10_wait_46 rfl 0 rfl ?_
  refine x_getr hz sm_0 fl_X10_31 rfl rm_0_9 (by decide) dX10_wait_47 ?_
  refine x_iconst hz 3 dX10_wait_50 rfl ?_
  refine x_iload_n hz dX10_wait_51 rfl 2 rfl ?_
  refine x_imul hz dX10_wait_52 ?_
  refine x_iald hz sm_8 dX10_wait_53 (fun hi53 => ?_)
  refine x_iload hz dX10_wait_54 4 rfl ?_
  refine x_iconst hz 1 dX10_wait_56 rfl ?_
  refine x_iadd hz dX10_wait_57 ?_
  refine x_aload_n hz dX10_wait_58 rfl 0 rfl ?_
  refine x_getr hz sm_0 fl_X10_31 rfl rm_0_9 (by decide) dX10_wait_59 ?_
  refine x_iconst hz 3 dX10_wait_62 rfl ?_
  refine x_iload_n hz dX10_wait_63 rfl 2 rfl ?_
  refine x_imul hz dX10_wait_64 ?_
  refine x_iconst hz 1 dX10_wait_65 rfl ?_
  refine x_iadd hz dX10_wait_66 ?_
  refine x_iald hz sm_8 dX10_wait_67 (fun hi67 => ?_)
  refine x_aload_n hz dX10_wait_68 rfl 0 rfl ?_
  refine x_getr hz sm_0 fl_X10_31 rfl rm_0_9 (by decide) dX10_wait_69 ?_
  refine x_iconst hz 3 dX10_wait_72 rfl ?_
  refine x_iload_n hz dX10_wait_73 rfl 2 rfl ?_
  refine x_imul hz dX10_wait_74 ?_
  refine x_iconst hz 2 dX10_wait_75 rfl ?_
  refine x_iadd hz dX10_wait_76 ?_
  refine x_iald hz sm_8 dX10_wait_77 (fun hi77 => ?_)
  refine x_bind (fun q78 hq78 => ?_)
  refine x_callV hz mv_X10_251 sm_0 (by decide) rfl rfl (kX10_had (n := (n + 1)) v1 (s.2.2 8 (3 * v2).toNatClampNeg) (s.1 + 1) (s.2.2 8 ((3 * v2) + 1).toNatClampNeg) (s.2.2 8 ((3 * v2) + 2).toNatClampNeg) s.2.2 q78 hq78) rfl (av := [.int v1, .int (s.2.2 8 (3 * v2).toNatClampNeg), .int (s.1 + 1), .int (s.2.2 8 ((3 * v2) + 1).toNatClampNeg), .int (s.2.2 8 ((3 * v2) + 2).toNatClampNeg)]) (rest := []) rfl rfl (Nat.le_of_ble_eq_true rfl) dX10_wait_78 ?_
  refine x_istore hz [(6, .int q78.1), (0, .ref (h_b Z + 0)), (1, .int v1), (2, .int v2), (3, .int v3), (4, .int s.1), (5, .int s.2.1)] dX10_wait_81 rfl rfl ?_
  refine x_iload hz dX10_wait_83 0 rfl ?_
  refine x_iconst hz (-1) dX10_wait_85 rfl ?_
  refine x_icmp_eq hz dX10_wait_86 ?_ ?_
  · exact x_sub [1, 2, 3, 4, 5] rfl (wX10_wait_L99 hz v1 v2 v3 s.1 q78.2 hk32)
  refine x_iload hz dX10_wait_89 0 rfl ?_
  refine x_iload_n hz dX10_wait_91 rfl 4 rfl ?_
  refine x_icmp_gt hz dX10_wait_92 ?_ ?_
  · exact x_sub [1, 2, 3, 4, 5] rfl (wX10_wait_L99 hz v1 v2 v3 s.1 q78.2 hk32)
  refine x_iconst hz 1 dX10_wait_95 rfl ?_
  refine x_goto hz dX10_wait_96 ?_
  exact x_sub [1, 2, 3, 4, 5] rfl (wX10_wait_L100 hz v1 v2 v3 s.1 1 q78.2 hk32)
set_option maxRecDepth 10000 in
set_option maxHeartbeats 4000000 in
theorem wX10_wait {Z : hZ} {n : Nat} (hz : hOK Z hYm cX10_wait RX10 7 (n + 7) (some .int)) (a1 : Int32) (a2 : Int32) (M : hMem) : hW Z rtM M 0 [(0, .ref (h_b Z + 0)), (1, .int a1), (2, .int a2)] [] (fX10_wait a1 a2 M) := by
  unfold fX10_wait
  refine x_aload_n hz dX10_wait_0 rfl 0 rfl ?_
  refine x_iload_n hz dX10_wait_1 rfl 1 rfl ?_
  refine x_iload_n hz dX10_wait_2 rfl 2 rfl ?_
  refine x_callV hz mv_X10_255 sm_0 (by decide) rfl rfl (kX10_areThere (n := (n + 4)) a1 a2 M) rfl (av := [.int a1, .int a2]) (rest := []) rfl rfl (Nat.le_of_ble_eq_true rfl) dX10_wait_3 ?_
  refine x_if_ne hz dX10_wait_6 ?_ ?_
  · refine x_aload_n hz dX10_wait_12 rfl 0 rfl ?_
    refine x_iload_n hz dX10_wait_13 rfl 1 rfl ?_
    refine x_iload_n hz dX10_wait_14 rfl 2 rfl ?_
    refine x_bind (fun q15 hq15 => ?_)
    refine x_callV hz mv_X10_258 sm_0 (by decide) rfl rfl (kX10_hadBy (n := n) a1 a2 M q15 hq15) rfl (av := [.int a1, .int a2]) (rest := []) rfl rfl (Nat.le_of_ble_eq_true rfl) dX10_wait_15 ?_
    refine x_istore_n hz [(3, .int q15.1), (0, .ref (h_b Z + 0)), (1, .int a1), (2, .int a2)] dX10_wait_18 rfl rfl rfl ?_
    refine x_iload_n hz dX10_wait_19 rfl 0 rfl ?_
    refine x_iconst hz (-1) dX10_wait_20 rfl ?_
    refine x_icmp_ne hz dX10_wait_21 ?_ ?_
    · refine x_iconst hz 0 dX10_wait_26 rfl ?_
      refine x_istore hz [(4, .int 0), (3, .int q15.1), (0, .ref (h_b Z + 0)), (1, .int a1), (2, .int a2)] dX10_wait_27 rfl rfl ?_
      refine x_iconst hz 1 dX10_wait_29 rfl ?_
      refine x_istore hz [(5, .int 1), (4, .int 0), (3, .int q15.1), (0, .ref (h_b Z + 0)), (1, .int a1), (2, .int a2)] dX10_wait_30 rfl rfl ?_
      exact x_sub [3, 4, 5, 2, 1, 0] rfl (wX10_wait_L32 hz a1 a2 q15.1 h_FU (0, 1, q15.2))
    refine x_iconst hz (-1) dX10_wait_24 rfl ?_
    exact x_iret hz rfl dX10_wait_25
  refine x_bipush hz (-5) dX10_wait_9 rfl ?_
  exact x_iret hz rfl dX10_wait_11
theorem kX10_wait {l : Launch} {dd : hDD} {b n : Nat} (a1 : Int32) (a2 : Int32) (M : hMem) (r : Int32 × hMem) (h : fX10_wait a1 a2 M = some r) : hC l hYm dd b yX10_wait cX10_wait 7 (some .int) (n + 7) [.ref (b + 0), .int a1, .int a2] M (some (.int r.1), r.2) :=
  h_met (av := fun b => [.ref (b + 0), .int a1, .int a2]) (rt := rtM) (by decide) (Nat.le_of_ble_eq_true rfl) (fun Z hz => wX10_wait (n := n) hz a1 a2 M) r h
set_option maxRecDepth 10000 in
set_option maxHeartbeats 4000000 in
theorem wX10_pace_L25 {Z : hZ} {n : Nat} (hz : hOK Z hYm cX10_pace RX10 6 (n + 6) (some .int))  (v1 : Int32) (v2 : Int32) (v3 : Int32)   : ∀ (i : Nat) (s : Int32 × hMem), hW Z rtM s.2 25 [(0, .ref (h_b Z + 0)), (1, .int v1), (2, .int v2), (3, .int v3), (4, .int s.1)] [] (h_lp (fX10_pace_L25 v1 v2 v3) i s) := by
  refine x_loop (Ms := fun s : Int32 × hMem => s.2) (Ls := fun s : Int32 × hMem => [(0, .ref (h_b Z + 0)), (1, .int v1), (2, .int v2), (3, .int v3), (4, .int s.1)]) ?_
  intro k25 hk25 s
  show hW Z rtM s.2 25 [(0, .ref (h_b Z + 0)), (1, .int v1), (2, .int v2), (3, .int v3), (4, .int s.1)] [] (fX10_pace_L25 v1 v2 v3 k25 s)
  unfold fX10_pace_L25
  refine x_iload hz dX10_pace_25 4 rfl ?_
  refine x_iconst hz 4 dX10_pace_27 rfl ?_
  refine x_icmp_gt hz dX10_pace_28 ?_ ?_
  · refine x_iconst hz (-1) dX10_pace_84 rfl ?_
    exact x_iret hz rfl dX10_pace_85
  refine x_aload_n hz dX10_pace_31 rfl 0 rfl ?_
  refine x_iload_n hz dX10_pace_32 rfl 1 rfl ?_
  refine x_aload_n hz dX10_pace_33 rfl 0 rfl ?_
  refine x_getr hz sm_0 fl_X10_31 rfl rm_0_9 (by decide) dX10_pace_34 ?_
  refine x_iconst hz 3 dX10_pace_37 rfl ?_
  refine x_iload_n hz dX10_pace_38 rfl 2 rfl ?_
  refine x_imul hz dX10_pace_39 ?_
  refine x_iald hz sm_8 dX10_pace_40 (fun hi40 => ?_)
  refine x_iconst hz 0 dX10_pace_41 rfl ?_
  refine x_iload hz dX10_pace_42 4 rfl ?_
  refine x_aload_n hz dX10_pace_44 rfl 0 rfl ?_
  refine x_getr hz sm_0 fl_X10_31 rfl rm_0_9 (by decide) dX10_pace_45 ?_
  refine x_iconst hz 3 dX10_pace_48 rfl ?_
  refine x_iload_n hz dX10_pace_49 rfl 2 rfl ?_
  refine x_imul hz dX10_pace_50 ?_
  refine x_iconst hz 2 dX10_pace_51 rfl ?_
  refine x_iadd hz dX10_pace_52 ?_
  refine x_iald hz sm_8 dX10_pace_53 (fun hi53 => ?_)
  refine x_bind (fun q54 hq54 => ?_)
  refine x_callV hz mv_X10_251 sm_0 (by decide) rfl rfl (kX10_had (n := n) v1 (s.2 8 (3 * v2).toNatClampNeg) 0 s.1 (s.2 8 ((3 * v2) + 2).toNatClampNeg) s.2 q54 hq54) rfl (av := [.int v1, .int (s.2 8 (3 * v2).toNatClampNeg), .int 0, .int s.1, .int (s.2 8 ((3 * v2) + 2).toNatClampNeg)]) (rest := []) rfl rfl (Nat.le_of_ble_eq_true rfl) dX10_pace_54 ?_
  refine x_istore hz [(5, .int q54.1), (0, .ref (h_b Z + 0)), (1, .int v1), (2, .int v2), (3, .int v3), (4, .int s.1)] dX10_pace_57 rfl rfl ?_
  refine x_iload hz dX10_pace_59 0 rfl ?_
  refine x_iconst hz (-1) dX10_pace_61 rfl ?_
  refine x_icmp_eq hz dX10_pace_62 ?_ ?_
  · refine x_iinc hz (s.1 + 1) [(4, .int (s.1 + 1)), (5, .int q54.1), (0, .ref (h_b Z + 0)), (1, .int v1), (2, .int v2), (3, .int v3)] dX10_pace_78 5 rfl rfl rfl rfl ?_
    refine x_goto hz dX10_pace_81 ?_
    exact x_sub [2, 3, 4, 5, 0] rfl (hk25 (s.1 + 1, q54.2))
  refine x_iload_n hz dX10_pace_65 rfl 4 rfl ?_
  refine x_if_eq hz dX10_pace_66 ?_ ?_
  · refine x_iload hz dX10_pace_75 5 rfl ?_
    exact x_iret hz rfl dX10_pace_77
  refine x_iload hz dX10_pace_69 0 rfl ?_
  refine x_iload_n hz dX10_pace_71 rfl 4 rfl ?_
  refine x_icmp_ge hz dX10_pace_72 ?_ ?_
  · refine x_iinc hz (s.1 + 1) [(4, .int (s.1 + 1)), (5, .int q54.1), (0, .ref (h_b Z + 0)), (1, .int v1), (2, .int v2), (3, .int v3)] dX10_pace_78 5 rfl rfl rfl rfl ?_
    refine x_goto hz dX10_pace_81 ?_
    exact x_sub [2, 3, 4, 5, 0] rfl (hk25 (s.1 + 1, q54.2))
  refine x_iload hz dX10_pace_75 5 rfl ?_
  exact x_iret hz rfl dX10_pace_77
set_option maxRecDepth 10000 in
set_option maxHeartbeats 4000000 in
theorem wX10_pace {Z : hZ} {n : Nat} (hz : hOK Z hYm cX10_pace RX10 6 (n + 6) (some .int)) (a1 : Int32) (a2 : Int32) (a3 : Int32) (M : hMem) : hW Z rtM M 0 [(0, .ref (h_b Z + 0)), (1, .int a1), (2, .int a2), (3, .int a3)] [] (fX10_pace a1 a2 a3 M) := by
  unfold fX10_pace
  refine x_aload_n hz dX10_pace_0 rfl 0 rfl ?_
  refine x_iload_n hz dX10_pace_1 rfl 1 rfl ?_
  refine x_iload_n hz dX10_pace_2 rfl 2 rfl ?_
  refine x_callV hz mv_X10_255 sm_0 (by decide) rfl rfl (kX10_areThere (n := (n + 3)) a1 a2 M) rfl (av := [.int a1, .int a2]) (rest := []) rfl rfl (Nat.le_of_ble_eq_true rfl) dX10_pace_3 ?_
  refine x_if_ne hz dX10_pace_6 ?_ ?_
  · refine x_iload_n hz dX10_pace_12 rfl 3 rfl ?_
    refine x_callS hz ms_X10_189 (kX10_areSeconds (n := (n + 4)) a3 M) rfl (av := [.int a3]) (rest := []) rfl rfl (Nat.le_of_ble_eq_true rfl) dX10_pace_13 ?_
    refine x_if_ne hz dX10_pace_16 ?_ ?_
    · refine x_iconst hz 0 dX10_pace_22 rfl ?_
      refine x_istore hz [(4, .int 0), (0, .ref (h_b Z + 0)), (1, .int a1), (2, .int a2), (3, .int a3)] dX10_pace_23 rfl rfl ?_
      exact x_sub [1, 2, 3, 4, 0] rfl (wX10_pace_L25 hz a1 a2 a3 h_FU (0, M))
    refine x_bipush hz (-7) dX10_pace_19 rfl ?_
    exact x_iret hz rfl dX10_pace_21
  refine x_bipush hz (-5) dX10_pace_9 rfl ?_
  exact x_iret hz rfl dX10_pace_11
theorem kX10_pace {l : Launch} {dd : hDD} {b n : Nat} (a1 : Int32) (a2 : Int32) (a3 : Int32) (M : hMem) (r : Int32 × hMem) (h : fX10_pace a1 a2 a3 M = some r) : hC l hYm dd b yX10_pace cX10_pace 6 (some .int) (n + 6) [.ref (b + 0), .int a1, .int a2, .int a3] M (some (.int r.1), r.2) :=
  h_met (av := fun b => [.ref (b + 0), .int a1, .int a2, .int a3]) (rt := rtM) (by decide) (Nat.le_of_ble_eq_true rfl) (fun Z hz => wX10_pace (n := n) hz a1 a2 a3 M) r h
set_option maxRecDepth 10000 in
set_option maxHeartbeats 4000000 in
theorem wX10_isInOrder_L7 {Z : hZ} {n : Nat} (hz : hOK Z hYm cX10_isInOrder RX10 6 (n + 1) (some .boolean))  (v1 : Int32) (M : hMem)  : ∀ (i : Nat) (s : Int32 × Int32 × Int32), hW Z (rtP M) M 7 [(1, .int v1), (2, .int s.1), (3, .int s.2.1), (4, .int s.2.2)] [] (h_lp (fX10_isInOrder_L7 v1 M) i s) := by
  refine x_loop (Ms := fun s : Int32 × Int32 × Int32 => M) (Ls := fun s : Int32 × Int32 × Int32 => [(1, .int v1), (2, .int s.1), (3, .int s.2.1), (4, .int s.2.2)]) ?_
  intro k7 hk7 s
  show hW Z (rtP M) M 7 [(1, .int v1), (2, .int s.1), (3, .int s.2.1), (4, .int s.2.2)] [] (fX10_isInOrder_L7 v1 M k7 s)
  unfold fX10_isInOrder_L7
  refine x_iload hz dX10_isInOrder_7 3 rfl ?_
  refine x_iload_n hz dX10_isInOrder_9 rfl 0 rfl ?_
  refine x_icmp_ge hz dX10_isInOrder_10 ?_ ?_
  · refine x_iload_n hz dX10_isInOrder_59 rfl 2 rfl ?_
    refine x_if_ne hz dX10_isInOrder_60 ?_ ?_
    · refine x_iconst hz 0 dX10_isInOrder_67 rfl ?_
      exact x_zret hz rfl rfl dX10_isInOrder_68
    refine x_iconst hz 1 dX10_isInOrder_63 rfl ?_
    refine x_goto hz dX10_isInOrder_64 ?_
    exact x_zret hz rfl rfl dX10_isInOrder_68
  refine x_iload_n hz dX10_isInOrder_13 rfl 2 rfl ?_
  refine x_bipush hz 10 dX10_isInOrder_14 rfl ?_
  refine x_irem hz dX10_isInOrder_16 (by decide) ?_
  refine x_istore hz [(5, .int (h_rem s.2.1 10)), (1, .int v1), (2, .int s.1), (3, .int s.2.1), (4, .int s.2.2)] dX10_isInOrder_17 rfl rfl ?_
  refine x_iload hz dX10_isInOrder_19 0 rfl ?_
  refine x_iconst hz 1 dX10_isInOrder_21 rfl ?_
  refine x_iload_n hz dX10_isInOrder_22 rfl 1 rfl ?_
  refine x_callS hz ms_X10_93 (kX10_in (n := n) (h_rem s.2.1 10) 1 v1 M) rfl (av := [.int (h_rem s.2.1 10), .int 1, .int v1]) (rest := []) rfl rfl (Nat.le_of_ble_eq_true rfl) dX10_isInOrder_23 ?_
  refine x_if_eq hz dX10_isInOrder_26 ?_ ?_
  · refine x_iconst hz 0 dX10_isInOrder_39 rfl ?_
    exact x_zret hz rfl rfl dX10_isInOrder_40
  refine x_iload_n hz dX10_isInOrder_29 rfl 2 rfl ?_
  refine x_iload hz dX10_isInOrder_30 0 rfl ?_
  refine x_ishr hz dX10_isInOrder_32 ?_
  refine x_iconst hz 1 dX10_isInOrder_33 rfl ?_
  refine x_iand hz dX10_isInOrder_34 ?_
  refine x_iconst hz 1 dX10_isInOrder_35 rfl ?_
  refine x_icmp_ne hz dX10_isInOrder_36 ?_ ?_
  · refine x_iload_n hz dX10_isInOrder_41 rfl 2 rfl ?_
    refine x_iconst hz 1 dX10_isInOrder_42 rfl ?_
    refine x_iload hz dX10_isInOrder_43 0 rfl ?_
    refine x_ishl hz dX10_isInOrder_45 ?_
    refine x_ior hz dX10_isInOrder_46 ?_
    refine x_istore_n hz [(2, .int (s.1 ||| (1 <<< ((h_rem s.2.1 10) &&& 31)))), (5, .int (h_rem s.2.1 10)), (1, .int v1), (3, .int s.2.1), (4, .int s.2.2)] dX10_isInOrder_47 rfl rfl rfl ?_
    refine x_iload_n hz dX10_isInOrder_48 rfl 3 rfl ?_
    refine x_bipush hz 10 dX10_isInOrder_49 rfl ?_
    refine x_idiv hz dX10_isInOrder_51 (by decide) ?_
    refine x_istore_n hz [(3, .int (s.2.1 / 10)), (2, .int (s.1 ||| (1 <<< ((h_rem s.2.1 10) &&& 31)))), (5, .int (h_rem s.2.1 10)), (1, .int v1), (4, .int s.2.2)] dX10_isInOrder_52 rfl rfl rfl ?_
    refine x_iinc hz (s.2.2 + 1) [(4, .int (s.2.2 + 1)), (3, .int (s.2.1 / 10)), (2, .int (s.1 ||| (1 <<< ((h_rem s.2.1 10) &&& 31)))), (5, .int (h_rem s.2.1 10)), (1, .int v1)] dX10_isInOrder_53 4 rfl rfl rfl rfl ?_
    refine x_goto hz dX10_isInOrder_56 ?_
    exact x_sub [4, 2, 1, 0] rfl (hk7 (s.1 ||| (1 <<< ((h_rem s.2.1 10) &&& 31)), s.2.1 / 10, s.2.2 + 1))
  refine x_iconst hz 0 dX10_isInOrder_39 rfl ?_
  exact x_zret hz rfl rfl dX10_isInOrder_40
set_option maxRecDepth 10000 in
set_option maxHeartbeats 4000000 in
theorem wX10_isInOrder {Z : hZ} {n : Nat} (hz : hOK Z hYm cX10_isInOrder RX10 6 (n + 1) (some .boolean)) (a0 : Int32) (a1 : Int32) (M : hMem) : hW Z (rtP M) M 0 [(0, .int a0), (1, .int a1)] [] (fX10_isInOrder a0 a1 M) := by
  unfold fX10_isInOrder
  refine x_iconst hz 0 dX10_isInOrder_0 rfl ?_
  refine x_istore_n hz [(2, .int 0), (0, .int a0), (1, .int a1)] dX10_isInOrder_1 rfl rfl rfl ?_
  refine x_iload_n hz dX10_isInOrder_2 rfl 1 rfl ?_
  refine x_istore_n hz [(3, .int a0), (2, .int 0), (0, .int a0), (1, .int a1)] dX10_isInOrder_3 rfl rfl rfl ?_
  refine x_iconst hz 0 dX10_isInOrder_4 rfl ?_
  refine x_istore hz [(4, .int 0), (3, .int a0), (2, .int 0), (0, .int a0), (1, .int a1)] dX10_isInOrder_5 rfl rfl ?_
  exact x_sub [4, 2, 1, 0] rfl (wX10_isInOrder_L7 hz a1 M h_FU (0, a0, 0))
theorem kX10_isInOrder {l : Launch} {dd : hDD} {b n : Nat} (a0 : Int32) (a1 : Int32) (M : hMem) (r : Int32) (h : fX10_isInOrder a0 a1 M = some r) : hC l hYm dd b yX10_isInOrder cX10_isInOrder 6 (some .boolean) (n + 1) [.int a0, .int a1] M (some (.int r), M) :=
  h_met (av := fun b => [.int a0, .int a1]) (rt := (rtP M)) (by decide) (Nat.le_of_ble_eq_true rfl) (fun Z hz => wX10_isInOrder (n := n) hz a0 a1 M) r h
