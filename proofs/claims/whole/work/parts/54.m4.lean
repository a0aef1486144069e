set_option maxRecDepth 10000 in
set_option maxHeartbeats 4000000 in
theorem wX10_laws_L25 {Z : hZ} {n : Nat} (hz : hOK Z hYm cX10_laws RX10 7 (n + 6) (some .int))  (v1 : Int32) (v2 : Int32) (v4 : Int32)   : ∀ (i : Nat) (s : Int32 × Int32 × hMem), hW Z rtM s.2.2 25 [(0, .ref (h_b Z + 0)), (1, .int v1), (2, .int v2), (4, .int v4), (5, .int s.1), (6, .int s.2.1)] [] (h_lp (fX10_laws_L25 v1 v2 v4) i s) := by
  refine x_loop (Ms := fun s : Int32 × Int32 × hMem => s.2.2) (Ls := fun s : Int32 × Int32 × hMem => [(0, .ref (h_b Z + 0)), (1, .int v1), (2, .int v2), (4, .int v4), (5, .int s.1), (6, .int s.2.1)]) ?_
  intro k25 hk25 s
  show hW Z rtM s.2.2 25 [(0, .ref (h_b Z + 0)), (1, .int v1), (2, .int v2), (4, .int v4), (5, .int s.1), (6, .int s.2.1)] [] (fX10_laws_L25 v1 v2 v4 k25 s)
  unfold fX10_laws_L25
  refine x_iload hz dX10_laws_25 5 rfl ?_
  refine x_aload_n hz dX10_laws_27 rfl 0 rfl ?_
  refine x_geti hz sm_0 fl_X10_114 rfl dX10_laws_28 ?_
  refine x_icmp_ge hz dX10_laws_31 ?_ ?_
  · refine x_aload_n hz dX10_laws_69 rfl 0 rfl ?_
    refine x_iload hz dX10_laws_70 3 rfl ?_
    refine x_puti hz sm_0 fp_X10_117 rfl dX10_laws_72 ?_
    refine x_iload hz dX10_laws_75 4 rfl ?_
    exact x_iret hz rfl dX10_laws_77
  refine x_aload_n hz dX10_laws_34 rfl 0 rfl ?_
  refine x_iload hz dX10_laws_35 5 rfl ?_
  refine x_puti hz sm_0 fp_X10_117 rfl dX10_laws_37 ?_
  refine x_iload hz dX10_laws_40 4 rfl ?_
  refine x_aload_n hz dX10_laws_42 rfl 0 rfl ?_
  refine x_iload_n hz dX10_laws_43 rfl 1 rfl ?_
  refine x_iload_n hz dX10_laws_44 rfl 2 rfl ?_
  refine x_bind (fun q45 hq45 => ?_)
  refine x_callV hz mv_X10_286 sm_0 (by decide) rfl rfl (kX10_unlikeNow (n := n) v1 v2 (h_up s.2.2 0 15 s.2.1) q45 hq45) rfl (av := [.int v1, .int v2]) (rest := [.int s.1]) rfl rfl (Nat.le_of_ble_eq_true rfl) dX10_laws_45 ?_
  refine x_iconst hz (-1) dX10_laws_48 rfl ?_
  refine x_icmp_ne hz dX10_laws_49 ?_ ?_
  · refine x_iconst hz 0 dX10_laws_59 rfl ?_
    refine x_ior hz dX10_laws_60 ?_
    refine x_istore hz [(5, .int (s.1 ||| 0)), (0, .ref (h_b Z + 0)), (1, .int v1), (2, .int v2), (4, .int v4), (6, .int s.2.1)] dX10_laws_61 rfl rfl ?_
    refine x_iinc hz (s.2.1 + 1) [(6, .int (s.2.1 + 1)), (5, .int (s.1 ||| 0)), (0, .ref (h_b Z + 0)), (1, .int v1), (2, .int v2), (4, .int v4)] dX10_laws_63 5 rfl rfl rfl rfl ?_
    refine x_goto hz dX10_laws_66 ?_
    exact x_sub [2, 3, 4, 5, 1, 0] rfl (hk25 (s.1 ||| 0, s.2.1 + 1, q45.2))
  refine x_iconst hz 1 dX10_laws_52 rfl ?_
  refine x_iload hz dX10_laws_53 5 rfl ?_
  refine x_ishl hz dX10_laws_55 ?_
  refine x_goto hz dX10_laws_56 ?_
  refine x_ior hz dX10_laws_60 ?_
  refine x_istore hz [(5, .int (s.1 ||| (1 <<< (s.2.1 &&& 31)))), (0, .ref (h_b Z + 0)), (1, .int v1), (2, .int v2), (4, .int v4), (6, .int s.2.1)] dX10_laws_61 rfl rfl ?_
  refine x_iinc hz (s.2.1 + 1) [(6, .int (s.2.1 + 1)), (5, .int (s.1 ||| (1 <<< (s.2.1 &&& 31)))), (0, .ref (h_b Z + 0)), (1, .int v1), (2, .int v2), (4, .int v4)] dX10_laws_63 5 rfl rfl rfl rfl ?_
  refine x_goto hz dX10_laws_66 ?_
  exact x_sub [2, 3, 4, 5, 1, 0] rfl (hk25 (s.1 ||| (1 <<< (s.2.1 &&& 31)), s.2.1 + 1, q45.2))
set_option maxRecDepth 10000 in
set_option maxHeartbeats 4000000 in
theorem wX10_laws {Z : hZ} {n : Nat} (hz : hOK Z hYm cX10_laws RX10 7 (n + 6) (some .int)) (a1 : Int32) (a2 : Int32) (M : hMem) : hW Z rtM M 0 [(0, .ref (h_b Z + 0)), (1, .int a1), (2, .int a2)] [] (fX10_laws a1 a2 M) := by
  unfold fX10_laws
  refine x_aload_n hz dX10_laws_0 rfl 0 rfl ?_
  refine x_iload_n hz dX10_laws_1 rfl 1 rfl ?_
  refine x_iload_n hz dX10_laws_2 rfl 2 rfl ?_
  refine x_bind (fun q3 hq3 => ?_)
  refine x_callV hz mv_X10_283 sm_0 (by decide) rfl rfl (kX10_toldWrong (n := (n + 3)) a1 a2 M q3 hq3) rfl (av := [.int a1, .int a2]) (rest := []) rfl rfl (Nat.le_of_ble_eq_true rfl) dX10_laws_3 ?_
  refine x_istore_n hz [(3, .int q3), (0, .ref (h_b Z + 0)), (1, .int a1), (2, .int a2)] dX10_laws_6 rfl rfl rfl ?_
  refine x_iload_n hz dX10_laws_7 rfl 0 rfl ?_
  refine x_if_eq hz dX10_laws_8 ?_ ?_
  · refine x_aload_n hz dX10_laws_13 rfl 1 rfl ?_
    refine x_geti hz sm_0 fl_X10_117 rfl dX10_laws_14 ?_
    refine x_istore hz [(4, .int (M 0 15)), (3, .int q3), (0, .ref (h_b Z + 0)), (1, .int a1), (2, .int a2)] dX10_laws_17 rfl rfl ?_
    refine x_iconst hz 0 dX10_laws_19 rfl ?_
    refine x_istore hz [(5, .int 0), (4, .int (M 0 15)), (3, .int q3), (0, .ref (h_b Z + 0)), (1, .int a1), (2, .int a2)] dX10_laws_20 rfl rfl ?_
    refine x_iconst hz 0 dX10_laws_22 rfl ?_
    refine x_istore hz [(6, .int 0), (5, .int 0), (4, .int (M 0 15)), (3, .int q3), (0, .ref (h_b Z + 0)), (1, .int a1), (2, .int a2)] dX10_laws_23 rfl rfl ?_
    exact x_sub [4, 5, 6, 2, 1, 0] rfl (wX10_laws_L25 hz a1 a2 (M 0 15) h_FU (0, 0, M))
  refine x_iload_n hz dX10_laws_11 rfl 0 rfl ?_
  exact x_iret hz rfl dX10_laws_12
theorem kX10_laws {l : Launch} {dd : hDD} {b n : Nat} (a1 : Int32) (a2 : Int32) (M : hMem) (r : Int32 × hMem) (h : fX10_laws a1 a2 M = some r) : hC l hYm dd b yX10_laws cX10_laws 7 (some .int) (n + 6) [.ref (b + 0), .int a1, .int a2] M (some (.int r.1), r.2) :=
  h_met (av := fun b => [.ref (b + 0), .int a1, .int a2]) (rt := rtM) (by decide) (Nat.le_of_ble_eq_true rfl) (fun Z hz => wX10_laws (n := n) hz a1 a2 M) r h
set_option maxRecDepth 10000 in
set_option maxHeartbeats 4000000 in
theorem wX10_film_L90 {Z : hZ} {n : Nat} (hz : hOK Z hYm cX10_film RX10 5 (n + 4) (some .int))  (v1 : Int32) (v2 : Int32) (v3 : Int32) (v4 : Int32) (t2 : Int32) (t1 : Int32) (M : hMem) {k58 : (Int32 × hMem) → Option (Int32 × hMem)} (hk58 : ∀ s, hW Z rtM s.2 58 [(0, .ref (h_b Z + 0)), (1, .int v1), (2, .int v2), (3, .int v3), (4, .int s.1)] [] (k58 s)) : hW Z rtM M 90 [(0, .ref (h_b Z + 0)), (1, .int v1), (2, .int v2), (3, .int v3), (4, .int v4)] [.int t2, .int t1, .ref (h_b Z + 15)] (fX10_film_L90 k58 v1 v2 v3 v4 t2 t1 M) := by
  unfold fX10_film_L90
  refine x_iast hz sm_15 dX10_film_90 (fun hi90 => ?_)
  refine x_iload hz dX10_film_91 4 rfl ?_
  refine x_bipush hz 24 dX10_film_93 rfl ?_
  refine x_icmp_ge hz dX10_film_95 ?_ ?_
  · refine x_iinc hz (v4 + 1) [(4, .int (v4 + 1)), (0, .ref (h_b Z + 0)), (1, .int v1), (2, .int v2), (3, .int v3)] dX10_film_105 4 rfl rfl rfl rfl ?_
    refine x_goto hz dX10_film_108 ?_
    exact x_sub [1, 2, 3, 4, 0] rfl (hk58 (v4 + 1, h_up M 15 t1.toNatClampNeg t2))
  refine x_aload_n hz dX10_film_98 rfl 0 rfl ?_
  refine x_iload_n hz dX10_film_99 rfl 2 rfl ?_
  refine x_iload hz dX10_film_100 4 rfl ?_
  refine x_bind (fun q102 hq102 => ?_)
  refine x_callV hz mv_X10_229 sm_0 (by decide) rfl rfl (kX10_seconds (n := n) v2 v4 (h_up M 15 t1.toNatClampNeg t2) q102 hq102) rfl (av := [.int v2, .int v4]) (rest := []) rfl rfl (Nat.le_of_ble_eq_true rfl) dX10_film_102 ?_
  refine x_iinc hz (v4 + 1) [(4, .int (v4 + 1)), (0, .ref (h_b Z + 0)), (1, .int v1), (2, .int v2), (3, .int v3)] dX10_film_105 4 rfl rfl rfl rfl ?_
  refine x_goto hz dX10_film_108 ?_
  exact x_sub [1, 2, 3, 4, 0] rfl (hk58 (v4 + 1, q102))
set_option maxRecDepth 10000 in
set_option maxHeartbeats 4000000 in
theorem wX10_film_L58 {Z : hZ} {n : Nat} (hz : hOK Z hYm cX10_film RX10 5 (n + 4) (some .int))  (v1 : Int32) (v2 : Int32) (v3 : Int32)   : ∀ (i : Nat) (s : Int32 × hMem), hW Z rtM s.2 58 [(0, .ref (h_b Z + 0)), (1, .int v1), (2, .int v2), (3, .int v3), (4, .int s.1)] [] (h_lp (fX10_film_L58 v1 v2 v3) i s) := by
  refine x_loop (Ms := fun s : Int32 × hMem => s.2) (Ls := fun s : Int32 × hMem => [(0, .ref (h_b Z + 0)), (1, .int v1), (2, .int v2), (3, .int v3), (4, .int s.1)]) ?_
  intro k58 hk58 s
  show hW Z rtM s.2 58 [(0, .ref (h_b Z + 0)), (1, .int v1), (2, .int v2), (3, .int v3), (4, .int s.1)] [] (fX10_film_L58 v1 v2 v3 k58 s)
  unfold fX10_film_L58
  refine x_iload hz dX10_film_58 4 rfl ?_
  refine x_bipush hz 40 dX10_film_60 rfl ?_
  refine x_icmp_ge hz dX10_film_62 ?_ ?_
  · refine x_iload_n hz dX10_film_111 rfl 3 rfl ?_
    exact x_iret hz rfl dX10_film_112
  refine x_aload_n hz dX10_film_65 rfl 0 rfl ?_
  refine x_getr hz sm_0 fl_X10_52 rfl rm_0_23 (by decide) dX10_film_66 ?_
  refine x_bipush hz 40 dX10_film_69 rfl ?_
  refine x_iload_n hz dX10_film_71 rfl 1 rfl ?_
  refine x_imul hz dX10_film_72 ?_
  refine x_iload hz dX10_film_73 4 rfl ?_
  refine x_iadd hz dX10_film_75 ?_
  refine x_iload hz dX10_film_76 4 rfl ?_
  refine x_iload_n hz dX10_film_78 rfl 3 rfl ?_
  refine x_icmp_ge hz dX10_film_79 ?_ ?_
  · refine x_iconst hz 0 dX10_film_89 rfl ?_
    exact x_sub [0, 1, 2, 3, 4] rfl (wX10_film_L90 hz v1 v2 v3 s.1 0 ((40 * v1) + s.1) s.2 hk58)
  refine x_aload_n hz dX10_film_82 rfl 0 rfl ?_
  refine x_geti hz sm_0 fl_X10_211 rfl dX10_film_83 ?_
  refine x_goto hz dX10_film_86 ?_
  exact x_sub [0, 1, 2, 3, 4] rfl (wX10_film_L90 hz v1 v2 v3 s.1 (s.2 0 36) ((40 * v1) + s.1) s.2 hk58)
set_option maxRecDepth 10000 in
set_option maxHeartbeats 4000000 in
theorem wX10_film {Z : hZ} {n : Nat} (hz : hOK Z hYm cX10_film RX10 5 (n + 4) (some .int)) (a1 : Int32) (a2 : Int32) (a3 : Int32) (M : hMem) : hW Z rtM M 0 [(0, .ref (h_b Z + 0)), (1, .int a1), (2, .int a2), (3, .int a3)] [] (fX10_film a1 a2 a3 M) := by
  unfold fX10_film
  refine x_iload_n hz dX10_film_0 rfl 1 rfl ?_
  refine x_iconst hz 0 dX10_film_1 rfl ?_
  refine x_iconst hz 3 dX10_film_2 rfl ?_
  refine x_callS hz ms_X10_93 (kX10_in (n := (n + 3)) a1 0 3 M) rfl (av := [.int a1, .int 0, .int 3]) (rest := []) rfl rfl (Nat.le_of_ble_eq_true rfl) dX10_film_3 ?_
  refine x_if_ne hz dX10_film_6 ?_ ?_
  · refine x_aload_n hz dX10_film_12 rfl 0 rfl ?_
    refine x_iload_n hz dX10_film_13 rfl 2 rfl ?_
    refine x_callV hz mv_X10_199 sm_0 (by decide) rfl rfl (kX10_isHat (n := (n + 2)) a2 M) rfl (av := [.int a2]) (rest := []) rfl rfl (Nat.le_of_ble_eq_true rfl) dX10_film_14 ?_
    refine x_if_ne hz dX10_film_17 ?_ ?_
    · refine x_iload_n hz dX10_film_23 rfl 3 rfl ?_
      refine x_iconst hz 0 dX10_film_24 rfl ?_
      refine x_bipush hz 25 dX10_film_25 rfl ?_
      refine x_callS hz ms_X10_93 (kX10_in (n := (n + 3)) a3 0 25 M) rfl (av := [.int a3, .int 0, .int 25]) (rest := []) rfl rfl (Nat.le_of_ble_eq_true rfl) dX10_film_27 ?_
      refine x_if_ne hz dX10_film_30 ?_ ?_
      · refine x_aload_n hz dX10_film_36 rfl 0 rfl ?_
        refine x_getr hz sm_0 fl_X10_46 rfl rm_0_21 (by decide) dX10_film_37 ?_
        refine x_iload_n hz dX10_film_40 rfl 1 rfl ?_
        refine x_iconst hz 2 dX10_film_41 rfl ?_
        refine x_iast hz sm_13 dX10_film_42 (fun hi42 => ?_)
        refine x_aload_n hz dX10_film_43 rfl 0 rfl ?_
        refine x_getr hz sm_0 fl_X10_49 rfl rm_0_22 (by decide) dX10_film_44 ?_
        refine x_iload_n hz dX10_film_47 rfl 1 rfl ?_
        refine x_iload_n hz dX10_film_48 rfl 3 rfl ?_
        refine x_iast hz sm_14 dX10_film_49 (fun hi49 => ?_)
        refine x_aload_n hz dX10_film_50 rfl 0 rfl ?_
        refine x_iload_n hz dX10_film_51 rfl 2 rfl ?_
        refine x_bind (fun q52 hq52 => ?_)
        refine x_callV hz mv_X10_233 sm_0 (by decide) rfl rfl (kX10_begins (n := (n + 3)) a2 (h_up (h_up M 13 a1.toNatClampNeg 2) 14 a1.toNatClampNeg a3) q52 hq52) rfl (av := [.int a2]) (rest := []) rfl rfl (Nat.le_of_ble_eq_true rfl) dX10_film_52 ?_
        refine x_iconst hz 0 dX10_film_55 rfl ?_
        refine x_istore hz [(4, .int 0), (0, .ref (h_b Z + 0)), (1, .int a1), (2, .int a2), (3, .int a3)] dX10_film_56 rfl rfl ?_
        exact x_sub [1, 2, 3, 4, 0] rfl (wX10_film_L58 hz a1 a2 a3 h_FU (0, q52))
      refine x_bipush hz (-7) dX10_film_33 rfl ?_
      exact x_iret hz rfl dX10_film_35
    refine x_bipush hz (-5) dX10_film_20 rfl ?_
    exact x_iret hz rfl dX10_film_22
  refine x_bipush hz (-2) dX10_film_9 rfl ?_
  exact x_iret hz rfl dX10_film_11
theorem kX10_film {l : Launch} {dd : hDD} {b n : Nat} (a1 : Int32) (a2 : Int32) (a3 : Int32) (M : hMem) (r : Int32 × hMem) (h : fX10_film a1 a2 a3 M = some r) : hC l hYm dd b yX10_film cX10_film 5 (some .int) (n + 4) [.ref (b + 0), .int a1, .int a2, .int a3] M (some (.int r.1), r.2) :=
  h_met (av := fun b => [.ref (b + 0), .int a1, .int a2, .int a3]) (rt := rtM) (by decide) (Nat.le_of_ble_eq_true rfl) (fun Z hz => wX10_film (n := n) hz a1 a2 a3 M) r h
set_option maxRecDepth 10000 in
set_option maxHeartbeats 4000000 in
theorem wX10_blowsBy_L66 {Z : hZ} {n : Nat} (hz : hOK Z hYm cX10_blowsBy RX10 5 (n + 0) none)  (v2 : Int64) (v4 : Int32) (M : hMem) {k8 : (Int64 × Int32 × hMem) → Option hMem} (hk8 : ∀ s, hW Z rtV s.2.2 8 [(0, .ref (h_b Z + 0)), (2, .long s.1), (4, .int s.2.1)] [] (k8 s)) : hW Z rtV M 66 [(0, .ref (h_b Z + 0)), (2, .long v2), (4, .int v4)] [] (fX10_blowsBy_L66 k8 v2 v4 M) := by
  unfold fX10_blowsBy_L66
  refine x_aload_n hz dX10_blowsBy_66 rfl 0 rfl ?_
  refine x_getr hz sm_0 fl_X10_16 rfl rm_0_2 (by decide) dX10_blowsBy_67 ?_
  refine x_iload hz dX10_blowsBy_70 2 rfl ?_
  refine x_lload_n hz dX10_blowsBy_72 rfl 1 rfl ?_
  refine x_ldc2 hz 5 dX10_blowsBy_73 kc_X10_293 ?_
  refine x_ldiv hz dX10_blowsBy_76 (by decide) ?_
  refine x_ldc2 hz 10 dX10_blowsBy_77 kc_X10_295 ?_
  refine x_lrem hz dX10_blowsBy_80 (by decide) ?_
  refine x_l2i hz dX10_blowsBy_81 ?_
  refine x_iast hz sm_3 dX10_blowsBy_82 (fun hi82 => ?_)
  refine x_iinc hz (v4 + 1) [(4, .int (v4 + 1)), (0, .ref (h_b Z + 0)), (2, .long v2)] dX10_blowsBy_83 2 rfl rfl rfl rfl ?_
  refine x_goto hz dX10_blowsBy_86 ?_
  exact x_sub [1, 2, 0] rfl (hk8 (v2, v4 + 1, h_up M 3 v4.toNatClampNeg ((h_lrem (v2 / 5) 10).toInt32)))
set_option maxRecDepth 10000 in
set_option maxHeartbeats 4000000 in
theorem wX10_blowsBy_L8 {Z : hZ} {n : Nat} (hz : hOK Z hYm cX10_blowsBy RX10 5 (n + 0) none)     : ∀ (i : Nat) (s : Int64 × Int32 × hMem), hW Z rtV s.2.2 8 [(0, .ref (h_b Z + 0)), (2, .long s.1), (4, .int s.2.1)] [] (h_lp (fX10_blowsBy_L8) i s) := by
  refine x_loop (Ms := fun s : Int64 × Int32 × hMem => s.2.2) (Ls := fun s : Int64 × Int32 × hMem => [(0, .ref (h_b Z + 0)), (2, .long s.1), (4, .int s.2.1)]) ?_
  intro k8 hk8 s
  show hW Z rtV s.2.2 8 [(0, .ref (h_b Z + 0)), (2, .long s.1), (4, .int s.2.1)] [] (fX10_blowsBy_L8 k8 s)
  unfold fX10_blowsBy_L8
  refine x_iload hz dX10_blowsBy_8 2 rfl ?_
  refine x_bipush hz 24 dX10_blowsBy_10 rfl ?_
  refine x_icmp_ge hz dX10_blowsBy_12 ?_ ?_
  · exact x_vret hz rfl dX10_blowsBy_89
  refine x_aload_n hz dX10_blowsBy_15 rfl 0 rfl ?_
  refine x_getr hz sm_0 fl_X10_79 rfl rm_0_43 (by decide) dX10_blowsBy_16 ?_
  refine x_iload hz dX10_blowsBy_19 2 rfl ?_
  refine x_aload_n hz dX10_blowsBy_21 rfl 0 rfl ?_
  refine x_getr hz sm_0 fl_X10_13 rfl rm_0_1 (by decide) dX10_blowsBy_22 ?_
  refine x_iload hz dX10_blowsBy_25 2 rfl ?_
  refine x_iald hz sm_2 dX10_blowsBy_27 (fun hi27 => ?_)
  refine x_iast hz sm_24 dX10_blowsBy_28 (fun hi28 => ?_)
  refine x_aload_n hz dX10_blowsBy_29 rfl 0 rfl ?_
  refine x_getr hz sm_0 fl_X10_82 rfl rm_0_44 (by decide) dX10_blowsBy_30 ?_
  refine x_iload hz dX10_blowsBy_33 2 rfl ?_
  refine x_aload_n hz dX10_blowsBy_35 rfl 0 rfl ?_
  refine x_getr hz sm_0 fl_X10_16 rfl rm_0_2 (by decide) dX10_blowsBy_36 ?_
  refine x_iload hz dX10_blowsBy_39 2 rfl ?_
  refine x_iald hz sm_3 dX10_blowsBy_41 (fun hi41 => ?_)
  refine x_iast hz sm_25 dX10_blowsBy_42 (fun hi42 => ?_)
  refine x_lload_n hz dX10_blowsBy_43 rfl 1 rfl ?_
  refine x_ldc2 hz 48271 dX10_blowsBy_44 kc_X10_289 ?_
  refine x_lmul hz dX10_blowsBy_47 ?_
  refine x_ldc2 hz 2147483647 dX10_blowsBy_48 kc_X10_291 ?_
  refine x_lrem hz dX10_blowsBy_51 (by decide) ?_
  refine x_lstore_n hz [(2, .long (h_lrem (s.1 * 48271) 2147483647)), (0, .ref (h_b Z + 0)), (4, .int s.2.1)] dX10_blowsBy_52 rfl rfl rfl ?_
  refine x_aload_n hz dX10_blowsBy_53 rfl 1 rfl ?_
  refine x_getr hz sm_0 fl_X10_13 rfl rm_0_1 (by decide) dX10_blowsBy_54 ?_
  refine x_iload hz dX10_blowsBy_57 2 rfl ?_
  refine x_lload_n hz dX10_blowsBy_59 rfl 0 rfl ?_
  refine x_ldc2 hz 5 dX10_blowsBy_60 kc_X10_293 ?_
  refine x_lrem hz dX10_blowsBy_63 (by decide) ?_
  refine x_l2i hz dX10_blowsBy_64 ?_
  refine x_iast hz sm_2 dX10_blowsBy_65 (fun hi65 => ?_)
  exact x_sub [1, 0, 2] rfl (wX10_blowsBy_L66 hz (h_lrem (s.1 * 48271) 2147483647) s.2.1 (h_up (h_up (h_up s.2.2 24 s.2.1.toNatClampNeg (s.2.2 2 s.2.1.toNatClampNeg)) 25 s.2.1.toNatClampNeg ((h_up s.2.2 24 s.2.1.toNatClampNeg (s.2.2 2 s.2.1.toNatClampNeg)) 3 s.2.1.toNatClampNeg)) 2 s.2.1.toNatClampNeg ((h_lrem (h_lrem (s.1 * 48271) 2147483647) 5).toInt32)) hk8)
set_option maxRecDepth 10000 in
set_option maxHeartbeats 4000000 in
theorem wX10_blowsBy {Z : hZ} {n : Nat} (hz : hOK Z hYm cX10_blowsBy RX10 5 (n + 0) none) (a1 : Int32) (M : hMem) : hW Z rtV M 0 [(0, .ref (h_b Z + 0)), (1, .int a1)] [] (fX10_blowsBy a1 M) := by
  unfold fX10_blowsBy
  refine x_iload_n hz dX10_blowsBy_0 rfl 1 rfl ?_
  refine x_i2l hz dX10_blowsBy_1 ?_
  refine x_lconst hz 1 dX10_blowsBy_2 rfl ?_
  refine x_ladd hz dX10_blowsBy_3 ?_
  refine x_lstore_n hz [(2, .long (a1.toInt64 + 1)), (0, .ref (h_b Z + 0)), (1, .int a1)] dX10_blowsBy_4 rfl rfl rfl ?_
  refine x_iconst hz 0 dX10_blowsBy_5 rfl ?_
  refine x_istore hz [(4, .int 0), (2, .long (a1.toInt64 + 1)), (0, .ref (h_b Z + 0)), (1, .int a1)] dX10_blowsBy_6 rfl rfl ?_
  exact x_sub [2, 1, 0] rfl (wX10_blowsBy_L8 hz h_FU (a1.toInt64 + 1, 0, M))
theorem kX10_blowsBy {l : Launch} {dd : hDD} {b n : Nat} (a1 : Int32) (M : hMem) (r : hMem) (h : fX10_blowsBy a1 M = some r) : hC l hYm dd b yX10_blowsBy cX10_blowsBy 5 none (n + 0) [.ref (b + 0), .int a1] M (none, r) :=
  h_met (av := fun b => [.ref (b + 0), .int a1]) (rt := rtV) (by decide) (Nat.le_of_ble_eq_true rfl) (fun Z hz => wX10_blowsBy (n := n) hz a1 M) r h
set_option maxRecDepth 10000 in
set_option maxHeartbeats 4000000 in
theorem wX10_laysGusts_L2 {Z : hZ} {n : Nat} (hz : hOK Z hYm cX10_laysGusts RX10 2 (n + 0) none)     : ∀ (i : Nat) (s : Int32 × hMem), hW Z rtV s.2 2 [(0, .ref (h_b Z + 0)), (1, .int s.1)] [] (h_lp (fX10_laysGusts_L2) i s) := by
  refine x_loop (Ms := fun s : Int32 × hMem => s.2) (Ls := fun s : Int32 × hMem => [(0, .ref (h_b Z + 0)), (1, .int s.1)]) ?_
  intro k2 hk2 s
  show hW Z rtV s.2 2 [(0, .ref (h_b Z + 0)), (1, .int s.1)] [] (fX10_laysGusts_L2 k2 s)
  unfold fX10_laysGusts_L2
  refine x_iload_n hz dX10_laysGusts_2 rfl 1 rfl ?_
  refine x_bipush hz 24 dX10_laysGusts_3 rfl ?_
  refine x_icmp_ge hz dX10_laysGusts_5 ?_ ?_
  · exact x_vret hz rfl dX10_laysGusts_38
  refine x_aload_n hz dX10_laysGusts_8 rfl 0 rfl ?_
  refine x_getr hz sm_0 fl_X10_13 rfl rm_0_1 (by decide) dX10_laysGusts_9 ?_
  refine x_iload_n hz dX10_laysGusts_12 rfl 1 rfl ?_
  refine x_aload_n hz dX10_laysGusts_13 rfl 0 rfl ?_
  refine x_getr hz sm_0 fl_X10_79 rfl rm_0_43 (by decide) dX10_laysGusts_14 ?_
  refine x_iload_n hz dX10_laysGusts_17 rfl 1 rfl ?_
  refine x_iald hz sm_24 dX10_laysGusts_18 (fun hi18 => ?_)
  refine x_iast hz sm_2 dX10_laysGusts_19 (fun hi19 => ?_)
  refine x_aload_n hz dX10_laysGusts_20 rfl 0 rfl ?_
  refine x_getr hz sm_0 fl_X10_16 rfl rm_0_2 (by decide) dX10_laysGusts_21 ?_
  refine x_iload_n hz dX10_laysGusts_24 rfl 1 rfl ?_
  refine x_aload_n hz dX10_laysGusts_25 rfl 0 rfl ?_
  refine x_getr hz sm_0 fl_X10_82 rfl rm_0_44 (by decide) dX10_laysGusts_26 ?_
  refine x_iload_n hz dX10_laysGusts_29 rfl 1 rfl ?_
  refine x_iald hz sm_25 dX10_laysGusts_30 (fun hi30 => ?_)
  refine x_iast hz sm_3 dX10_laysGusts_31 (fun hi31 => ?_)
  refine x_iinc hz (s.1 + 1) [(1, .int (s.1 + 1)), (0, .ref (h_b Z + 0))] dX10_laysGusts_32 1 rfl rfl rfl rfl ?_
  refine x_goto hz dX10_laysGusts_35 ?_
  exact x_sub [1, 0] rfl (hk2 (s.1 + 1, h_up (h_up s.2 2 s.1.toNatClampNeg (s.2 24 s.1.toNatClampNeg)) 3 s.1.toNatClampNeg ((h_up s.2 2 s.1.toNatClampNeg (s.2 24 s.1.toNatClampNeg)) 25 s.1.toNatClampNeg)))
set_option maxRecDepth 10000 in
set_option maxHeartbeats 4000000 in
theorem wX10_laysGusts {Z : hZ} {n : Nat} (hz : hOK Z hYm cX10_laysGusts RX10 2 (n + 0) none)  (M : hMem) : hW Z rtV M 0 [(0, .ref (h_b Z + 0))] [] (fX10_laysGusts M) := by
  unfold fX10_laysGusts
  refine x_iconst hz 0 dX10_laysGusts_0 rfl ?_
  refine x_istore_n hz [(1, .int 0), (0, .ref (h_b Z + 0))] dX10_laysGusts_1 rfl rfl rfl ?_
  exact x_sub [1, 0] rfl (wX10_laysGusts_L2 hz h_FU (0, M))
theorem kX10_laysGusts {l : Launch} {dd : hDD} {b n : Nat}  (M : hMem) (r : hMem) (h : fX10_laysGusts M = some r) : hC l hYm dd b yX10_laysGusts cX10_laysGusts 2 none (n + 0) [.ref (b + 0)] M (none, r) :=
  h_met (av := fun b => [.ref (b + 0)]) (rt := rtV) (by decide) (Nat.le_of_ble_eq_true rfl) (fun Z hz => wX10_laysGusts (n := n) hz  M) r h
set_option maxRecDepth 10000 in
set_option maxHeartbeats 4000000 in
theorem wX10_drawn {Z : hZ} {n : Nat} (hz : hOK Z hYm cX10_drawn RX10 5 (n + 6) (some .int)) (a1 : Int32) (a2 : Int32) (a3 : Int32) (M : hMem) : hW Z rtM M 0 [(0, .ref (h_b Z + 0)), (1, .int a1), (2, .int a2), (3, .int a3)] [] (fX10_drawn a1 a2 a3 M) := by
  unfold fX10_drawn
  refine x_aload_n hz dX10_drawn_0 rfl 0 rfl ?_
  refine x_iload_n hz dX10_drawn_1 rfl 2 rfl ?_
  refine x_callV hz mv_X10_199 sm_0 (by decide) rfl rfl (kX10_isHat (n := (n + 4)) a2 M) rfl (av := [.int a2]) (rest := []) rfl rfl (Nat.le_of_ble_eq_true rfl) dX10_drawn_2 ?_
  refine x_if_ne hz dX10_drawn_5 ?_ ?_
  · refine x_iload_n hz dX10_drawn_11 rfl 1 rfl ?_
    refine x_iconst hz 0 dX10_drawn_12 rfl ?_
    refine x_ldcw hz 99999 dX10_drawn_13 kc_X10_297 ?_
    refine x_callS hz ms_X10_93 (kX10_in (n := (n + 5)) a1 0 99999 M) rfl (av := [.int a1, .int 0, .int 99999]) (rest := []) rfl rfl (Nat.le_of_ble_eq_true rfl) dX10_drawn_16 ?_
    refine x_if_eq hz dX10_drawn_19 ?_ ?_
    · refine x_bipush hz (-7) dX10_drawn_29 rfl ?_
      exact x_iret hz rfl dX10_drawn_31
    refine x_iload_n hz dX10_drawn_22 rfl 3 rfl ?_
    refine x_callS hz ms_X10_189 (kX10_areSeconds (n := (n + 4)) a3 M) rfl (av := [.int a3]) (rest := []) rfl rfl (Nat.le_of_ble_eq_true rfl) dX10_drawn_23 ?_
    refine x_if_ne hz dX10_drawn_26 ?_ ?_
    · refine x_aload_n hz dX10_drawn_32 rfl 0 rfl ?_
      refine x_iload_n hz dX10_drawn_33 rfl 1 rfl ?_
      refine x_bind (fun q34 hq34 => ?_)
      refine x_callV hz mv_X10_298 sm_0 (by decide) rfl rfl (kX10_blowsBy (n := (n + 5)) a1 M q34 hq34) rfl (av := [.int a1]) (rest := []) rfl rfl (Nat.le_of_ble_eq_true rfl) dX10_drawn_34 ?_
      refine x_aload_n hz dX10_drawn_37 rfl 0 rfl ?_
      refine x_iload_n hz dX10_drawn_38 rfl 2 rfl ?_
      refine x_iload_n hz dX10_drawn_39 rfl 3 rfl ?_
      refine x_bind (fun q40 hq40 => ?_)
      refine x_callV hz mv_X10_239 sm_0 (by decide) rfl rfl (kX10_squareBehind (n := n) a2 a3 q34 q40 hq40) rfl (av := [.int a2, .int a3]) (rest := []) rfl rfl (Nat.le_of_ble_eq_true rfl) dX10_drawn_40 ?_
      refine x_istore hz [(4, .int q40.1), (0, .ref (h_b Z + 0)), (1, .int a1), (2, .int a2), (3, .int a3)] dX10_drawn_43 rfl rfl ?_
      refine x_aload_n hz dX10_drawn_45 rfl 1 rfl ?_
      refine x_bind (fun q46 hq46 => ?_)
      refine x_callV hz mv_X10_301 sm_0 (by decide) rfl rfl (kX10_laysGusts (n := (n + 5))  q40.2 q46 hq46) rfl (av := []) (rest := []) rfl rfl (Nat.le_of_ble_eq_true rfl) dX10_drawn_46 ?_
      refine x_iload hz dX10_drawn_49 0 rfl ?_
      exact x_iret hz rfl dX10_drawn_51
    refine x_bipush hz (-7) dX10_drawn_29 rfl ?_
    exact x_iret hz rfl dX10_drawn_31
  refine x_bipush hz (-5) dX10_drawn_8 rfl ?_
  exact x_iret hz rfl dX10_drawn_10
theorem kX10_drawn {l : Launch} {dd : hDD} {b n : Nat} (a1 : Int32) (a2 : Int32) (a3 : Int32) (M : hMem) (r : Int32 × hMem) (h : fX10_drawn a1 a2 a3 M = some r) : hC l hYm dd b yX10_drawn cX10_drawn 5 (some .int) (n + 6) [.ref (b + 0), .int a1, .int a2, .int a3] M (some (.int r.1), r.2) :=
  h_met (av := fun b => [.ref (b + 0), .int a1, .int a2, .int a3]) (rt := rtM) (by decide) (Nat.le_of_ble_eq_true rfl) (fun Z hz => wX10_drawn (n := n) hz a1 a2 a3 M) r h
set_option maxRecDepth 10000 in
set_option maxHeartbeats 4000000 in
theorem wX10_lowest_L16 {Z : hZ} {n : Nat} (hz : hOK Z hYm cX10_lowest RX10 11 (n + 0) (some .long))  (v0 : Int64) (v2 : Int64) (v4 : Int32) (M : hMem)  : ∀ (i : Nat) (s : Int64 × Int64), hW Z (rtL M) M 16 [(0, .long v0), (2, .long v2), (4, .int v4), (5, .long s.1), (7, .long s.2)] [] (h_lp (fX10_lowest_L16 v0 v2 v4 M) i s) := by
  refine x_loop (Ms := fun s : Int64 × Int64 => M) (Ls := fun s : Int64 × Int64 => [(0, .long v0), (2, .long v2), (4, .int v4), (5, .long s.1), (7, .long s.2)]) ?_
  intro k16 hk16 s
  show hW Z (rtL M) M 16 [(0, .long v0), (2, .long v2), (4, .int v4), (5, .long s.1), (7, .long s.2)] [] (fX10_lowest_L16 v0 v2 v4 M k16 s)
  unfold fX10_lowest_L16
  refine x_lload hz dX10_lowest_16 4 rfl ?_
  refine x_lconst hz 0 dX10_lowest_18 rfl ?_
  refine x_lcmp hz dX10_lowest_19 ?_
  refine x_if_eq hz dX10_lowest_20 ?_ ?_
  · refine x_iload hz dX10_lowest_41 2 rfl ?_
    refine x_if_ne hz dX10_lowest_43 ?_ ?_
    · refine x_lload_n hz dX10_lowest_50 rfl 1 rfl ?_
      refine x_lload hz dX10_lowest_51 3 rfl ?_
      refine x_case (fun hn53 => x_none) (fun hn53 => ?_)
      refine x_ldiv hz dX10_lowest_53 hn53 ?_
      exact x_lret hz rfl dX10_lowest_54
    refine x_lload_n hz dX10_lowest_46 rfl 0 rfl ?_
    refine x_goto hz dX10_lowest_47 ?_
    refine x_lload hz dX10_lowest_51 3 rfl ?_
    refine x_case (fun hn53 => x_none) (fun hn53 => ?_)
    refine x_ldiv hz dX10_lowest_53 hn53 ?_
    exact x_lret hz rfl dX10_lowest_54
  refine x_lload hz dX10_lowest_23 3 rfl ?_
  refine x_lload hz dX10_lowest_25 4 rfl ?_
  refine x_case (fun hn27 => x_none) (fun hn27 => ?_)
  refine x_lrem hz dX10_lowest_27 hn27 ?_
  refine x_lstore hz [(9, .long (h_lrem s.1 s.2)), (0, .long v0), (2, .long v2), (4, .int v4), (5, .long s.1), (7, .long s.2)] dX10_lowest_28 rfl rfl ?_
  refine x_lload hz dX10_lowest_30 5 rfl ?_
  refine x_lstore hz [(5, .long s.2), (9, .long (h_lrem s.1 s.2)), (0, .long v0), (2, .long v2), (4, .int v4), (7, .long s.2)] dX10_lowest_32 rfl rfl ?_
  refine x_lload hz dX10_lowest_34 1 rfl ?_
  refine x_lstore hz [(7, .long (h_lrem s.1 s.2)), (5, .long s.2), (9, .long (h_lrem s.1 s.2)), (0, .long v0), (2, .long v2), (4, .int v4)] dX10_lowest_36 rfl rfl ?_
  refine x_goto hz dX10_lowest_38 ?_
  exact x_sub [3, 4, 5, 1, 0] rfl (hk16 (s.2, h_lrem s.1 s.2))
set_option maxRecDepth 10000 in
set_option maxHeartbeats 4000000 in
theorem wX10_lowest {Z : hZ} {n : Nat} (hz : hOK Z hYm cX10_lowest RX10 11 (n + 0) (some .long)) (a0 : Int64) (a2 : Int64) (a4 : Int32) (M : hMem) : hW Z (rtL M) M 0 [(0, .long a0), (2, .long a2), (4, .int a4)] [] (fX10_lowest a0 a2 a4 M) := by
  unfold fX10_lowest
  refine x_lload_n hz dX10_lowest_0 rfl 0 rfl ?_
  refine x_lconst hz 0 dX10_lowest_1 rfl ?_
  refine x_lcmp hz dX10_lowest_2 ?_
  refine x_if_ne hz dX10_lowest_3 ?_ ?_
  · refine x_lload_n hz dX10_lowest_10 rfl 0 rfl ?_
    refine x_lstore hz [(5, .long a0), (0, .long a0), (2, .long a2), (4, .int a4)] dX10_lowest_11 rfl rfl ?_
    refine x_lload_n hz dX10_lowest_13 rfl 2 rfl ?_
    refine x_lstore hz [(7, .long a2), (5, .long a0), (0, .long a0), (2, .long a2), (4, .int a4)] dX10_lowest_14 rfl rfl ?_
    exact x_sub [2, 3, 4, 1, 0] rfl (wX10_lowest_L16 hz a0 a2 a4 M h_FU (a0, a2))
  refine x_iload hz dX10_lowest_6 2 rfl ?_
  refine x_i2l hz dX10_lowest_8 ?_
  exact x_lret hz rfl dX10_lowest_9
theorem kX10_lowest {l : Launch} {dd : hDD} {b n : Nat} (a0 : Int64) (a2 : Int64) (a4 : Int32) (M : hMem) (r : Int64) (h : fX10_lowest a0 a2 a4 M = some r) : hC l hYm dd b yX10_lowest cX10_lowest 11 (some .long) (n + 0) [.long a0, .long a2, .int a4] M (some (.long r), M) :=
  h_met (av := fun b => [.long a0, .long a2, .int a4]) (rt := (rtL M)) (by decide) (Nat.le_of_ble_eq_true rfl) (fun Z hz => wX10_lowest (n := n) hz a0 a2 a4 M) r h
set_option maxRecDepth 10000 in
set_option maxHeartbeats 4000000 in
theorem wX10_odds_L72 {Z : hZ} {n : Nat} (hz : hOK Z hYm cX10_odds RX10 9 (n + 7) (some .long))  (v1 : Int32) (v2 : Int32) (v3 : Int32) (v4 : Int32)   : ∀ (i : Nat) (s : Int64 × Int32 × hMem), hW Z rtLM s.2.2 72 [(0, .ref (h_b Z + 0)), (1, .int v1), (2, .int v2), (3, .int v3), (4, .int v4), (6, .long s.1), (8, .int s.2.1)] [] (h_lp (fX10_odds_L72 v1 v2 v3 v4) i s) := by
  refine x_loop (Ms := fun s : Int64 × Int32 × hMem => s.2.2) (Ls := fun s : Int64 × Int32 × hMem => [(0, .ref (h_b Z + 0)), (1, .int v1), (2, .int v2), (3, .int v3), (4, .int v4), (6, .long s.1), (8, .int s.2.1)]) ?_
  intro k72 hk72 s
  show hW Z rtLM s.2.2 72 [(0, .ref (h_b Z + 0)), (1, .int v1), (2, .int v2), (3, .int v3), (4, .int v4), (6, .long s.1), (8, .int s.2.1)] [] (fX10_odds_L72 v1 v2 v3 v4 k72 s)
  unfold fX10_odds_L72
  refine x_iload hz dX10_odds_72 6 rfl ?_
  refine x_iload_n hz dX10_odds_74 rfl 2 rfl ?_
  refine x_icmp_ge hz dX10_odds_75 ?_ ?_
  · refine x_lload hz dX10_odds_122 5 rfl ?_
    refine x_iload_n hz dX10_odds_124 rfl 2 rfl ?_
    refine x_i2l hz dX10_odds_125 ?_
    refine x_iload hz dX10_odds_126 4 rfl ?_
    refine x_bind (fun q128 hq128 => ?_)
    refine x_callS hz ms_X10_306 (kX10_lowest (n := (n + 6)) s.1 v2.toInt64 v4 s.2.2 q128 hq128) rfl (av := [.long s.1, .long v2.toInt64, .int v4]) (rest := []) rfl rfl (Nat.le_of_ble_eq_true rfl) dX10_odds_128 ?_
    exact x_lret hz rfl dX10_odds_131
  refine x_aload_n hz dX10_odds_78 rfl 0 rfl ?_
  refine x_iload_n hz dX10_odds_79 rfl 1 rfl ?_
  refine x_iload hz dX10_odds_80 6 rfl ?_
  refine x_iadd hz dX10_odds_82 ?_
  refine x_bind (fun q83 hq83 => ?_)
  refine x_callV hz mv_X10_298 sm_0 (by decide) rfl rfl (kX10_blowsBy (n := (n + 6)) (v1 + s.2.1) s.2.2 q83 hq83) rfl (av := [.int (v1 + s.2.1)]) (rest := []) rfl rfl (Nat.le_of_ble_eq_true rfl) dX10_odds_83 ?_
  refine x_lload hz dX10_odds_86 5 rfl ?_
  refine x_aload_n hz dX10_odds_88 rfl 0 rfl ?_
  refine x_iload_n hz dX10_odds_89 rfl 3 rfl ?_
  refine x_bipush hz 10 dX10_odds_90 rfl ?_
  refine x_idiv hz dX10_odds_92 (by decide) ?_
  refine x_iload_n hz dX10_odds_93 rfl 3 rfl ?_
  refine x_bipush hz 10 dX10_odds_94 rfl ?_
  refine x_irem hz dX10_odds_96 (by decide) ?_
  refine x_bind (fun q97 hq97 => ?_)
  refine x_callV hz mv_X10_258 sm_0 (by decide) rfl rfl (kX10_hadBy (n := n) (v3 / 10) (h_rem v3 10) q83 q97 hq97) rfl (av := [.int (v3 / 10), .int (h_rem v3 10)]) (rest := [.long s.1]) rfl rfl (Nat.le_of_ble_eq_true rfl) dX10_odds_97 ?_
  refine x_iconst hz (-1) dX10_odds_100 rfl ?_
  refine x_icmp_ne hz dX10_odds_101 ?_ ?_
  · refine x_lconst hz 1 dX10_odds_108 rfl ?_
    refine x_ladd hz dX10_odds_109 ?_
    refine x_lstore hz [(6, .long (s.1 + 1)), (0, .ref (h_b Z + 0)), (1, .int v1), (2, .int v2), (3, .int v3), (4, .int v4), (8, .int s.2.1)] dX10_odds_110 rfl rfl ?_
    refine x_aload_n hz dX10_odds_112 rfl 1 rfl ?_
    refine x_bind (fun q113 hq113 => ?_)
    refine x_callV hz mv_X10_301 sm_0 (by decide) rfl rfl (kX10_laysGusts (n := (n + 6))  q97.2 q113 hq113) rfl (av := []) (rest := []) rfl rfl (Nat.le_of_ble_eq_true rfl) dX10_odds_113 ?_
    refine x_iinc hz (s.2.1 + 1) [(8, .int (s.2.1 + 1)), (6, .long (s.1 + 1)), (0, .ref (h_b Z + 0)), (1, .int v1), (2, .int v2), (3, .int v3), (4, .int v4)] dX10_odds_116 6 rfl rfl rfl rfl ?_
    refine x_goto hz dX10_odds_119 ?_
    exact x_sub [2, 3, 4, 5, 6, 1, 0] rfl (hk72 (s.1 + 1, s.2.1 + 1, q113))
  refine x_lconst hz 0 dX10_odds_104 rfl ?_
  refine x_goto hz dX10_odds_105 ?_
  refine x_ladd hz dX10_odds_109 ?_
  refine x_lstore hz [(6, .long (s.1 + 0)), (0, .ref (h_b Z + 0)), (1, .int v1), (2, .int v2), (3, .int v3), (4, .int v4), (8, .int s.2.1)] dX10_odds_110 rfl rfl ?_
  refine x_aload_n hz dX10_odds_112 rfl 1 rfl ?_
  refine x_bind (fun q113 hq113 => ?_)
  refine x_callV hz mv_X10_301 sm_0 (by decide) rfl rfl (kX10_laysGusts (n := (n + 6))  q97.2 q113 hq113) rfl (av := []) (rest := []) rfl rfl (Nat.le_of_ble_eq_true rfl) dX10_odds_113 ?_
  refine x_iinc hz (s.2.1 + 1) [(8, .int (s.2.1 + 1)), (6, .long (s.1 + 0)), (0, .ref (h_b Z + 0)), (1, .int v1), (2, .int v2), (3, .int v3), (4, .int v4)] dX10_odds_116 6 rfl rfl rfl rfl ?_
  refine x_goto hz dX10_odds_119 ?_
  exact x_sub [2, 3, 4, 5, 6, 1, 0] rfl (hk72 (s.1 + 0, s.2.1 + 1, q113))
set_option maxRecDepth 10000 in
set_option maxHeartbeats 4000000 in
theorem wX10_odds_L55 {Z : hZ} {n : Nat} (hz : hOK Z hYm cX10_odds RX10 9 (n + 7) (some .long))  (v1 : Int32) (v2 : Int32) (v3 : Int32) (v4 : Int32) (t0 : Int32) (M : hMem)  : hW Z rtLM M 55 [(0, .ref (h_b Z + 0)), (1, .int v1), (2, .int v2), (3, .int v3), (4, .int v4)] [.int t0] (fX10_odds_L55 v1 v2 v3 v4 t0 M) := by
  unfold fX10_odds_L55
  refine x_istore hz [(5, .int t0), (0, .ref (h_b Z + 0)), (1, .int v1), (2, .int v2), (3, .int v3), (4, .int v4)] dX10_odds_55 rfl rfl ?_
  refine x_iload hz dX10_odds_57 0 rfl ?_
  refine x_if_ne hz dX10_odds_59 ?_ ?_
  · refine x_lconst hz 0 dX10_odds_66 rfl ?_
    refine x_lstore hz [(6, .long 0), (5, .int t0), (0, .ref (h_b Z + 0)), (1, .int v1), (2, .int v2), (3, .int v3), (4, .int v4)] dX10_odds_67 rfl rfl ?_
    refine x_iconst hz 0 dX10_odds_69 rfl ?_
    refine x_istore hz [(8, .int 0), (6, .long 0), (5, .int t0), (0, .ref (h_b Z + 0)), (1, .int v1), (2, .int v2), (3, .int v3), (4, .int v4)] dX10_odds_70 rfl rfl ?_
    exact x_sub [3, 4, 5, 6, 7, 1, 0] rfl (wX10_odds_L72 hz v1 v2 v3 v4 h_FU (0, 0, M))
  refine x_ldc2 hz (-4611686018427387904) dX10_odds_62 kc_X10_304 ?_
  exact x_lret hz rfl dX10_odds_65
set_option maxRecDepth 10000 in
set_option maxHeartbeats 4000000 in
theorem wX10_odds_L54 {Z : hZ} {n : Nat} (hz : hOK Z hYm cX10_odds RX10 9 (n + 7) (some .long))  (v1 : Int32) (v2 : Int32) (v3 : Int32) (v4 : Int32) (M : hMem)  : hW Z rtLM M 54 [(0, .ref (h_b Z + 0)), (1, .int v1), (2, .int v2), (3, .int v3), (4, .int v4)] [] (fX10_odds_L54 v1 v2 v3 v4 M) := by
  unfold fX10_odds_L54
  refine x_iconst hz 0 dX10_odds_54 rfl ?_
  exact x_sub [0, 1, 2, 3, 4] rfl (wX10_odds_L55 hz v1 v2 v3 v4 0 M)
set_option maxRecDepth 10000 in
set_option maxHeartbeats 4000000 in
theorem wX10_odds {Z : hZ} {n : Nat} (hz : hOK Z hYm cX10_odds RX10 9 (n + 7) (some .long)) (a1 : Int32) (a2 : Int32) (a3 : Int32) (a4 : Int32) (M : hMem) : hW Z rtLM M 0 [(0, .ref (h_b Z + 0)), (1, .int a1), (2, .int a2), (3, .int a3), (4, .int a4)] [] (fX10_odds a1 a2 a3 a4 M) := by
  unfold fX10_odds
  refine x_iload_n hz dX10_odds_0 rfl 1 rfl ?_
  refine x_iconst hz 0 dX10_odds_1 rfl ?_
  refine x_ldcw hz 99999 dX10_odds_2 kc_X10_297 ?_
  refine x_callS hz ms_X10_93 (kX10_in (n := (n + 6)) a1 0 99999 M) rfl (av := [.int a1, .int 0, .int 99999]) (rest := []) rfl rfl (Nat.le_of_ble_eq_true rfl) dX10_odds_5 ?_
  refine x_if_eq hz dX10_odds_8 ?_ ?_
  · exact x_sub [0, 1, 2, 3, 4] rfl (wX10_odds_L54 hz a1 a2 a3 a4 M)
  refine x_iload_n hz dX10_odds_11 rfl 2 rfl ?_
  refine x_iconst hz 1 dX10_odds_12 rfl ?_
  refine x_bipush hz 30 dX10_odds_13 rfl ?_
  refine x_callS hz ms_X10_93 (kX10_in (n := (n + 6)) a2 1 30 M) rfl (av := [.int a2, .int 1, .int 30]) (rest := []) rfl rfl (Nat.le_of_ble_eq_true rfl) dX10_odds_15 ?_
  refine x_if_eq hz dX10_odds_18 ?_ ?_
  · exact x_sub [0, 1, 2, 3, 4] rfl (wX10_odds_L54 hz a1 a2 a3 a4 M)
  refine x_iload_n hz dX10_odds_21 rfl 3 rfl ?_
  refine x_if_lt hz dX10_odds_22 ?_ ?_
  · exact x_sub [0, 1, 2, 3, 4] rfl (wX10_odds_L54 hz a1 a2 a3 a4 M)
  refine x_aload_n hz dX10_odds_25 rfl 0 rfl ?_
  refine x_iload_n hz dX10_odds_26 rfl 3 rfl ?_
  refine x_bipush hz 10 dX10_odds_27 rfl ?_
  refine x_idiv hz dX10_odds_29 (by decide) ?_
  refine x_iload_n hz dX10_odds_30 rfl 3 rfl ?_
  refine x_bipush hz 10 dX10_odds_31 rfl ?_
  refine x_irem hz dX10_odds_33 (by decide) ?_
  refine x_callV hz mv_X10_255 sm_0 (by decide) rfl rfl (kX10_areThere (n := (n + 4)) (a3 / 10) (h_rem a3 10) M) rfl (av := [.int (a3 / 10), .int (h_rem a3 10)]) (rest := []) rfl rfl (Nat.le_of_ble_eq_true rfl) dX10_odds_34 ?_
  refine x_if_eq hz dX10_odds_37 ?_ ?_
  · exact x_sub [0, 1, 2, 3, 4] rfl (wX10_odds_L54 hz a1 a2 a3 a4 M)
  refine x_iload hz dX10_odds_40 4 rfl ?_
  refine x_iconst hz 0 dX10_odds_42 rfl ?_
  refine x_iconst hz 1 dX10_odds_43 rfl ?_
  refine x_callS hz ms_X10_93 (kX10_in (n := (n + 6)) a4 0 1 M) rfl (av := [.int a4, .int 0, .int 1]) (rest := []) rfl rfl (Nat.le_of_ble_eq_true rfl) dX10_odds_44 ?_
  refine x_if_eq hz dX10_odds_47 ?_ ?_
  · exact x_sub [0, 1, 2, 3, 4] rfl (wX10_odds_L54 hz a1 a2 a3 a4 M)
  refine x_iconst hz 1 dX10_odds_50 rfl ?_
  refine x_goto hz dX10_odds_51 ?_
  exact x_sub [0, 1, 2, 3, 4] rfl (wX10_odds_L55 hz a1 a2 a3 a4 1 M)
theorem kX10_odds {l : Launch} {dd : hDD} {b n : Nat} (a1 : Int32) (a2 : Int32) (a3 : Int32) (a4 : Int32) (M : hMem) (r : Int64 × hMem) (h : fX10_odds a1 a2 a3 a4 M = some r) : hC l hYm dd b yX10_odds cX10_odds 9 (some .long) (n + 7) [.ref (b + 0), .int a1, .int a2, .int a3, .int a4] M (some (.long r.1), r.2) :=
  h_met (av := fun b => [.ref (b + 0), .int a1, .int a2, .int a3, .int a4]) (rt := rtLM) (by decide) (Nat.le_of_ble_eq_true rfl) (fun Z hz => wX10_odds (n := n) hz a1 a2 a3 a4 M) r h
set_option maxRecDepth 10000 in
set_option maxHeartbeats 4000000 in
theorem wX10_image_L172 {Z : hZ} {n : Nat} (hz : hOK Z hYm cX10_image RX10 2 (n + 0) (some .int))     : ∀ (i : Nat) (s : Int32 × hMem), hW Z rtM s.2 172 [(0, .ref (h_b Z + 0)), (1, .int s.1)] [] (h_lp (fX10_image_L172) i s) := by
  refine x_loop (Ms := fun s : Int32 × hMem => s.2) (Ls := fun s : Int32 × hMem => [(0, .ref (h_b Z + 0)), (1, .int s.1)]) ?_
  intro k172 hk172 s
  show hW Z rtM s.2 172 [(0, .ref (h_b Z + 0)), (1, .int s.1)] [] (fX10_image_L172 k172 s)
  unfold fX10_image_L172
  refine x_iload_n hz dX10_image_172 rfl 1 rfl ?_
  refine x_bipush hz 12 dX10_image_173 rfl ?_
  refine x_icmp_ge hz dX10_image_175 ?_ ?_
  · refine x_aload_n hz dX10_image_199 rfl 0 rfl ?_
    refine x_geti hz sm_0 fl_X10_105 rfl dX10_image_200 ?_
    exact x_iret hz rfl dX10_image_203
  refine x_aload_n hz dX10_image_178 rfl 0 rfl ?_
  refine x_getr hz sm_0 fl_X10_43 rfl rm_0_20 (by decide) dX10_image_179 ?_
  refine x_bipush hz 67 dX10_image_182 rfl ?_
  refine x_iload_n hz dX10_image_184 rfl 1 rfl ?_
  refine x_iadd hz dX10_image_185 ?_
  refine x_aload_n hz dX10_image_186 rfl 0 rfl ?_
  refine x_getr hz sm_0 fl_X10_31 rfl rm_0_9 (by decide) dX10_image_187 ?_
  refine x_iload_n hz dX10_image_190 rfl 1 rfl ?_
  refine x_iald hz sm_8 dX10_image_191 (fun hi191 => ?_)
  refine x_iast hz sm_12 dX10_image_192 (fun hi192 => ?_)
  refine x_iinc hz (s.1 + 1) [(1, .int (s.1 + 1)), (0, .ref (h_b Z + 0))] dX10_image_193 1 rfl rfl rfl rfl ?_
  refine x_goto hz dX10_image_196 ?_
  exact x_sub [1, 0] rfl (hk172 (s.1 + 1, h_up s.2 12 (67 + s.1).toNatClampNeg (s.2 8 s.1.toNatClampNeg)))
set_option maxRecDepth 10000 in
set_option maxHeartbeats 4000000 in
theorem wX10_image_L149 {Z : hZ} {n : Nat} (hz : hOK Z hYm cX10_image RX10 2 (n + 0) (some .int))  (v1 : Int32) (M : hMem) {k99 : (Int32 × hMem) → Option (Int32 × hMem)} (hk99 : ∀ s, hW Z rtM s.2 99 [(0, .ref (h_b Z + 0)), (1, .int s.1)] [] (k99 s)) : hW Z rtM M 149 [(0, .ref (h_b Z + 0)), (1, .int v1)] [] (fX10_image_L149 k99 v1 M) := by
  unfold fX10_image_L149
  refine x_aload_n hz dX10_image_149 rfl 0 rfl ?_
  refine x_getr hz sm_0 fl_X10_43 rfl rm_0_20 (by decide) dX10_image_150 ?_
  refine x_bipush hz 63 dX10_image_153 rfl ?_
  refine x_iload_n hz dX10_image_155 rfl 1 rfl ?_
  refine x_iadd hz dX10_image_156 ?_
  refine x_aload_n hz dX10_image_157 rfl 0 rfl ?_
  refine x_getr hz sm_0 fl_X10_28 rfl rm_0_7 (by decide) dX10_image_158 ?_
  refine x_iload_n hz dX10_image_161 rfl 1 rfl ?_
  refine x_iald hz sm_7 dX10_image_162 (fun hi162 => ?_)
  refine x_iast hz sm_12 dX10_image_163 (fun hi163 => ?_)
  refine x_iinc hz (v1 + 1) [(1, .int (v1 + 1)), (0, .ref (h_b Z + 0))] dX10_image_164 1 rfl rfl rfl rfl ?_
  refine x_goto hz dX10_image_167 ?_
  exact x_sub [1, 0] rfl (hk99 (v1 + 1, h_up M 12 (63 + v1).toNatClampNeg (M 7 v1.toNatClampNeg)))
set_option maxRecDepth 10000 in
set_option maxHeartbeats 4000000 in
theorem wX10_image_L99 {Z : hZ} {n : Nat} (hz : hOK Z hYm cX10_image RX10 2 (n + 0) (some .int))     : ∀ (i : Nat) (s : Int32 × hMem), hW Z rtM s.2 99 [(0, .ref (h_b Z + 0)), (1, .int s.1)] [] (h_lp (fX10_image_L99) i s) := by
  refine x_loop (Ms := fun s : Int32 × hMem => s.2) (Ls := fun s : Int32 × hMem => [(0, .ref (h_b Z + 0)), (1, .int s.1)]) ?_
  intro k99 hk99 s
  show hW Z rtM s.2 99 [(0, .ref (h_b Z + 0)), (1, .int s.1)] [] (fX10_image_L99 k99 s)
  unfold fX10_image_L99
  refine x_iload_n hz dX10_image_99 rfl 1 rfl ?_
  refine x_iconst hz 4 dX10_image_100 rfl ?_
  refine x_icmp_ge hz dX10_image_101 ?_ ?_
  · refine x_iconst hz 0 dX10_image_170 rfl ?_
    refine x_istore_n hz [(1, .int 0), (0, .ref (h_b Z + 0))] dX10_image_171 rfl rfl rfl ?_
    exact x_sub [1, 0] rfl (wX10_image_L172 hz h_FU (0, s.2))
  refine x_aload_n hz dX10_image_104 rfl 0 rfl ?_
  refine x_getr hz sm_0 fl_X10_43 rfl rm_0_20 (by decide) dX10_image_105 ?_
  refine x_bipush hz 51 dX10_image_108 rfl ?_
  refine x_iload_n hz dX10_image_110 rfl 1 rfl ?_
  refine x_iadd hz dX10_image_111 ?_
  refine x_aload_n hz dX10_image_112 rfl 0 rfl ?_
  refine x_getr hz sm_0 fl_X10_19 rfl rm_0_4 (by decide) dX10_image_113 ?_
  refine x_iload_n hz dX10_image_116 rfl 1 rfl ?_
  refine x_iald hz sm_4 dX10_image_117 (fun hi117 => ?_)
  refine x_iast hz sm_12 dX10_image_118 (fun hi118 => ?_)
  refine x_aload_n hz dX10_image_119 rfl 0 rfl ?_
  refine x_getr hz sm_0 fl_X10_43 rfl rm_0_20 (by decide) dX10_image_120 ?_
  refine x_bipush hz 55 dX10_image_123 rfl ?_
  refine x_iload_n hz dX10_image_125 rfl 1 rfl ?_
  refine x_iadd hz dX10_image_126 ?_
  refine x_aload_n hz dX10_image_127 rfl 0 rfl ?_
  refine x_getr hz sm_0 fl_X10_22 rfl rm_0_5 (by decide) dX10_image_128 ?_
  refine x_iload_n hz dX10_image_131 rfl 1 rfl ?_
  refine x_iald hz sm_5 dX10_image_132 (fun hi132 => ?_)
  refine x_iast hz sm_12 dX10_image_133 (fun hi133 => ?_)
  refine x_aload_n hz dX10_image_134 rfl 0 rfl ?_
  refine x_getr hz sm_0 fl_X10_43 rfl rm_0_20 (by decide) dX10_image_135 ?_
  refine x_bipush hz 59 dX10_image_138 rfl ?_
  refine x_iload_n hz dX10_image_140 rfl 1 rfl ?_
  refine x_iadd hz dX10_image_141 ?_
  refine x_aload_n hz dX10_image_142 rfl 0 rfl ?_
  refine x_getr hz sm_0 fl_X10_25 rfl rm_0_6 (by decide) dX10_image_143 ?_
  refine x_iload_n hz dX10_image_146 rfl 1 rfl ?_
  refine x_iald hz sm_6 dX10_image_147 (fun hi147 => ?_)
  refine x_iast hz sm_12 dX10_image_148 (fun hi148 => ?_)
  exact x_sub [0, 1] rfl (wX10_image_L149 hz s.1 (h_up (h_up (h_up s.2 12 (51 + s.1).toNatClampNeg (s.2 4 s.1.toNatClampNeg)) 12 (55 + s.1).toNatClampNeg ((h_up s.2 12 (51 + s.1).toNatClampNeg (s.2 4 s.1.toNatClampNeg)) 5 s.1.toNatClampNeg)) 12 (59 + s.1).toNatClampNeg ((h_up (h_up s.2 12 (51 + s.1).toNatClampNeg (s.2 4 s.1.toNatClampNeg)) 12 (55 + s.1).toNatClampNeg ((h_up s.2 12 (51 + s.1).toNatClampNeg (s.2 4 s.1.toNatClampNeg)) 5 s.1.toNatClampNeg)) 6 s.1.toNatClampNeg)) hk99)
set_option maxRecDepth 10000 in
set_option maxHeartbeats 4000000 in
theorem wX10_image_L56 {Z : hZ} {n : Nat} (hz : hOK Z hYm cX10_image RX10 2 (n + 0) (some .int))     : ∀ (i : Nat) (s : Int32 × hMem), hW Z rtM s.2 56 [(0, .ref (h_b Z + 0)), (1, .int s.1)] [] (h_lp (fX10_image_L56) i s) := by
  refine x_loop (Ms := fun s : Int32 × hMem => s.2) (Ls := fun s : Int32 × hMem => [(0, .ref (h_b Z + 0)), (1, .int s.1)]) ?_
  intro k56 hk56 s
  show hW Z rtM s.2 56 [(0, .ref (h_b Z + 0)), (1, .int s.1)] [] (fX10_image_L56 k56 s)
  unfold fX10_image_L56
  refine x_iload_n hz dX10_image_56 rfl 1 rfl ?_
  refine x_bipush hz 24 dX10_image_57 rfl ?_
  refine x_icmp_ge hz dX10_image_59 ?_ ?_
  · refine x_iconst hz 0 dX10_image_97 rfl ?_
    refine x_istore_n hz [(1, .int 0), (0, .ref (h_b Z + 0))] dX10_image_98 rfl rfl rfl ?_
    exact x_sub [1, 0] rfl (wX10_image_L99 hz h_FU (0, s.2))
  refine x_aload_n hz dX10_image_62 rfl 0 rfl ?_
  refine x_getr hz sm_0 fl_X10_43 rfl rm_0_20 (by decide) dX10_image_63 ?_
  refine x_iconst hz 3 dX10_image_66 rfl ?_
  refine x_iload_n hz dX10_image_67 rfl 1 rfl ?_
  refine x_iadd hz dX10_image_68 ?_
  refine x_aload_n hz dX10_image_69 rfl 0 rfl ?_
  refine x_getr hz sm_0 fl_X10_13 rfl rm_0_1 (by decide) dX10_image_70 ?_
  refine x_iload_n hz dX10_image_73 rfl 1 rfl ?_
  refine x_iald hz sm_2 dX10_image_74 (fun hi74 => ?_)
  refine x_iast hz sm_12 dX10_image_75 (fun hi75 => ?_)
  refine x_aload_n hz dX10_image_76 rfl 0 rfl ?_
  refine x_getr hz sm_0 fl_X10_43 rfl rm_0_20 (by decide) dX10_image_77 ?_
  refine x_bipush hz 27 dX10_image_80 rfl ?_
  refine x_iload_n hz dX10_image_82 rfl 1 rfl ?_
  refine x_iadd hz dX10_image_83 ?_
  refine x_aload_n hz dX10_image_84 rfl 0 rfl ?_
  refine x_getr hz sm_0 fl_X10_16 rfl rm_0_2 (by decide) dX10_image_85 ?_
  refine x_iload_n hz dX10_image_88 rfl 1 rfl ?_
  refine x_iald hz sm_3 dX10_image_89 (fun hi89 => ?_)
  refine x_iast hz sm_12 dX10_image_90 (fun hi90 => ?_)
  refine x_iinc hz (s.1 + 1) [(1, .int (s.1 + 1)), (0, .ref (h_b Z + 0))] dX10_image_91 1 rfl rfl rfl rfl ?_
  refine x_goto hz dX10_image_94 ?_
  exact x_sub [1, 0] rfl (hk56 (s.1 + 1, h_up (h_up s.2 12 (3 + s.1).toNatClampNeg (s.2 2 s.1.toNatClampNeg)) 12 (27 + s.1).toNatClampNeg ((h_up s.2 12 (3 + s.1).toNatClampNeg (s.2 2 s.1.toNatClampNeg)) 3 s.1.toNatClampNeg)))
set_option maxRecDepth 10000 in
set_option maxHeartbeats 4000000 in
theorem wX10_image_L31 {Z : hZ} {n : Nat} (hz : hOK Z hYm cX10_image RX10 2 (n + 0) (some .int))     : ∀ (i : Nat) (s : Int32 × hMem), hW Z rtM s.2 31 [(0, .ref (h_b Z + 0)), (1, .int s.1)] [] (h_lp (fX10_image_L31) i s) := by
  refine x_loop (Ms := fun s : Int32 × hMem => s.2) (Ls := fun s : Int32 × hMem => [(0, .ref (h_b Z + 0)), (1, .int s.1)]) ?_
  intro k31 hk31 s
  show hW Z rtM s.2 31 [(0, .ref (h_b Z + 0)), (1, .int s.1)] [] (fX10_image_L31 k31 s)
  unfold fX10_image_L31
  refine x_iload_n hz dX10_image_31 rfl 1 rfl ?_
  refine x_iconst hz 3 dX10_image_32 rfl ?_
  refine x_icmp_ge hz dX10_image_33 ?_ ?_
  · refine x_iconst hz 0 dX10_image_54 rfl ?_
    refine x_istore_n hz [(1, .int 0), (0, .ref (h_b Z + 0))] dX10_image_55 rfl rfl rfl ?_
    exact x_sub [1, 0] rfl (wX10_image_L56 hz h_FU (0, s.2))
  refine x_aload_n hz dX10_image_36 rfl 0 rfl ?_
  refine x_getr hz sm_0 fl_X10_43 rfl rm_0_20 (by decide) dX10_image_37 ?_
  refine x_iload_n hz dX10_image_40 rfl 1 rfl ?_
  refine x_aload_n hz dX10_image_41 rfl 0 rfl ?_
  refine x_getr hz sm_0 fl_X10_7 rfl rm_0_0 (by decide) dX10_image_42 ?_
  refine x_iload_n hz dX10_image_45 rfl 1 rfl ?_
  refine x_iald hz sm_1 dX10_image_46 (fun hi46 => ?_)
  refine x_iast hz sm_12 dX10_image_47 (fun hi47 => ?_)
  refine x_iinc hz (s.1 + 1) [(1, .int (s.1 + 1)), (0, .ref (h_b Z + 0))] dX10_image_48 1 rfl rfl rfl rfl ?_
  refine x_goto hz dX10_image_51 ?_
  exact x_sub [1, 0] rfl (hk31 (s.1 + 1, h_up s.2 12 s.1.toNatClampNeg (s.2 1 s.1.toNatClampNeg)))
set_option maxRecDepth 10000 in
set_option maxHeartbeats 4000000 in
theorem wX10_image_L29 {Z : hZ} {n : Nat} (hz : hOK Z hYm cX10_image RX10 2 (n + 0) (some .int))   (M : hMem)  : hW Z rtM M 29 [(0, .ref (h_b Z + 0))] [] (fX10_image_L29 M) := by
  unfold fX10_image_L29
  refine x_iconst hz 0 dX10_image_29 rfl ?_
  refine x_istore_n hz [(1, .int 0), (0, .ref (h_b Z + 0))] dX10_image_30 rfl rfl rfl ?_
  exact x_sub [1, 0] rfl (wX10_image_L31 hz h_FU (0, M))
set_option maxRecDepth 10000 in
set_option maxHeartbeats 4000000 in
theorem wX10_image {Z : hZ} {n : Nat} (hz : hOK Z hYm cX10_image RX10 2 (n + 0) (some .int))  (M : hMem) : hW Z rtM M 0 [(0, .ref (h_b Z + 0))] [] (fX10_image M) := by
  unfold fX10_image
  refine x_aload_n hz dX10_image_0 rfl 0 rfl ?_
  refine x_iconst hz 1 dX10_image_1 rfl ?_
  refine x_putz hz sm_0 fp_X10_310 rfl rfl rfl dX10_image_2 ?_
  refine x_aload_n hz dX10_image_5 rfl 0 rfl ?_
  refine x_aload_n hz dX10_image_6 rfl 0 rfl ?_
  refine x_geti hz sm_0 fl_X10_105 rfl dX10_image_7 ?_
  refine x_puti hz sm_0 fp_X10_314 rfl dX10_image_10 ?_
  refine x_aload_n hz dX10_image_13 rfl 0 rfl ?_
  refine x_aload_n hz dX10_image_14 rfl 0 rfl ?_
  refine x_geti hz sm_0 fl_X10_108 rfl dX10_image_15 ?_
  refine x_puti hz sm_0 fp_X10_317 rfl dX10_image_18 ?_
  refine x_aload_n hz dX10_image_21 rfl 0 rfl ?_
  refine x_aload_n hz dX10_image_22 rfl 0 rfl ?_
  refine x_geti hz sm_0 fl_X10_117 rfl dX10_image_23 ?_
  refine x_puti hz sm_0 fp_X10_320 rfl dX10_image_26 ?_
  exact x_sub [0] rfl (wX10_image_L29 hz (h_up (h_up (h_up (h_up M 0 16 1) 0 17 ((h_up M 0 16 1) 0 3)) 0 18 ((h_up (h_up M 0 16 1) 0 17 ((h_up M 0 16 1) 0 3)) 0 8)) 0 19 ((h_up (h_up (h_up M 0 16 1) 0 17 ((h_up M 0 16 1) 0 3)) 0 18 ((h_up (h_up M 0 16 1) 0 17 ((h_up M 0 16 1) 0 3)) 0 8)) 0 15)))
theorem kX10_image {l : Launch} {dd : hDD} {b n : Nat}  (M : hMem) (r : Int32 × hMem) (h : fX10_image M = some r) : hC l hYm dd b yX10_image cX10_image 2 (some .int) (n + 0) [.ref (b + 0)] M (some (.int r.1), r.2) :=
  h_met (av := fun b => [.ref (b + 0)]) (rt := rtM) (by decide) (Nat.le_of_ble_eq_true rfl) (fun Z hz => wX10_image (n := n) hz  M) r h
set_option maxRecDepth 10000 in
set_option maxHeartbeats 4000000 in
theorem wX10_back_L177 {Z : hZ} {n : Nat} (hz : hOK Z hYm cX10_back RX10 2 (n + 0) (some .int))     : ∀ (i : Nat) (s : Int32 × hMem), hW Z rtM s.2 177 [(0, .ref (h_b Z + 0)), (1, .int s.1)] [] (h_lp (fX10_back_L177) i s) := by
  refine x_loop (Ms := fun s : Int32 × hMem => s.2) (Ls := fun s : Int32 × hMem => [(0, .ref (h_b Z + 0)), (1, .int s.1)]) ?_
  intro k177 hk177 s
  show hW Z rtM s.2 177 [(0, .ref (h_b Z + 0)), (1, .int s.1)] [] (fX10_back_L177 k177 s)
  unfold fX10_back_L177
  refine x_iload_n hz dX10_back_177 rfl 1 rfl ?_
  refine x_bipush hz 12 dX10_back_178 rfl ?_
  refine x_icmp_ge hz dX10_back_180 ?_ ?_
  · refine x_aload_n hz dX10_back_204 rfl 0 rfl ?_
    refine x_geti hz sm_0 fl_X10_105 rfl dX10_back_205 ?_
    exact x_iret hz rfl dX10_back_208
  refine x_aload_n hz dX10_back_183 rfl 0 rfl ?_
  refine x_getr hz sm_0 fl_X10_31 rfl rm_0_9 (by decide) dX10_back_184 ?_
  refine x_iload_n hz dX10_back_187 rfl 1 rfl ?_
  refine x_aload_n hz dX10_back_188 rfl 0 rfl ?_
  refine x_getr hz sm_0 fl_X10_43 rfl rm_0_20 (by decide) dX10_back_189 ?_
  refine x_bipush hz 67 dX10_back_192 rfl ?_
  refine x_iload_n hz dX10_back_194 rfl 1 rfl ?_
  refine x_iadd hz dX10_back_195 ?_
  refine x_iald hz sm_12 dX10_back_196 (fun hi196 => ?_)
  refine x_iast hz sm_8 dX10_back_197 (fun hi197 => ?_)
  refine x_iinc hz (s.1 + 1) [(1, .int (s.1 + 1)), (0, .ref (h_b Z + 0))] dX10_back_198 1 rfl rfl rfl rfl ?_
  refine x_goto hz dX10_back_201 ?_
  exact x_sub [1, 0] rfl (hk177 (s.1 + 1, h_up s.2 8 s.1.toNatClampNeg (s.2 12 (67 + s.1).toNatClampNeg)))
set_option maxRecDepth 10000 in
set_option maxHeartbeats 4000000 in
theorem wX10_back_L154 {Z : hZ} {n : Nat} (hz : hOK Z hYm cX10_back RX10 2 (n + 0) (some .int))  (v1 : Int32) (M : hMem) {k104 : (Int32 × hMem) → Option (Int32 × hMem)} (hk104 : ∀ s, hW Z rtM s.2 104 [(0, .ref (h_b Z + 0)), (1, .int s.1)] [] (k104 s)) : hW Z rtM M 154 [(0, .ref (h_b Z + 0)), (1, .int v1)] [] (fX10_back_L154 k104 v1 M) := by
  unfold fX10_back_L154
  refine x_aload_n hz dX10_back_154 rfl 0 rfl ?_
  refine x_getr hz sm_0 fl_X10_28 rfl rm_0_7 (by decide) dX10_back_155 ?_
  refine x_iload_n hz dX10_back_158 rfl 1 rfl ?_
  refine x_aload_n hz dX10_back_159 rfl 0 rfl ?_
  refine x_getr hz sm_0 fl_X10_43 rfl rm_0_20 (by decide) dX10_back_160 ?_
  refine x_bipush hz 63 dX10_back_163 rfl ?_
  refine x_iload_n hz dX10_back_165 rfl 1 rfl ?_
  refine x_iadd hz dX10_back_166 ?_
  refine x_iald hz sm_12 dX10_back_167 (fun hi167 => ?_)
  refine x_iast hz sm_7 dX10_back_168 (fun hi168 => ?_)
  refine x_iinc hz (v1 + 1) [(1, .int (v1 + 1)), (0, .ref (h_b Z + 0))] dX10_back_169 1 rfl rfl rfl rfl ?_
  refine x_goto hz dX10_back_172 ?_
  exact x_sub [1, 0] rfl (hk104 (v1 + 1, h_up M 7 v1.toNatClampNeg (M 12 (63 + v1).toNatClampNeg)))
set_option maxRecDepth 10000 in
set_option maxHeartbeats 4000000 in
theorem wX10_back_L104 {Z : hZ} {n : Nat} (hz : hOK Z hYm cX10_back RX10 2 (n + 0) (some .int))     : ∀ (i : Nat) (s : Int32 × hMem), hW Z rtM s.2 104 [(0, .ref (h_b Z + 0)), (1, .int s.1)] [] (h_lp (fX10_back_L104) i s) := by
  refine x_loop (Ms := fun s : Int32 × hMem => s.2) (Ls := fun s : Int32 × hMem => [(0, .ref (h_b Z + 0)), (1, .int s.1)]) ?_
  intro k104 hk104 s
  show hW Z rtM s.2 104 [(0, .ref (h_b Z + 0)), (1, .int s.1)] [] (fX10_back_L104 k104 s)
  unfold fX10_back_L104
  refine x_iload_n hz dX10_back_104 rfl 1 rfl ?_
  refine x_iconst hz 4 dX10_back_105 rfl ?_
  refine x_icmp_ge hz dX10_back_106 ?_ ?_
  · refine x_iconst hz 0 dX10_back_175 rfl ?_
    refine x_istore_n hz [(1, .int 0), (0, .ref (h_b Z + 0))] dX10_back_176 rfl rfl rfl ?_
    exact x_sub [1, 0] rfl (wX10_back_L177 hz h_FU (0, s.2))
  refine x_aload_n hz dX10_back_109 rfl 0 rfl ?_
  refine x_getr hz sm_0 fl_X10_19 rfl rm_0_4 (by decide) dX10_back_110 ?_
  refine x_iload_n hz dX10_back_113 rfl 1 rfl ?_
  refine x_aload_n hz dX10_back_114 rfl 0 rfl ?_
  refine x_getr hz sm_0 fl_X10_43 rfl rm_0_20 (by decide) dX10_back_115 ?_
  refine x_bipush hz 51 dX10_back_118 rfl ?_
  refine x_iload_n hz dX10_back_120 rfl 1 rfl ?_
  refine x_iadd hz dX10_back_121 ?_
  refine x_iald hz sm_12 dX10_back_122 (fun hi122 => ?_)
  refine x_iast hz sm_4 dX10_back_123 (fun hi123 => ?_)
  refine x_aload_n hz dX10_back_124 rfl 0 rfl ?_
  refine x_getr hz sm_0 fl_X10_22 rfl rm_0_5 (by decide) dX10_back_125 ?_
  refine x_iload_n hz dX10_back_128 rfl 1 rfl ?_
  refine x_aload_n hz dX10_back_129 rfl 0 rfl ?_
  refine x_getr hz sm_0 fl_X10_43 rfl rm_0_20 (by decide) dX10_back_130 ?_
  refine x_bipush hz 55 dX10_back_133 rfl ?_
  refine x_iload_n hz dX10_back_135 rfl 1 rfl ?_
  refine x_iadd hz dX10_back_136 ?_
  refine x_iald hz sm_12 dX10_back_137 (fun hi137 => ?_)
  refine x_iast hz sm_5 dX10_back_138 (fun hi138 => ?_)
  refine x_aload_n hz dX10_back_139 rfl 0 rfl ?_
  refine x_getr hz sm_0 fl_X10_25 rfl rm_0_6 (by decide) dX10_back_140 ?_
  refine x_iload_n hz dX10_back_143 rfl 1 rfl ?_
  refine x_aload_n hz dX10_back_144 rfl 0 rfl ?_
  refine x_getr hz sm_0 fl_X10_43 rfl rm_0_20 (by decide) dX10_back_145 ?_
  refine x_bipush hz 59 dX10_back_148 rfl ?_
  refine x_iload_n hz dX10_back_150 rfl 1 rfl ?_
  refine x_iadd hz dX10_back_151 ?_
  refine x_iald hz sm_12 dX10_back_152 (fun hi152 => ?_)
  refine x_iast hz sm_6 dX10_back_153 (fun hi153 => ?_)
  exact x_sub [0, 1] rfl (wX10_back_L154 hz s.1 (h_up (h_up (h_up s.2 4 s.1.toNatClampNeg (s.2 12 (51 + s.1).toNatClampNeg)) 5 s.1.toNatClampNeg ((h_up s.2 4 s.1.toNatClampNeg (s.2 12 (51 + s.1).toNatClampNeg)) 12 (55 + s.1).toNatClampNeg)) 6 s.1.toNatClampNeg ((h_up (h_up s.2 4 s.1.toNatClampNeg (s.2 12 (51 + s.1).toNatClampNeg)) 5 s.1.toNatClampNeg ((h_up s.2 4 s.1.toNatClampNeg (s.2 12 (51 + s.1).toNatClampNeg)) 12 (55 + s.1).toNatClampNeg)) 12 (59 + s.1).toNatClampNeg)) hk104)
set_option maxRecDepth 10000 in
set_option maxHeartbeats 4000000 in
theorem wX10_back_L61 {Z : hZ} {n : Nat} (hz : hOK Z hYm cX10_back RX10 2 (n + 0) (some .int))     : ∀ (i : Nat) (s : Int32 × hMem), hW Z rtM s.2 61 [(0, .ref (h_b Z + 0)), (1, .int s.1)] [] (h_lp (fX10_back_L61) i s) := by
  refine x_loop (Ms := fun s : Int32 × hMem => s.2) (Ls := fun s : Int32 × hMem => [(0, .ref (h_b Z + 0)), (1, .int s.1)]) ?_
  intro k61 hk61 s
  show hW Z rtM s.2 61 [(0, .ref (h_b Z + 0)), (1, .int s.1)] [] (fX10_back_L61 k61 s)
  unfold fX10_back_L61
  refine x_iload_n hz dX10_back_61 rfl 1 rfl ?_
  refine x_bipush hz 24 dX10_back_62 rfl ?_
  refine x_icmp_ge hz dX10_back_64 ?_ ?_
  · refine x_iconst hz 0 dX10_back_102 rfl ?_
    refine x_istore_n hz [(1, .int 0), (0, .ref (h_b Z + 0))] dX10_back_103 rfl rfl rfl ?_
    exact x_sub [1, 0] rfl (wX10_back_L104 hz h_FU (0, s.2))
  refine x_aload_n hz dX10_back_67 rfl 0 rfl ?_
  refine x_getr hz sm_0 fl_X10_13 rfl rm_0_1 (by decide) dX10_back_68 ?_
  refine x_iload_n hz dX10_back_71 rfl 1 rfl ?_
  refine x_aload_n hz dX10_back_72 rfl 0 rfl ?_
  refine x_getr hz sm_0 fl_X10_43 rfl rm_0_20 (by decide) dX10_back_73 ?_
  refine x_iconst hz 3 dX10_back_76 rfl ?_
  refine x_iload_n hz dX10_back_77 rfl 1 rfl ?_
  refine x_iadd hz dX10_back_78 ?_
  refine x_iald hz sm_12 dX10_back_79 (fun hi79 => ?_)
  refine x_iast hz sm_2 dX10_back_80 (fun hi80 => ?_)
  refine x_aload_n hz dX10_back_81 rfl 0 rfl ?_
  refine x_getr hz sm_0 fl_X10_16 rfl rm_0_2 (by decide) dX10_back_82 ?_
  refine x_iload_n hz dX10_back_85 rfl 1 rfl ?_
  refine x_aload_n hz dX10_back_86 rfl 0 rfl ?_
  refine x_getr hz sm_0 fl_X10_43 rfl rm_0_20 (by decide) dX10_back_87 ?_
  refine x_bipush hz 27 dX10_back_90 rfl ?_
  refine x_iload_n hz dX10_back_92 rfl 1 rfl ?_
  refine x_iadd hz dX10_back_93 ?_
  refine x_iald hz sm_12 dX10_back_94 (fun hi94 => ?_)
  refine x_iast hz sm_3 dX10_back_95 (fun hi95 => ?_)
  refine x_iinc hz (s.1 + 1) [(1, .int (s.1 + 1)), (0, .ref (h_b Z + 0))] dX10_back_96 1 rfl rfl rfl rfl ?_
  refine x_goto hz dX10_back_99 ?_
  exact x_sub [1, 0] rfl (hk61 (s.1 + 1, h_up (h_up s.2 2 s.1.toNatClampNeg (s.2 12 (3 + s.1).toNatClampNeg)) 3 s.1.toNatClampNeg ((h_up s.2 2 s.1.toNatClampNeg (s.2 12 (3 + s.1).toNatClampNeg)) 12 (27 + s.1).toNatClampNeg)))
set_option maxRecDepth 10000 in
set_option maxHeartbeats 4000000 in
theorem wX10_back_L36 {Z : hZ} {n : Nat} (hz : hOK Z hYm cX10_back RX10 2 (n + 0) (some .int))     : ∀ (i : Nat) (s : Int32 × hMem), hW Z rtM s.2 36 [(0, .ref (h_b Z + 0)), (1, .int s.1)] [] (h_lp (fX10_back_L36) i s) := by
  refine x_loop (Ms := fun s : Int32 × hMem => s.2) (Ls := fun s : Int32 × hMem => [(0, .ref (h_b Z + 0)), (1, .int s.1)]) ?_
  intro k36 hk36 s
  show hW Z rtM s.2 36 [(0, .ref (h_b Z + 0)), (1, .int s.1)] [] (fX10_back_L36 k36 s)
  unfold fX10_back_L36
  refine x_iload_n hz dX10_back_36 rfl 1 rfl ?_
  refine x_iconst hz 3 dX10_back_37 rfl ?_
  refine x_icmp_ge hz dX10_back_38 ?_ ?_
  · refine x_iconst hz 0 dX10_back_59 rfl ?_
    refine x_istore_n hz [(1, .int 0), (0, .ref (h_b Z + 0))] dX10_back_60 rfl rfl rfl ?_
    exact x_sub [1, 0] rfl (wX10_back_L61 hz h_FU (0, s.2))
  refine x_aload_n hz dX10_back_41 rfl 0 rfl ?_
  refine x_getr hz sm_0 fl_X10_7 rfl rm_0_0 (by decide) dX10_back_42 ?_
  refine x_iload_n hz dX10_back_45 rfl 1 rfl ?_
  refine x_aload_n hz dX10_back_46 rfl 0 rfl ?_
  refine x_getr hz sm_0 fl_X10_43 rfl rm_0_20 (by decide) dX10_back_47 ?_
  refine x_iload_n hz dX10_back_50 rfl 1 rfl ?_
  refine x_iald hz sm_12 dX10_back_51 (fun hi51 => ?_)
  refine x_iast hz sm_1 dX10_back_52 (fun hi52 => ?_)
  refine x_iinc hz (s.1 + 1) [(1, .int (s.1 + 1)), (0, .ref (h_b Z + 0))] dX10_back_53 1 rfl rfl rfl rfl ?_
  refine x_goto hz dX10_back_56 ?_
  exact x_sub [1, 0] rfl (hk36 (s.1 + 1, h_up s.2 1 s.1.toNatClampNeg (s.2 12 s.1.toNatClampNeg)))
set_option maxRecDepth 10000 in
set_option maxHeartbeats 4000000 in
theorem wX10_back {Z : hZ} {n : Nat} (hz : hOK Z hYm cX10_back RX10 2 (n + 0) (some .int))  (M : hMem) : hW Z rtM M 0 [(0, .ref (h_b Z + 0))] [] (fX10_back M) := by
  unfold fX10_back
  refine x_aload_n hz dX10_back_0 rfl 0 rfl ?_
  refine x_geti hz sm_0 fl_X10_310 rfl dX10_back_1 ?_
  refine x_if_ne hz dX10_back_4 ?_ ?_
  · refine x_aload_n hz dX10_back_10 rfl 0 rfl ?_
    refine x_aload_n hz dX10_back_11 rfl 0 rfl ?_
    refine x_geti hz sm_0 fl_X10_314 rfl dX10_back_12 ?_
    refine x_puti hz sm_0 fp_X10_105 rfl dX10_back_15 ?_
    refine x_aload_n hz dX10_back_18 rfl 0 rfl ?_
    refine x_aload_n hz dX10_back_19 rfl 0 rfl ?_
    refine x_geti hz sm_0 fl_X10_317 rfl dX10_back_20 ?_
    refine x_puti hz sm_0 fp_X10_108 rfl dX10_back_23 ?_
    refine x_aload_n hz dX10_back_26 rfl 0 rfl ?_
    refine x_aload_n hz dX10_back_27 rfl 0 rfl ?_
    refine x_geti hz sm_0 fl_X10_320 rfl dX10_back_28 ?_
    refine x_puti hz sm_0 fp_X10_117 rfl dX10_back_31 ?_
    refine x_iconst hz 0 dX10_back_34 rfl ?_
    refine x_istore_n hz [(1, .int 0), (0, .ref (h_b Z + 0))] dX10_back_35 rfl rfl rfl ?_
    exact x_sub [1, 0] rfl (wX10_back_L36 hz h_FU (0, h_up (h_up (h_up M 0 3 (M 0 17)) 0 8 ((h_up M 0 3 (M 0 17)) 0 18)) 0 15 ((h_up (h_up M 0 3 (M 0 17)) 0 8 ((h_up M 0 3 (M 0 17)) 0 18)) 0 19)))
  refine x_bipush hz (-3) dX10_back_7 rfl ?_
  exact x_iret hz rfl dX10_back_9
theorem kX10_back {l : Launch} {dd : hDD} {b n : Nat}  (M : hMem) (r : Int32 × hMem) (h : fX10_back M = some r) : hC l hYm dd b yX10_back cX10_back 2 (some .int) (n + 0) [.ref (b + 0)] M (some (.int r.1), r.2) :=
  h_met (av := fun b => [.ref (b + 0)]) (rt := rtM) (by decide) (Nat.le_of_ble_eq_true rfl) (fun Z hz => wX10_back (n := n) hz  M) r h
set_option maxRecDepth 10000 in
set_option maxHeartbeats 4000000 in
theorem wX10_sheet_L70 {Z : hZ} {n : Nat} (hz : hOK Z hYm cX10_sheet RX10 5 (n + 1) (some .int))  (v1 : Int32)   : ∀ (i : Nat) (s : Int32 × hMem), hW Z rtM s.2 70 [(0, .ref (h_b Z + 0)), (1, .int v1), (4, .int s.1)] [] (h_lp (fX10_sheet_L70 v1) i s) := by
  refine x_loop (Ms := fun s : Int32 × hMem => s.2) (Ls := fun s : Int32 × hMem => [(0, .ref (h_b Z + 0)), (1, .int v1), (4, .int s.1)]) ?_
  intro k70 hk70 s
  show hW Z rtM s.2 70 [(0, .ref (h_b Z + 0)), (1, .int v1), (4, .int s.1)] [] (fX10_sheet_L70 v1 k70 s)
  unfold fX10_sheet_L70
  refine x_iload hz dX10_sheet_70 2 rfl ?_
  refine x_bipush hz 40 dX10_sheet_72 rfl ?_
  refine x_icmp_ge hz dX10_sheet_74 ?_ ?_
  · refine x_iconst hz 1 dX10_sheet_96 rfl ?_
    exact x_iret hz rfl dX10_sheet_97
  refine x_aload_n hz dX10_sheet_77 rfl 0 rfl ?_
  refine x_getr hz sm_0 fl_X10_52 rfl rm_0_23 (by decide) dX10_sheet_78 ?_
  refine x_bipush hz 40 dX10_sheet_81 rfl ?_
  refine x_iload_n hz dX10_sheet_83 rfl 1 rfl ?_
  refine x_imul hz dX10_sheet_84 ?_
  refine x_iload hz dX10_sheet_85 2 rfl ?_
  refine x_iadd hz dX10_sheet_87 ?_
  refine x_iconst hz 0 dX10_sheet_88 rfl ?_
  refine x_iast hz sm_15 dX10_sheet_89 (fun hi89 => ?_)
  refine x_iinc hz (s.1 + 1) [(4, .int (s.1 + 1)), (0, .ref (h_b Z + 0)), (1, .int v1)] dX10_sheet_90 2 rfl rfl rfl rfl ?_
  refine x_goto hz dX10_sheet_93 ?_
  exact x_sub [1, 2, 0] rfl (hk70 (s.1 + 1, h_up s.2 15 ((40 * v1) + s.1).toNatClampNeg 0))
set_option maxRecDepth 10000 in
set_option maxHeartbeats 4000000 in
theorem wX10_sheet_L44 {Z : hZ} {n : Nat} (hz : hOK Z hYm cX10_sheet RX10 5 (n + 1) (some .int))  (v1 : Int32) (v2 : Int32) (v3 : Int32) (M : hMem)  : hW Z rtM M 44 [(0, .ref (h_b Z + 0)), (1, .int v1), (2, .int v2), (3, .int v3)] [] (fX10_sheet_L44 v1 v2 v3 M) := by
  unfold fX10_sheet_L44
  refine x_aload_n hz dX10_sheet_44 rfl 0 rfl ?_
  refine x_getr hz sm_0 fl_X10_46 rfl rm_0_21 (by decide) dX10_sheet_45 ?_
  refine x_iload_n hz dX10_sheet_48 rfl 1 rfl ?_
  refine x_iload_n hz dX10_sheet_49 rfl 2 rfl ?_
  refine x_iast hz sm_13 dX10_sheet_50 (fun hi50 => ?_)
  refine x_aload_n hz dX10_sheet_51 rfl 0 rfl ?_
  refine x_getr hz sm_0 fl_X10_49 rfl rm_0_22 (by decide) dX10_sheet_52 ?_
  refine x_iload_n hz dX10_sheet_55 rfl 1 rfl ?_
  refine x_iload_n hz dX10_sheet_56 rfl 2 rfl ?_
  refine x_iconst hz (-1) dX10_sheet_57 rfl ?_
  refine x_icmp_ne hz dX10_sheet_58 ?_ ?_
  · refine x_iload_n hz dX10_sheet_65 rfl 3 rfl ?_
    refine x_iast hz sm_14 dX10_sheet_66 (fun hi66 => ?_)
    refine x_iconst hz 0 dX10_sheet_67 rfl ?_
    refine x_istore hz [(4, .int 0), (0, .ref (h_b Z + 0)), (1, .int v1), (2, .int v2), (3, .int v3)] dX10_sheet_68 rfl rfl ?_
    exact x_sub [1, 2, 0] rfl (wX10_sheet_L70 hz v1 h_FU (0, h_up (h_up M 13 v1.toNatClampNeg v2) 14 v1.toNatClampNeg v3))
  refine x_iconst hz 0 dX10_sheet_61 rfl ?_
  refine x_goto hz dX10_sheet_62 ?_
  refine x_iast hz sm_14 dX10_sheet_66 (fun hi66 => ?_)
  refine x_iconst hz 0 dX10_sheet_67 rfl ?_
  refine x_istore hz [(4, .int 0), (0, .ref (h_b Z + 0)), (1, .int v1), (2, .int v2), (3, .int v3)] dX10_sheet_68 rfl rfl ?_
  exact x_sub [1, 2, 0] rfl (wX10_sheet_L70 hz v1 h_FU (0, h_up (h_up M 13 v1.toNatClampNeg v2) 14 v1.toNatClampNeg 0))
set_option maxRecDepth 10000 in
set_option maxHeartbeats 4000000 in
theorem wX10_sheet_L32 {Z : hZ} {n : Nat} (hz : hOK Z hYm cX10_sheet RX10 5 (n + 1) (some .int))  (v1 : Int32) (v2 : Int32) (v3 : Int32) (M : hMem)  : hW Z rtM M 32 [(0, .ref (h_b Z + 0)), (1, .int v1), (2, .int v2), (3, .int v3)] [] (fX10_sheet_L32 v1 v2 v3 M) := by
  unfold fX10_sheet_L32
  refine x_iload_n hz dX10_sheet_32 rfl 2 rfl ?_
  refine x_iconst hz (-1) dX10_sheet_33 rfl ?_
  refine x_icmp_eq hz dX10_sheet_34 ?_ ?_
  · exact x_sub [0, 1, 2, 3] rfl (wX10_sheet_L44 hz v1 v2 v3 M)
  refine x_iload_n hz dX10_sheet_37 rfl 3 rfl ?_
  refine x_if_ge hz dX10_sheet_38 ?_ ?_
  · exact x_sub [0, 1, 2, 3] rfl (wX10_sheet_L44 hz v1 v2 v3 M)
  refine x_bipush hz (-14) dX10_sheet_41 rfl ?_
  exact x_iret hz rfl dX10_sheet_43
set_option maxRecDepth 10000 in
set_option maxHeartbeats 4000000 in
theorem wX10_sheet {Z : hZ} {n : Nat} (hz : hOK Z hYm cX10_sheet RX10 5 (n + 1) (some .int)) (a1 : Int32) (a2 : Int32) (a3 : Int32) (M : hMem) : hW Z rtM M 0 [(0, .ref (h_b Z + 0)), (1, .int a1), (2, .int a2), (3, .int a3)] [] (fX10_sheet a1 a2 a3 M) := by
  unfold fX10_sheet
  refine x_iload_n hz dX10_sheet_0 rfl 1 rfl ?_
  refine x_iconst hz 0 dX10_sheet_1 rfl ?_
  refine x_iconst hz 3 dX10_sheet_2 rfl ?_
  refine x_callS hz ms_X10_93 (kX10_in (n := n) a1 0 3 M) rfl (av := [.int a1, .int 0, .int 3]) (rest := []) rfl rfl (Nat.le_of_ble_eq_true rfl) dX10_sheet_3 ?_
  refine x_if_eq hz dX10_sheet_6 ?_ ?_
  · refine x_bipush hz (-2) dX10_sheet_29 rfl ?_
    exact x_iret hz rfl dX10_sheet_31
  refine x_iload_n hz dX10_sheet_9 rfl 2 rfl ?_
  refine x_iconst hz (-1) dX10_sheet_10 rfl ?_
  refine x_iconst hz 2 dX10_sheet_11 rfl ?_
  refine x_callS hz ms_X10_93 (kX10_in (n := n) a2 (-1) 2 M) rfl (av := [.int a2, .int (-1), .int 2]) (rest := []) rfl rfl (Nat.le_of_ble_eq_true rfl) dX10_sheet_12 ?_
  refine x_if_eq hz dX10_sheet_15 ?_ ?_
  · refine x_bipush hz (-2) dX10_sheet_29 rfl ?_
    exact x_iret hz rfl dX10_sheet_31
  refine x_iload_n hz dX10_sheet_18 rfl 2 rfl ?_
  refine x_iconst hz (-1) dX10_sheet_19 rfl ?_
  refine x_icmp_eq hz dX10_sheet_20 ?_ ?_
  · exact x_sub [0, 1, 2, 3] rfl (wX10_sheet_L32 hz a1 a2 a3 M)
  refine x_iload_n hz dX10_sheet_23 rfl 3 rfl ?_
  refine x_bipush hz 40 dX10_sheet_24 rfl ?_
  refine x_icmp_le hz dX10_sheet_26 ?_ ?_
  · exact x_sub [0, 1, 2, 3] rfl (wX10_sheet_L32 hz a1 a2 a3 M)
  refine x_bipush hz (-2) dX10_sheet_29 rfl ?_
  exact x_iret hz rfl dX10_sheet_31
theorem kX10_sheet {l : Launch} {dd : hDD} {b n : Nat} (a1 : Int32) (a2 : Int32) (a3 : Int32) (M : hMem) (r : Int32 × hMem) (h : fX10_sheet a1 a2 a3 M = some r) : hC l hYm dd b yX10_sheet cX10_sheet 5 (some .int) (n + 1) [.ref (b + 0), .int a1, .int a2, .int a3] M (some (.int r.1), r.2) :=
  h_met (av := fun b => [.ref (b + 0), .int a1, .int a2, .int a3]) (rt := rtM) (by decide) (Nat.le_of_ble_eq_true rfl) (fun Z hz => wX10_sheet (n := n) hz a1 a2 a3 M) r h
set_option maxRecDepth 10000 in
set_option maxHeartbeats 4000000 in
theorem wX10_cell {Z : hZ} {n : Nat} (hz : hOK Z hYm cX10_cell RX10 4 (n + 1) (some .int)) (a1 : Int32) (a2 : Int32) (a3 : Int32) (M : hMem) : hW Z rtM M 0 [(0, .ref (h_b Z + 0)), (1, .int a1), (2, .int a2), (3, .int a3)] [] (fX10_cell a1 a2 a3 M) := by
  unfold fX10_cell
  refine x_iload_n hz dX10_cell_0 rfl 1 rfl ?_
  refine x_iconst hz 0 dX10_cell_1 rfl ?_
  refine x_iconst hz 3 dX10_cell_2 rfl ?_
  refine x_callS hz ms_X10_93 (kX10_in (n := n) a1 0 3 M) rfl (av := [.int a1, .int 0, .int 3]) (rest := []) rfl rfl (Nat.le_of_ble_eq_true rfl) dX10_cell_3 ?_
  refine x_if_ne hz dX10_cell_6 ?_ ?_
  · refine x_aload_n hz dX10_cell_12 rfl 0 rfl ?_
    refine x_getr hz sm_0 fl_X10_46 rfl rm_0_21 (by decide) dX10_cell_13 ?_
    refine x_iload_n hz dX10_cell_16 rfl 1 rfl ?_
    refine x_iald hz sm_13 dX10_cell_17 (fun hi17 => ?_)
    refine x_iconst hz (-1) dX10_cell_18 rfl ?_
    refine x_icmp_ne hz dX10_cell_19 ?_ ?_
    · refine x_iload_n hz dX10_cell_25 rfl 2 rfl ?_
      refine x_iconst hz 0 dX10_cell_26 rfl ?_
      refine x_aload_n hz dX10_cell_27 rfl 0 rfl ?_
      refine x_getr hz sm_0 fl_X10_49 rfl rm_0_22 (by decide) dX10_cell_28 ?_
      refine x_iload_n hz dX10_cell_31 rfl 1 rfl ?_
      refine x_iald hz sm_14 dX10_cell_32 (fun hi32 => ?_)
      refine x_iconst hz 1 dX10_cell_33 rfl ?_
      refine x_isub hz dX10_cell_34 ?_
      refine x_callS hz ms_X10_93 (kX10_in (n := n) a2 0 ((M 14 a1.toNatClampNeg) - 1) M) rfl (av := [.int a2, .int 0, .int ((M 14 a1.toNatClampNeg) - 1)]) (rest := []) rfl rfl (Nat.le_of_ble_eq_true rfl) dX10_cell_35 ?_
      refine x_if_ne hz dX10_cell_38 ?_ ?_
      · refine x_aload_n hz dX10_cell_44 rfl 0 rfl ?_
        refine x_getr hz sm_0 fl_X10_52 rfl rm_0_23 (by decide) dX10_cell_45 ?_
        refine x_bipush hz 40 dX10_cell_48 rfl ?_
        refine x_iload_n hz dX10_cell_50 rfl 1 rfl ?_
        refine x_imul hz dX10_cell_51 ?_
        refine x_iload_n hz dX10_cell_52 rfl 2 rfl ?_
        refine x_iadd hz dX10_cell_53 ?_
        refine x_aload_n hz dX10_cell_54 rfl 0 rfl ?_
        refine x_getr hz sm_0 fl_X10_46 rfl rm_0_21 (by decide) dX10_cell_55 ?_
        refine x_iload_n hz dX10_cell_58 rfl 1 rfl ?_
        refine x_iald hz sm_13 dX10_cell_59 (fun hi59 => ?_)
        refine x_if_ne hz dX10_cell_60 ?_ ?_
        · refine x_aload_n hz dX10_cell_68 rfl 0 rfl ?_
          refine x_getr hz sm_0 fl_X10_46 rfl rm_0_21 (by decide) dX10_cell_69 ?_
          refine x_iload_n hz dX10_cell_72 rfl 1 rfl ?_
          refine x_iald hz sm_13 dX10_cell_73 (fun hi73 => ?_)
          refine x_iconst hz 1 dX10_cell_74 rfl ?_
          refine x_icmp_ne hz dX10_cell_75 ?_ ?_
          · refine x_iload_n hz dX10_cell_83 rfl 3 rfl ?_
            refine x_iast hz sm_15 dX10_cell_84 (fun hi84 => ?_)
            refine x_iconst hz 1 dX10_cell_85 rfl ?_
            exact x_iret hz rfl dX10_cell_86
          refine x_iload_n hz dX10_cell_78 rfl 3 rfl ?_
          refine x_i2s hz dX10_cell_79 ?_
          refine x_goto hz dX10_cell_80 ?_
          refine x_iast hz sm_15 dX10_cell_84 (fun hi84 => ?_)
          refine x_iconst hz 1 dX10_cell_85 rfl ?_
          exact x_iret hz rfl dX10_cell_86
        refine x_iload_n hz dX10_cell_63 rfl 3 rfl ?_
        refine x_i2b hz dX10_cell_64 ?_
        refine x_goto hz dX10_cell_65 ?_
        refine x_iast hz sm_15 dX10_cell_84 (fun hi84 => ?_)
        refine x_iconst hz 1 dX10_cell_85 rfl ?_
        exact x_iret hz rfl dX10_cell_86
      refine x_bipush hz (-12) dX10_cell_41 rfl ?_
      exact x_iret hz rfl dX10_cell_43
    refine x_bipush hz (-11) dX10_cell_22 rfl ?_
    exact x_iret hz rfl dX10_cell_24
  refine x_bipush hz (-2) dX10_cell_9 rfl ?_
  exact x_iret hz rfl dX10_cell_11
theorem kX10_cell {l : Launch} {dd : hDD} {b n : Nat} (a1 : Int32) (a2 : Int32) (a3 : Int32) (M : hMem) (r : Int32 × hMem) (h : fX10_cell a1 a2 a3 M = some r) : hC l hYm dd b yX10_cell cX10_cell 4 (some .int) (n + 1) [.ref (b + 0), .int a1, .int a2, .int a3] M (some (.int r.1), r.2) :=
  h_met (av := fun b => [.ref (b + 0), .int a1, .int a2, .int a3]) (rt := rtM) (by decide) (Nat.le_of_ble_eq_true rfl) (fun Z hz => wX10_cell (n := n) hz a1 a2 a3 M) r h
set_option maxRecDepth 10000 in
set_option maxHeartbeats 4000000 in
theorem wX10_copy_L173 {Z : hZ} {n : Nat} (hz : hOK Z hYm cX10_copy RX10 10 (n + 1) (some .int))  (v5 : Int32) (v6 : Int32) (v7 : Int32) (v8 : Int32) (t0 : Int32) (M : hMem) {k147 : (Int32 × hMem) → Option (Int32 × hMem)} (hk147 : ∀ s, hW Z rtM s.2 147 [(0, .ref (h_b Z + 0)), (5, .int v5), (6, .int v6), (7, .int v7), (8, .int s.1)] [] (k147 s)) : hW Z rtM M 173 [(0, .ref (h_b Z + 0)), (5, .int v5), (6, .int v6), (7, .int v7), (8, .int v8)] [.int t0] (fX10_copy_L173 k147 v5 v6 v7 v8 t0 M) := by
  unfold fX10_copy_L173
  refine x_istore hz [(9, .int t0), (0, .ref (h_b Z + 0)), (5, .int v5), (6, .int v6), (7, .int v7), (8, .int v8)] dX10_copy_173 rfl rfl ?_
  refine x_aload_n hz dX10_copy_175 rfl 1 rfl ?_
  refine x_getr hz sm_0 fl_X10_52 rfl rm_0_23 (by decide) dX10_copy_176 ?_
  refine x_iload hz dX10_copy_179 4 rfl ?_
  refine x_iload hz dX10_copy_181 0 rfl ?_
  refine x_iadd hz dX10_copy_183 ?_
  refine x_aload_n hz dX10_copy_184 rfl 1 rfl ?_
  refine x_getr hz sm_0 fl_X10_52 rfl rm_0_23 (by decide) dX10_copy_185 ?_
  refine x_iload hz dX10_copy_188 3 rfl ?_
  refine x_iload hz dX10_copy_190 0 rfl ?_
  refine x_iadd hz dX10_copy_192 ?_
  refine x_iald hz sm_15 dX10_copy_193 (fun hi193 => ?_)
  refine x_iast hz sm_15 dX10_copy_194 (fun hi194 => ?_)
  refine x_iinc hz (v8 + 1) [(8, .int (v8 + 1)), (9, .int t0), (0, .ref (h_b Z + 0)), (5, .int v5), (6, .int v6), (7, .int v7)] dX10_copy_195 5 rfl rfl rfl rfl ?_
  refine x_goto hz dX10_copy_198 ?_
  exact x_sub [2, 3, 4, 5, 0] rfl (hk147 (v8 + 1, h_up M 15 (v7 + t0).toNatClampNeg (M 15 (v6 + t0).toNatClampNeg)))
set_option maxRecDepth 10000 in
set_option maxHeartbeats 4000000 in
theorem wX10_copy_L147 {Z : hZ} {n : Nat} (hz : hOK Z hYm cX10_copy RX10 10 (n + 1) (some .int))  (v5 : Int32) (v6 : Int32) (v7 : Int32)   : ∀ (i : Nat) (s : Int32 × hMem), hW Z rtM s.2 147 [(0, .ref (h_b Z + 0)), (5, .int v5), (6, .int v6), (7, .int v7), (8, .int s.1)] [] (h_lp (fX10_copy_L147 v5 v6 v7) i s) := by
  refine x_loop (Ms := fun s : Int32 × hMem => s.2) (Ls := fun s : Int32 × hMem => [(0, .ref (h_b Z + 0)), (5, .int v5), (6, .int v6), (7, .int v7), (8, .int s.1)]) ?_
  intro k147 hk147 s
  show hW Z rtM s.2 147 [(0, .ref (h_b Z + 0)), (5, .int v5), (6, .int v6), (7, .int v7), (8, .int s.1)] [] (fX10_copy_L147 v5 v6 v7 k147 s)
  unfold fX10_copy_L147
  refine x_iload hz dX10_copy_147 4 rfl ?_
  refine x_iload hz dX10_copy_149 1 rfl ?_
  refine x_icmp_ge hz dX10_copy_151 ?_ ?_
  · refine x_iload hz dX10_copy_201 1 rfl ?_
    exact x_iret hz rfl dX10_copy_203
  refine x_iload hz dX10_copy_154 2 rfl ?_
  refine x_iload hz dX10_copy_156 3 rfl ?_
  refine x_icmp_ge hz dX10_copy_158 ?_ ?_
  · refine x_iload hz dX10_copy_171 4 rfl ?_
    exact x_sub [0, 1, 2, 3, 4] rfl (wX10_copy_L173 hz v5 v6 v7 s.1 s.1 s.2 hk147)
  refine x_iload hz dX10_copy_161 1 rfl ?_
  refine x_iconst hz 1 dX10_copy_163 rfl ?_
  refine x_isub hz dX10_copy_164 ?_
  refine x_iload hz dX10_copy_165 4 rfl ?_
  refine x_isub hz dX10_copy_167 ?_
  refine x_goto hz dX10_copy_168 ?_
  exact x_sub [0, 1, 2, 3, 4] rfl (wX10_copy_L173 hz v5 v6 v7 s.1 ((v5 - 1) - s.1) s.2 hk147)
set_option maxRecDepth 10000 in
set_option maxHeartbeats 4000000 in
theorem wX10_copy {Z : hZ} {n : Nat} (hz : hOK Z hYm cX10_copy RX10 10 (n + 1) (some .int)) (a1 : Int32) (a2 : Int32) (a3 : Int32) (a4 : Int32) (a5 : Int32) (M : hMem) : hW Z rtM M 0 [(0, .ref (h_b Z + 0)), (1, .int a1), (2, .int a2), (3, .int a3), (4, .int a4), (5, .int a5)] [] (fX10_copy a1 a2 a3 a4 a5 M) := by
  unfold fX10_copy
  refine x_iload_n hz dX10_copy_0 rfl 1 rfl ?_
  refine x_iconst hz 0 dX10_copy_1 rfl ?_
  refine x_iconst hz 3 dX10_copy_2 rfl ?_
  refine x_callS hz ms_X10_93 (kX10_in (n := n) a1 0 3 M) rfl (av := [.int a1, .int 0, .int 3]) (rest := []) rfl rfl (Nat.le_of_ble_eq_true rfl) dX10_copy_3 ?_
  refine x_if_eq hz dX10_copy_6 ?_ ?_
  · refine x_bipush hz (-2) dX10_copy_18 rfl ?_
    exact x_iret hz rfl dX10_copy_20
  refine x_iload_n hz dX10_copy_9 rfl 3 rfl ?_
  refine x_iconst hz 0 dX10_copy_10 rfl ?_
  refine x_iconst hz 3 dX10_copy_11 rfl ?_
  refine x_callS hz ms_X10_93 (kX10_in (n := n) a3 0 3 M) rfl (av := [.int a3, .int 0, .int 3]) (rest := []) rfl rfl (Nat.le_of_ble_eq_true rfl) dX10_copy_12 ?_
  refine x_if_ne hz dX10_copy_15 ?_ ?_
  · refine x_aload_n hz dX10_copy_21 rfl 0 rfl ?_
    refine x_getr hz sm_0 fl_X10_46 rfl rm_0_21 (by decide) dX10_copy_22 ?_
    refine x_iload_n hz dX10_copy_25 rfl 1 rfl ?_
    refine x_iald hz sm_13 dX10_copy_26 (fun hi26 => ?_)
    refine x_iconst hz (-1) dX10_copy_27 rfl ?_
    refine x_icmp_eq hz dX10_copy_28 ?_ ?_
    · refine x_bipush hz (-11) dX10_copy_41 rfl ?_
      exact x_iret hz rfl dX10_copy_43
    refine x_aload_n hz dX10_copy_31 rfl 0 rfl ?_
    refine x_getr hz sm_0 fl_X10_46 rfl rm_0_21 (by decide) dX10_copy_32 ?_
    refine x_iload_n hz dX10_copy_35 rfl 3 rfl ?_
    refine x_iald hz sm_13 dX10_copy_36 (fun hi36 => ?_)
    refine x_iconst hz (-1) dX10_copy_37 rfl ?_
    refine x_icmp_ne hz dX10_copy_38 ?_ ?_
    · refine x_aload_n hz dX10_copy_44 rfl 0 rfl ?_
      refine x_getr hz sm_0 fl_X10_46 rfl rm_0_21 (by decide) dX10_copy_45 ?_
      refine x_iload_n hz dX10_copy_48 rfl 1 rfl ?_
      refine x_iald hz sm_13 dX10_copy_49 (fun hi49 => ?_)
      refine x_aload_n hz dX10_copy_50 rfl 0 rfl ?_
      refine x_getr hz sm_0 fl_X10_46 rfl rm_0_21 (by decide) dX10_copy_51 ?_
      refine x_iload_n hz dX10_copy_54 rfl 3 rfl ?_
      refine x_iald hz sm_13 dX10_copy_55 (fun hi55 => ?_)
      refine x_icmp_eq hz dX10_copy_56 ?_ ?_
      · refine x_iload hz dX10_copy_62 5 rfl ?_
        refine x_if_lt hz dX10_copy_64 ?_ ?_
        · refine x_bipush hz (-12) dX10_copy_124 rfl ?_
          exact x_iret hz rfl dX10_copy_126
        refine x_iload_n hz dX10_copy_67 rfl 2 rfl ?_
        refine x_if_lt hz dX10_copy_68 ?_ ?_
        · refine x_bipush hz (-12) dX10_copy_124 rfl ?_
          exact x_iret hz rfl dX10_copy_126
        refine x_iload hz dX10_copy_71 4 rfl ?_
        refine x_if_lt hz dX10_copy_73 ?_ ?_
        · refine x_bipush hz (-12) dX10_copy_124 rfl ?_
          exact x_iret hz rfl dX10_copy_126
        refine x_iload_n hz dX10_copy_76 rfl 2 rfl ?_
        refine x_aload_n hz dX10_copy_77 rfl 0 rfl ?_
        refine x_getr hz sm_0 fl_X10_49 rfl rm_0_22 (by decide) dX10_copy_78 ?_
        refine x_iload_n hz dX10_copy_81 rfl 1 rfl ?_
        refine x_iald hz sm_14 dX10_copy_82 (fun hi82 => ?_)
        refine x_icmp_gt hz dX10_copy_83 ?_ ?_
        · refine x_bipush hz (-12) dX10_copy_124 rfl ?_
          exact x_iret hz rfl dX10_copy_126
        refine x_iload hz dX10_copy_86 4 rfl ?_
        refine x_aload_n hz dX10_copy_88 rfl 0 rfl ?_
        refine x_getr hz sm_0 fl_X10_49 rfl rm_0_22 (by decide) dX10_copy_89 ?_
        refine x_iload_n hz dX10_copy_92 rfl 3 rfl ?_
        refine x_iald hz sm_14 dX10_copy_93 (fun hi93 => ?_)
        refine x_icmp_gt hz dX10_copy_94 ?_ ?_
        · refine x_bipush hz (-12) dX10_copy_124 rfl ?_
          exact x_iret hz rfl dX10_copy_126
        refine x_iload hz dX10_copy_97 5 rfl ?_
        refine x_aload_n hz dX10_copy_99 rfl 0 rfl ?_
        refine x_getr hz sm_0 fl_X10_49 rfl rm_0_22 (by decide) dX10_copy_100 ?_
        refine x_iload_n hz dX10_copy_103 rfl 1 rfl ?_
        refine x_iald hz sm_14 dX10_copy_104 (fun hi104 => ?_)
        refine x_iload_n hz dX10_copy_105 rfl 2 rfl ?_
        refine x_isub hz dX10_copy_106 ?_
        refine x_icmp_gt hz dX10_copy_107 ?_ ?_
        · refine x_bipush hz (-12) dX10_copy_124 rfl ?_
          exact x_iret hz rfl dX10_copy_126
        refine x_iload hz dX10_copy_110 5 rfl ?_
        refine x_aload_n hz dX10_copy_112 rfl 0 rfl ?_
        refine x_getr hz sm_0 fl_X10_49 rfl rm_0_22 (by decide) dX10_copy_113 ?_
        refine x_iload_n hz dX10_copy_116 rfl 3 rfl ?_
        refine x_iald hz sm_14 dX10_copy_117 (fun hi117 => ?_)
        refine x_iload hz dX10_copy_118 4 rfl ?_
        refine x_isub hz dX10_copy_120 ?_
        refine x_icmp_le hz dX10_copy_121 ?_ ?_
        · refine x_bipush hz 40 dX10_copy_127 rfl ?_
          refine x_iload_n hz dX10_copy_129 rfl 1 rfl ?_
          refine x_imul hz dX10_copy_130 ?_
          refine x_iload_n hz dX10_copy_131 rfl 2 rfl ?_
          refine x_iadd hz dX10_copy_132 ?_
          refine x_istore hz [(6, .int ((40 * a1) + a2)), (0, .ref (h_b Z + 0)), (1, .int a1), (2, .int a2), (3, .int a3), (4, .int a4), (5, .int a5)] dX10_copy_133 rfl rfl ?_
          refine x_bipush hz 40 dX10_copy_135 rfl ?_
          refine x_iload_n hz dX10_copy_137 rfl 4 rfl ?_
          refine x_imul hz dX10_copy_138 ?_
          refine x_iload hz dX10_copy_139 5 rfl ?_
          refine x_iadd hz dX10_copy_141 ?_
          refine x_istore hz [(7, .int ((40 * a3) + a4)), (6, .int ((40 * a1) + a2)), (0, .ref (h_b Z + 0)), (1, .int a1), (2, .int a2), (3, .int a3), (4, .int a4), (5, .int a5)] dX10_copy_142 rfl rfl ?_
          refine x_iconst hz 0 dX10_copy_144 rfl ?_
          refine x_istore hz [(8, .int 0), (7, .int ((40 * a3) + a4)), (6, .int ((40 * a1) + a2)), (0, .ref (h_b Z + 0)), (1, .int a1), (2, .int a2), (3, .int a3), (4, .int a4), (5, .int a5)] dX10_copy_145 rfl rfl ?_
          exact x_sub [3, 8, 2, 1, 0] rfl (wX10_copy_L147 hz a5 ((40 * a1) + a2) ((40 * a3) + a4) h_FU (0, M))
        refine x_bipush hz (-12) dX10_copy_124 rfl ?_
        exact x_iret hz rfl dX10_copy_126
      refine x_bipush hz (-13) dX10_copy_59 rfl ?_
      exact x_iret hz rfl dX10_copy_61
    refine x_bipush hz (-11) dX10_copy_41 rfl ?_
    exact x_iret hz rfl dX10_copy_43
  refine x_bipush hz (-2) dX10_copy_18 rfl ?_
  exact x_iret hz rfl dX10_copy_20
theorem kX10_copy {l : Launch} {dd : hDD} {b n : Nat} (a1 : Int32) (a2 : Int32) (a3 : Int32) (a4 : Int32) (a5 : Int32) (M : hMem) (r : Int32 × hMem) (h : fX10_copy a1 a2 a3 a4 a5 M = some r) : hC l hYm dd b yX10_copy cX10_copy 10 (some .int) (n + 1) [.ref (b + 0), .int a1, .int a2, .int a3, .int a4, .int a5] M (some (.int r.1), r.2) :=
  h_met (av := fun b => [.ref (b + 0), .int a1, .int a2, .int a3, .int a4, .int a5]) (rt := rtM) (by decide) (Nat.le_of_ble_eq_true rfl) (fun Z hz => wX10_copy (n := n) hz a1 a2 a3 a4 a5 M) r h
set_option maxRecDepth 10000 in
set_option maxHeartbeats 4000000 in
theorem wX10_gustsBy_L64 {Z : hZ} {n : Nat} (hz : hOK Z hYm cX10_gustsBy RX10 9 (n + 2) (some .int))  (v1 : Int32) (v3 : Int32) (v4 : Int32)   : ∀ (i : Nat) (s : Int32 × Int32 × hMem), hW Z rtM s.2.2 64 [(0, .ref (h_b Z + 0)), (1, .int v1), (3, .int v3), (4, .int v4), (5, .int s.1), (6, .int s.2.1)] [] (h_lp (fX10_gustsBy_L64 v1 v3 v4) i s) := by
  refine x_loop (Ms := fun s : Int32 × Int32 × hMem => s.2.2) (Ls := fun s : Int32 × Int32 × hMem => [(0, .ref (h_b Z + 0)), (1, .int v1), (3, .int v3), (4, .int v4), (5, .int s.1), (6, .int s.2.1)]) ?_
  intro k64 hk64 s
  show hW Z rtM s.2.2 64 [(0, .ref (h_b Z + 0)), (1, .int v1), (3, .int v3), (4, .int v4), (5, .int s.1), (6, .int s.2.1)] [] (fX10_gustsBy_L64 v1 v3 v4 k64 s)
  unfold fX10_gustsBy_L64
  refine x_iload hz dX10_gustsBy_64 5 rfl ?_
  refine x_iload hz dX10_gustsBy_66 3 rfl ?_
  refine x_icmp_ge hz dX10_gustsBy_68 ?_ ?_
  · refine x_iload hz dX10_gustsBy_162 4 rfl ?_
    exact x_iret hz rfl dX10_gustsBy_164
  refine x_iload_n hz dX10_gustsBy_71 rfl 2 rfl ?_
  refine x_iconst hz 3 dX10_gustsBy_72 rfl ?_
  refine x_iload hz dX10_gustsBy_73 5 rfl ?_
  refine x_imul hz dX10_gustsBy_75 ?_
  refine x_iadd hz dX10_gustsBy_76 ?_
  refine x_istore hz [(7, .int (v3 + (3 * s.2.1))), (0, .ref (h_b Z + 0)), (1, .int v1), (3, .int v3), (4, .int v4), (5, .int s.1), (6, .int s.2.1)] dX10_gustsBy_77 rfl rfl ?_
  refine x_iload_n hz dX10_gustsBy_79 rfl 3 rfl ?_
  refine x_if_lt hz dX10_gustsBy_80 ?_ ?_
  · refine x_bipush hz (-12) dX10_gustsBy_102 rfl ?_
    exact x_iret hz rfl dX10_gustsBy_104
  refine x_iload hz dX10_gustsBy_83 0 rfl ?_
  refine x_iload_n hz dX10_gustsBy_85 rfl 3 rfl ?_
  refine x_icmp_lt hz dX10_gustsBy_86 ?_ ?_
  · refine x_bipush hz (-12) dX10_gustsBy_102 rfl ?_
    exact x_iret hz rfl dX10_gustsBy_104
  refine x_iload hz dX10_gustsBy_89 0 rfl ?_
  refine x_aload_n hz dX10_gustsBy_91 rfl 1 rfl ?_
  refine x_getr hz sm_0 fl_X10_49 rfl rm_0_22 (by decide) dX10_gustsBy_92 ?_
  refine x_iload_n hz dX10_gustsBy_95 rfl 2 rfl ?_
  refine x_iald hz sm_14 dX10_gustsBy_96 (fun hi96 => ?_)
  refine x_iconst hz 3 dX10_gustsBy_97 rfl ?_
  refine x_isub hz dX10_gustsBy_98 ?_
  refine x_icmp_le hz dX10_gustsBy_99 ?_ ?_
  · refine x_bipush hz 40 dX10_gustsBy_105 rfl ?_
    refine x_iload_n hz dX10_gustsBy_107 rfl 2 rfl ?_
    refine x_imul hz dX10_gustsBy_108 ?_
    refine x_iload hz dX10_gustsBy_109 0 rfl ?_
    refine x_iadd hz dX10_gustsBy_111 ?_
    refine x_istore hz [(8, .int ((40 * v1) + (v3 + (3 * s.2.1)))), (7, .int (v3 + (3 * s.2.1))), (0, .ref (h_b Z + 0)), (1, .int v1), (3, .int v3), (4, .int v4), (5, .int s.1), (6, .int s.2.1)] dX10_gustsBy_112 rfl rfl ?_
    refine x_iload hz dX10_gustsBy_114 6 rfl ?_
    refine x_aload_n hz dX10_gustsBy_116 rfl 2 rfl ?_
    refine x_aload_n hz dX10_gustsBy_117 rfl 2 rfl ?_
    refine x_getr hz sm_0 fl_X10_52 rfl rm_0_23 (by decide) dX10_gustsBy_118 ?_
    refine x_iload hz dX10_gustsBy_121 0 rfl ?_
    refine x_iald hz sm_15 dX10_gustsBy_123 (fun hi123 => ?_)
    refine x_aload_n hz dX10_gustsBy_124 rfl 2 rfl ?_
    refine x_getr hz sm_0 fl_X10_52 rfl rm_0_23 (by decide) dX10_gustsBy_125 ?_
    refine x_iload hz dX10_gustsBy_128 0 rfl ?_
    refine x_iconst hz 1 dX10_gustsBy_130 rfl ?_
    refine x_iadd hz dX10_gustsBy_131 ?_
    refine x_iald hz sm_15 dX10_gustsBy_132 (fun hi132 => ?_)
    refine x_aload_n hz dX10_gustsBy_133 rfl 2 rfl ?_
    refine x_getr hz sm_0 fl_X10_52 rfl rm_0_23 (by decide) dX10_gustsBy_134 ?_
    refine x_iload hz dX10_gustsBy_137 0 rfl ?_
    refine x_iconst hz 2 dX10_gustsBy_139 rfl ?_
    refine x_iadd hz dX10_gustsBy_140 ?_
    refine x_iald hz sm_15 dX10_gustsBy_141 (fun hi141 => ?_)
    refine x_bind (fun q142 hq142 => ?_)
    refine x_callV hz mv_X10_323 sm_0 (by decide) rfl rfl (kX10_blow (n := n) (s.2.2 15 ((40 * v1) + (v3 + (3 * s.2.1))).toNatClampNeg) (s.2.2 15 (((40 * v1) + (v3 + (3 * s.2.1))) + 1).toNatClampNeg) (s.2.2 15 (((40 * v1) + (v3 + (3 * s.2.1))) + 2).toNatClampNeg) s.2.2 q142 hq142) rfl (av := [.int (s.2.2 15 ((40 * v1) + (v3 + (3 * s.2.1))).toNatClampNeg), .int (s.2.2 15 (((40 * v1) + (v3 + (3 * s.2.1))) + 1).toNatClampNeg), .int (s.2.2 15 (((40 * v1) + (v3 + (3 * s.2.1))) + 2).toNatClampNeg)]) (rest := [.int s.1]) rfl rfl (Nat.le_of_ble_eq_true rfl) dX10_gustsBy_142 ?_
    refine x_if_lt hz dX10_gustsBy_145 ?_ ?_
    · refine x_iconst hz 0 dX10_gustsBy_152 rfl ?_
      refine x_iadd hz dX10_gustsBy_153 ?_
      refine x_istore hz [(5, .int (s.1 + 0)), (8, .int ((40 * v1) + (v3 + (3 * s.2.1)))), (7, .int (v3 + (3 * s.2.1))), (0, .ref (h_b Z + 0)), (1, .int v1), (3, .int v3), (4, .int v4), (6, .int s.2.1)] dX10_gustsBy_154 rfl rfl ?_
      refine x_iinc hz (s.2.1 + 1) [(6, .int (s.2.1 + 1)), (5, .int (s.1 + 0)), (8, .int ((40 * v1) + (v3 + (3 * s.2.1)))), (7, .int (v3 + (3 * s.2.1))), (0, .ref (h_b Z + 0)), (1, .int v1), (3, .int v3), (4, .int v4)] dX10_gustsBy_156 7 rfl rfl rfl rfl ?_
      refine x_goto hz dX10_gustsBy_159 ?_
      exact x_sub [4, 5, 6, 7, 1, 0] rfl (hk64 (s.1 + 0, s.2.1 + 1, q142.2))
    refine x_iconst hz 1 dX10_gustsBy_148 rfl ?_
    refine x_goto hz dX10_gustsBy_149 ?_
    refine x_iadd hz dX10_gustsBy_153 ?_
    refine x_istore hz [(5, .int (s.1 + 1)), (8, .int ((40 * v1) + (v3 + (3 * s.2.1)))), (7, .int (v3 + (3 * s.2.1))), (0, .ref (h_b Z + 0)), (1, .int v1), (3, .int v3), (4, .int v4), (6, .int s.2.1)] dX10_gustsBy_154 rfl rfl ?_
    refine x_iinc hz (s.2.1 + 1) [(6, .int (s.2.1 + 1)), (5, .int (s.1 + 1)), (8, .int ((40 * v1) + (v3 + (3 * s.2.1)))), (7, .int (v3 + (3 * s.2.1))), (0, .ref (h_b Z + 0)), (1, .int v1), (3, .int v3), (4, .int v4)] dX10_gustsBy_156 7 rfl rfl rfl rfl ?_
    refine x_goto hz dX10_gustsBy_159 ?_
    exact x_sub [4, 5, 6, 7, 1, 0] rfl (hk64 (s.1 + 1, s.2.1 + 1, q142.2))
  refine x_bipush hz (-12) dX10_gustsBy_102 rfl ?_
  exact x_iret hz rfl dX10_gustsBy_104
set_option maxRecDepth 10000 in
set_option maxHeartbeats 4000000 in
theorem wX10_gustsBy {Z : hZ} {n : Nat} (hz : hOK Z hYm cX10_gustsBy RX10 9 (n + 2) (some .int)) (a1 : Int32) (a2 : Int32) (a3 : Int32) (a4 : Int32) (M : hMem) : hW Z rtM M 0 [(0, .ref (h_b Z + 0)), (1, .int a1), (2, .int a2), (3, .int a3), (4, .int a4)] [] (fX10_gustsBy a1 a2 a3 a4 M) := by
  unfold fX10_gustsBy
  refine x_iload_n hz dX10_gustsBy_0 rfl 1 rfl ?_
  refine x_iconst hz 0 dX10_gustsBy_1 rfl ?_
  refine x_iconst hz 3 dX10_gustsBy_2 rfl ?_
  refine x_callS hz ms_X10_93 (kX10_in (n := (n + 1)) a1 0 3 M) rfl (av := [.int a1, .int 0, .int 3]) (rest := []) rfl rfl (Nat.le_of_ble_eq_true rfl) dX10_gustsBy_3 ?_
  refine x_if_eq hz dX10_gustsBy_6 ?_ ?_
  · refine x_bipush hz (-2) dX10_gustsBy_29 rfl ?_
    exact x_iret hz rfl dX10_gustsBy_31
  refine x_iload_n hz dX10_gustsBy_9 rfl 2 rfl ?_
  refine x_iconst hz 0 dX10_gustsBy_10 rfl ?_
  refine x_iconst hz 2 dX10_gustsBy_11 rfl ?_
  refine x_callS hz ms_X10_93 (kX10_in (n := (n + 1)) a2 0 2 M) rfl (av := [.int a2, .int 0, .int 2]) (rest := []) rfl rfl (Nat.le_of_ble_eq_true rfl) dX10_gustsBy_12 ?_
  refine x_if_eq hz dX10_gustsBy_15 ?_ ?_
  · refine x_bipush hz (-2) dX10_gustsBy_29 rfl ?_
    exact x_iret hz rfl dX10_gustsBy_31
  refine x_iload hz dX10_gustsBy_18 4 rfl ?_
  refine x_iconst hz 0 dX10_gustsBy_20 rfl ?_
  refine x_bipush hz 13 dX10_gustsBy_21 rfl ?_
  refine x_callS hz ms_X10_93 (kX10_in (n := (n + 1)) a4 0 13 M) rfl (av := [.int a4, .int 0, .int 13]) (rest := []) rfl rfl (Nat.le_of_ble_eq_true rfl) dX10_gustsBy_23 ?_
  refine x_if_ne hz dX10_gustsBy_26 ?_ ?_
  · refine x_aload_n hz dX10_gustsBy_32 rfl 0 rfl ?_
    refine x_getr hz sm_0 fl_X10_46 rfl rm_0_21 (by decide) dX10_gustsBy_33 ?_
    refine x_iload_n hz dX10_gustsBy_36 rfl 1 rfl ?_
    refine x_iald hz sm_13 dX10_gustsBy_37 (fun hi37 => ?_)
    refine x_iconst hz (-1) dX10_gustsBy_38 rfl ?_
    refine x_icmp_ne hz dX10_gustsBy_39 ?_ ?_
    · refine x_aload_n hz dX10_gustsBy_45 rfl 0 rfl ?_
      refine x_getr hz sm_0 fl_X10_46 rfl rm_0_21 (by decide) dX10_gustsBy_46 ?_
      refine x_iload_n hz dX10_gustsBy_49 rfl 1 rfl ?_
      refine x_iald hz sm_13 dX10_gustsBy_50 (fun hi50 => ?_)
      refine x_iload_n hz dX10_gustsBy_51 rfl 2 rfl ?_
      refine x_icmp_eq hz dX10_gustsBy_52 ?_ ?_
      · refine x_iconst hz 0 dX10_gustsBy_58 rfl ?_
        refine x_istore hz [(5, .int 0), (0, .ref (h_b Z + 0)), (1, .int a1), (2, .int a2), (3, .int a3), (4, .int a4)] dX10_gustsBy_59 rfl rfl ?_
        refine x_iconst hz 0 dX10_gustsBy_61 rfl ?_
        refine x_istore hz [(6, .int 0), (5, .int 0), (0, .ref (h_b Z + 0)), (1, .int a1), (2, .int a2), (3, .int a3), (4, .int a4)] dX10_gustsBy_62 rfl rfl ?_
        exact x_sub [2, 3, 5, 6, 1, 0] rfl (wX10_gustsBy_L64 hz a1 a3 a4 h_FU (0, 0, M))
      refine x_bipush hz (-13) dX10_gustsBy_55 rfl ?_
      exact x_iret hz rfl dX10_gustsBy_57
    refine x_bipush hz (-11) dX10_gustsBy_42 rfl ?_
    exact x_iret hz rfl dX10_gustsBy_44
  refine x_bipush hz (-2) dX10_gustsBy_29 rfl ?_
  exact x_iret hz rfl dX10_gustsBy_31
theorem kX10_gustsBy {l : Launch} {dd : hDD} {b n : Nat} (a1 : Int32) (a2 : Int32) (a3 : Int32) (a4 : Int32) (M : hMem) (r : Int32 × hMem) (h : fX10_gustsBy a1 a2 a3 a4 M = some r) : hC l hYm dd b yX10_gustsBy cX10_gustsBy 9 (some .int) (n + 2) [.ref (b + 0), .int a1, .int a2, .int a3, .int a4] M (some (.int r.1), r.2) :=
  h_met (av := fun b => [.ref (b + 0), .int a1, .int a2, .int a3, .int a4]) (rt := rtM) (by decide) (Nat.le_of_ble_eq_true rfl) (fun Z hz => wX10_gustsBy (n := n) hz a1 a2 a3 a4 M) r h
set_option maxRecDepth 10000 in
set_option maxHeartbeats 4000000 in
theorem wX10_isUnder_L19 {Z : hZ} {n : Nat} (hz : hOK Z hYm cX10_isUnder RX10 2 (n + 0) (some .boolean))  (v0 : Int32) (v1 : Int32) (M : hMem)  : hW Z (rtP M) M 19 [(0, .int v0), (1, .int v1)] [] (some (fX10_isUnder_L19 v0 v1 M)) := by
  unfold fX10_isUnder_L19
  refine x_iload_n hz dX10_isUnder_19 rfl 1 rfl ?_
  refine x_iconst hz 2 dX10_isUnder_20 rfl ?_
  refine x_pull ?_
  refine x_icmp_ne hz dX10_isUnder_21 ?_ ?_
  · refine x_iconst hz 0 dX10_isUnder_33 rfl ?_
    exact x_zret hz rfl rfl dX10_isUnder_34
  refine x_iload_n hz dX10_isUnder_24 rfl 0 rfl ?_
  refine x_iconst hz 4 dX10_isUnder_25 rfl ?_
  refine x_pull ?_
  refine x_icmp_ne hz dX10_isUnder_26 ?_ ?_
  · refine x_iconst hz 0 dX10_isUnder_33 rfl ?_
    exact x_zret hz rfl rfl dX10_isUnder_34
  refine x_iconst hz 1 dX10_isUnder_29 rfl ?_
  refine x_goto hz dX10_isUnder_30 ?_
  exact x_zret hz rfl rfl dX10_isUnder_34
set_option maxRecDepth 10000 in
set_option maxHeartbeats 4000000 in
theorem wX10_isUnder {Z : hZ} {n : Nat} (hz : hOK Z hYm cX10_isUnder RX10 2 (n + 0) (some .boolean)) (a0 : Int32) (a1 : Int32) (M : hMem) : hW Z (rtP M) M 0 [(0, .int a0), (1, .int a1)] [] (some (fX10_isUnder a0 a1 M)) := by
  unfold fX10_isUnder
  refine x_iload_n hz dX10_isUnder_0 rfl 1 rfl ?_
  refine x_pull ?_
  refine x_if_eq hz dX10_isUnder_1 ?_ ?_
  · refine x_iconst hz 1 dX10_isUnder_29 rfl ?_
    refine x_goto hz dX10_isUnder_30 ?_
    exact x_zret hz rfl rfl dX10_isUnder_34
  refine x_iload_n hz dX10_isUnder_4 rfl 0 rfl ?_
  refine x_iload_n hz dX10_isUnder_5 rfl 1 rfl ?_
  refine x_pull ?_
  refine x_icmp_eq hz dX10_isUnder_6 ?_ ?_
  · refine x_iconst hz 1 dX10_isUnder_29 rfl ?_
    refine x_goto hz dX10_isUnder_30 ?_
    exact x_zret hz rfl rfl dX10_isUnder_34
  refine x_iload_n hz dX10_isUnder_9 rfl 1 rfl ?_
  refine x_iconst hz 1 dX10_isUnder_10 rfl ?_
  refine x_pull ?_
  refine x_icmp_ne hz dX10_isUnder_11 ?_ ?_
  · exact x_sub [0, 1] rfl (wX10_isUnder_L19 hz a0 a1 M)
  refine x_iload_n hz dX10_isUnder_14 rfl 0 rfl ?_
  refine x_iconst hz 3 dX10_isUnder_15 rfl ?_
  refine x_pull ?_
  refine x_icmp_eq hz dX10_isUnder_16 ?_ ?_
  · refine x_iconst hz 1 dX10_isUnder_29 rfl ?_
    refine x_goto hz dX10_isUnder_30 ?_
    exact x_zret hz rfl rfl dX10_isUnder_34
  exact x_sub [0, 1] rfl (wX10_isUnder_L19 hz a0 a1 M)
theorem bX10_isUnder (a0 : Int32) (a1 : Int32) (M : hMem) : narrow .boolean (.int (fX10_isUnder a0 a1 M)) = .int (fX10_isUnder a0 a1 M) := by
  unfold fX10_isUnder fX10_isUnder_L19
  repeat (first | rfl | split)
theorem kX10_isUnder {l : Launch} {dd : hDD} {b n : Nat} (a0 : Int32) (a1 : Int32) (M : hMem) : hC l hYm dd b yX10_isUnder cX10_isUnder 2 (some .boolean) (n + 0) [.int a0, .int a1] M (some (.int (fX10_isUnder a0 a1 M)), M) :=
  h_met (av := fun b => [.int a0, .int a1]) (rt := (rtP M)) (by decide) (Nat.le_of_ble_eq_true rfl) (fun Z hz => wX10_isUnder (n := n) hz a0 a1 M) _ rfl
