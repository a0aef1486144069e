set_option maxRecDepth 20000 in
set_option maxHeartbeats 4000000 in
theorem l_17 {Z : hZ} {Q : State → Prop} {cs ss L0 sb i : Nat} {xs : Nat → Int32} {X M : hMem} (hz : cOK Z cL_law RL 4 100 600000 7302250 0 ret) (hX : va_X sb L0 xs (h_s Z) (h_s Z).heap) (hbl : sb < (h_s Z).heap.size) (hL : L0 ≤ 3584) (hi : i + 7 ≤ L0) (hcs : cs ≤ 600000) (hss : ss ≤ 7302250) (R : RR X M) (kk : ∀ X' M' : hMem, RR X' M' → hB Z Q (cW Z X' M') cs ss 2111 [(3, .int (nI i)), (2, .ref (h_b Z + 88 + 0)), (1, .ref (h_b Z + 0)), (0, .ref sb)] []) : hB Z Q (cW Z X M) cs ss 891 [(3, .int (nI i)), (2, .ref (h_b Z + 88 + 0)), (1, .ref (h_b Z + 0)), (0, .ref sb)] [] := by
  have h1 : vp_in (nI i + 1) L0 := l_in hi hL (k := 1) (by decide)
  obtain ⟨v, X', M', e1, e2, R'⟩ := eq_over R (xs (nI i + 1).toNatClampNeg)
  refine v_aload_n hz.1 dL_law_891 rfl 2 rfl ?_
  refine v_aload_n hz.1 dL_law_892 rfl 3 rfl ?_
  refine v_iload_n hz.1 dL_law_893 rfl 0 rfl ?_
  refine v_iconst hz.1 1 dL_law_894 rfl ?_
  refine v_iadd hz.1 dL_law_895 ?_
  refine l_sld hz hX hbl h1 dL_law_896 ?_
  refine l_callX hz mv_L_87 rfl (kX9_over (n := 93) (xs (nI i + 1).toNatClampNeg) X (v, X') e1) rfl (av := [.int (xs (nI i + 1).toNatClampNeg)]) (rest := []) rfl rfl (Nat.le_of_ble_eq_true rfl) dL_law_897 hcs hss ?_
  refine v_aload_n hz.1 dL_law_900 rfl 1 rfl ?_
  refine v_aload_n hz.1 dL_law_901 rfl 3 rfl ?_
  refine v_iload_n hz.1 dL_law_902 rfl 0 rfl ?_
  refine v_iconst hz.1 1 dL_law_903 rfl ?_
  refine v_iadd hz.1 dL_law_904 ?_
  refine l_sld hz hX hbl h1 dL_law_905 ?_
  refine l_callM hz mv_L_90 rfl (kX10_over (n := 95) (xs (nI i + 1).toNatClampNeg) M (v, M') e2) rfl (av := [.int (xs (nI i + 1).toNatClampNeg)]) (rest := [.int v]) rfl rfl (Nat.le_of_ble_eq_true rfl) dL_law_906 hcs hss ?_
  exact v_icmp_eq hz.1 dL_law_909 (fun _ => kk X' M' R') (fun h => absurd rfl h)
set_option maxRecDepth 20000 in
set_option maxHeartbeats 4000000 in
theorem l_18 {Z : hZ} {Q : State → Prop} {cs ss L0 sb i : Nat} {xs : Nat → Int32} {X M : hMem} (hz : cOK Z cL_law RL 4 100 600000 7302250 0 ret) (hX : va_X sb L0 xs (h_s Z) (h_s Z).heap) (hbl : sb < (h_s Z).heap.size) (hL : L0 ≤ 3584) (hi : i + 7 ≤ L0) (hcs : cs ≤ 600000) (hss : ss ≤ 7302250) (R : RR X M) (kk : ∀ X' M' : hMem, RR X' M' → hB Z Q (cW Z X' M') cs ss 2111 [(3, .int (nI i)), (2, .ref (h_b Z + 88 + 0)), (1, .ref (h_b Z + 0)), (0, .ref sb)] []) : hB Z Q (cW Z X M) cs ss 914 [(3, .int (nI i)), (2, .ref (h_b Z + 88 + 0)), (1, .ref (h_b Z + 0)), (0, .ref sb)] [] := by
  have h1 : vp_in (nI i + 1) L0 := l_in hi hL (k := 1) (by decide)
  have h2 : vp_in (nI i + 2) L0 := l_in hi hL (k := 2) (by decide)
  obtain ⟨v, X', M', e1, e2, R'⟩ := eq_round R (xs (nI i + 1).toNatClampNeg) (xs (nI i + 2).toNatClampNeg)
  refine v_aload_n hz.1 dL_law_914 rfl 2 rfl ?_
  refine v_aload_n hz.1 dL_law_915 rfl 3 rfl ?_
  refine v_iload_n hz.1 dL_law_916 rfl 0 rfl ?_
  refine v_iconst hz.1 1 dL_law_917 rfl ?_
  refine v_iadd hz.1 dL_law_918 ?_
  refine l_sld hz hX hbl h1 dL_law_919 ?_
  refine v_aload_n hz.1 dL_law_920 rfl 3 rfl ?_
  refine v_iload_n hz.1 dL_law_921 rfl 0 rfl ?_
  refine v_iconst hz.1 2 dL_law_922 rfl ?_
  refine v_iadd hz.1 dL_law_923 ?_
  refine l_sld hz hX hbl h2 dL_law_924 ?_
  refine l_callX hz mv_L_91 rfl (kX9_round (n := 94) (xs (nI i + 1).toNatClampNeg) (xs (nI i + 2).toNatClampNeg) X (v, X') e1) rfl (av := [.int (xs (nI i + 1).toNatClampNeg), .int (xs (nI i + 2).toNatClampNeg)]) (rest := []) rfl rfl (Nat.le_of_ble_eq_true rfl) dL_law_925 hcs hss ?_
  refine v_aload_n hz.1 dL_law_928 rfl 1 rfl ?_
  refine v_aload_n hz.1 dL_law_929 rfl 3 rfl ?_
  refine v_iload_n hz.1 dL_law_930 rfl 0 rfl ?_
  refine v_iconst hz.1 1 dL_law_931 rfl ?_
  refine v_iadd hz.1 dL_law_932 ?_
  refine l_sld hz hX hbl h1 dL_law_933 ?_
  refine v_aload_n hz.1 dL_law_934 rfl 3 rfl ?_
  refine v_iload_n hz.1 dL_law_935 rfl 0 rfl ?_
  refine v_iconst hz.1 2 dL_law_936 rfl ?_
  refine v_iadd hz.1 dL_law_937 ?_
  refine l_sld hz hX hbl h2 dL_law_938 ?_
  refine l_callM hz mv_L_94 rfl (kX10_round (n := 94) (xs (nI i + 1).toNatClampNeg) (xs (nI i + 2).toNatClampNeg) M (v, M') e2) rfl (av := [.int (xs (nI i + 1).toNatClampNeg), .int (xs (nI i + 2).toNatClampNeg)]) (rest := [.int v]) rfl rfl (Nat.le_of_ble_eq_true rfl) dL_law_939 hcs hss ?_
  exact v_icmp_eq hz.1 dL_law_942 (fun _ => kk X' M' R') (fun h => absurd rfl h)
set_option maxRecDepth 20000 in
set_option maxHeartbeats 4000000 in
theorem l_19 {Z : hZ} {Q : State → Prop} {cs ss L0 sb i : Nat} {xs : Nat → Int32} {X M : hMem} (hz : cOK Z cL_law RL 4 100 600000 7302250 0 ret) (hX : va_X sb L0 xs (h_s Z) (h_s Z).heap) (hbl : sb < (h_s Z).heap.size) (hL : L0 ≤ 3584) (hi : i + 7 ≤ L0) (hcs : cs ≤ 600000) (hss : ss ≤ 7302250) (R : RR X M) (kk : ∀ X' M' : hMem, RR X' M' → hB Z Q (cW Z X' M') cs ss 2111 [(3, .int (nI i)), (2, .ref (h_b Z + 88 + 0)), (1, .ref (h_b Z + 0)), (0, .ref sb)] []) : hB Z Q (cW Z X M) cs ss 947 [(3, .int (nI i)), (2, .ref (h_b Z + 88 + 0)), (1, .ref (h_b Z + 0)), (0, .ref sb)] [] := by
  have h1 : vp_in (nI i + 1) L0 := l_in hi hL (k := 1) (by decide)
  have h2 : vp_in (nI i + 2) L0 := l_in hi hL (k := 2) (by decide)
  have h3 : vp_in (nI i + 3) L0 := l_in hi hL (k := 3) (by decide)
  obtain ⟨v, X', M', e1, e2, R'⟩ := eq_from R (xs (nI i + 1).toNatClampNeg) (xs (nI i + 2).toNatClampNeg) (xs (nI i + 3).toNatClampNeg)
  refine v_aload_n hz.1 dL_law_947 rfl 2 rfl ?_
  refine v_aload_n hz.1 dL_law_948 rfl 3 rfl ?_
  refine v_iload_n hz.1 dL_law_949 rfl 0 rfl ?_
  refine v_iconst hz.1 1 dL_law_950 rfl ?_
  refine v_iadd hz.1 dL_law_951 ?_
  refine l_sld hz hX hbl h1 dL_law_952 ?_
  refine v_aload_n hz.1 dL_law_953 rfl 3 rfl ?_
  refine v_iload_n hz.1 dL_law_954 rfl 0 rfl ?_
  refine v_iconst hz.1 2 dL_law_955 rfl ?_
  refine v_iadd hz.1 dL_law_956 ?_
  refine l_sld hz hX hbl h2 dL_law_957 ?_
  refine v_aload_n hz.1 dL_law_958 rfl 3 rfl ?_
  refine v_iload_n hz.1 dL_law_959 rfl 0 rfl ?_
  refine v_iconst hz.1 3 dL_law_960 rfl ?_
  refine v_iadd hz.1 dL_law_961 ?_
  refine l_sld hz hX hbl h3 dL_law_962 ?_
  refine l_callX hz mv_L_95 rfl (kX9_from (n := 94) (xs (nI i + 1).toNatClampNeg) (xs (nI i + 2).toNatClampNeg) (xs (nI i + 3).toNatClampNeg) X (v, X') e1) rfl (av := [.int (xs (nI i + 1).toNatClampNeg), .int (xs (nI i + 2).toNatClampNeg), .int (xs (nI i + 3).toNatClampNeg)]) (rest := []) rfl rfl (Nat.le_of_ble_eq_true rfl) dL_law_963 hcs hss ?_
  refine v_aload_n hz.1 dL_law_966 rfl 1 rfl ?_
  refine v_aload_n hz.1 dL_law_967 rfl 3 rfl ?_
  refine v_iload_n hz.1 dL_law_968 rfl 0 rfl ?_
  refine v_iconst hz.1 1 dL_law_969 rfl ?_
  refine v_iadd hz.1 dL_law_970 ?_
  refine l_sld hz hX hbl h1 dL_law_971 ?_
  refine v_aload_n hz.1 dL_law_972 rfl 3 rfl ?_
  refine v_iload_n hz.1 dL_law_973 rfl 0 rfl ?_
  refine v_iconst hz.1 2 dL_law_974 rfl ?_
  refine v_iadd hz.1 dL_law_975 ?_
  refine l_sld hz hX hbl h2 dL_law_976 ?_
  refine v_aload_n hz.1 dL_law_977 rfl 3 rfl ?_
  refine v_iload_n hz.1 dL_law_978 rfl 0 rfl ?_
  refine v_iconst hz.1 3 dL_law_979 rfl ?_
  refine v_iadd hz.1 dL_law_980 ?_
  refine l_sld hz hX hbl h3 dL_law_981 ?_
  refine l_callM hz mv_L_98 rfl (kX10_from (n := 93) (xs (nI i + 1).toNatClampNeg) (xs (nI i + 2).toNatClampNeg) (xs (nI i + 3).toNatClampNeg) M (v, M') e2) rfl (av := [.int (xs (nI i + 1).toNatClampNeg), .int (xs (nI i + 2).toNatClampNeg), .int (xs (nI i + 3).toNatClampNeg)]) (rest := [.int v]) rfl rfl (Nat.le_of_ble_eq_true rfl) dL_law_982 hcs hss ?_
  exact v_icmp_eq hz.1 dL_law_985 (fun _ => kk X' M' R') (fun h => absurd rfl h)
set_option maxRecDepth 20000 in
set_option maxHeartbeats 4000000 in
theorem l_20 {Z : hZ} {Q : State → Prop} {cs ss L0 sb i : Nat} {xs : Nat → Int32} {X M : hMem} (hz : cOK Z cL_law RL 4 100 600000 7302250 0 ret) (hX : va_X sb L0 xs (h_s Z) (h_s Z).heap) (hbl : sb < (h_s Z).heap.size) (hL : L0 ≤ 3584) (hi : i + 7 ≤ L0) (hcs : cs ≤ 600000) (hss : ss ≤ 7302250) (R : RR X M) (kk : ∀ X' M' : hMem, RR X' M' → hB Z Q (cW Z X' M') cs ss 2111 [(3, .int (nI i)), (2, .ref (h_b Z + 88 + 0)), (1, .ref (h_b Z + 0)), (0, .ref sb)] []) : hB Z Q (cW Z X M) cs ss 990 [(3, .int (nI i)), (2, .ref (h_b Z + 88 + 0)), (1, .ref (h_b Z + 0)), (0, .ref sb)] [] := by
  have h1 : vp_in (nI i + 1) L0 := l_in hi hL (k := 1) (by decide)
  have h2 : vp_in (nI i + 2) L0 := l_in hi hL (k := 2) (by decide)
  have h3 : vp_in (nI i + 3) L0 := l_in hi hL (k := 3) (by decide)
  obtain ⟨v, X', M', e1, e2, R'⟩ := eq_keeps R (xs (nI i + 1).toNatClampNeg) (xs (nI i + 2).toNatClampNeg) (xs (nI i + 3).toNatClampNeg)
  refine v_aload_n hz.1 dL_law_990 rfl 2 rfl ?_
  refine v_aload_n hz.1 dL_law_991 rfl 3 rfl ?_
  refine v_iload_n hz.1 dL_law_992 rfl 0 rfl ?_
  refine v_iconst hz.1 1 dL_law_993 rfl ?_
  refine v_iadd hz.1 dL_law_994 ?_
  refine l_sld hz hX hbl h1 dL_law_995 ?_
  refine v_aload_n hz.1 dL_law_996 rfl 3 rfl ?_
  refine v_iload_n hz.1 dL_law_997 rfl 0 rfl ?_
  refine v_iconst hz.1 2 dL_law_998 rfl ?_
  refine v_iadd hz.1 dL_law_999 ?_
  refine l_sld hz hX hbl h2 dL_law_1000 ?_
  refine v_aload_n hz.1 dL_law_1001 rfl 3 rfl ?_
  refine v_iload_n hz.1 dL_law_1002 rfl 0 rfl ?_
  refine v_iconst hz.1 3 dL_law_1003 rfl ?_
  refine v_iadd hz.1 dL_law_1004 ?_
  refine l_sld hz hX hbl h3 dL_law_1005 ?_
  refine l_callX hz mv_L_99 rfl (kX9_keeps (n := 94) (xs (nI i + 1).toNatClampNeg) (xs (nI i + 2).toNatClampNeg) (xs (nI i + 3).toNatClampNeg) X (v, X') e1) rfl (av := [.int (xs (nI i + 1).toNatClampNeg), .int (xs (nI i + 2).toNatClampNeg), .int (xs (nI i + 3).toNatClampNeg)]) (rest := []) rfl rfl (Nat.le_of_ble_eq_true rfl) dL_law_1006 hcs hss ?_
  refine v_aload_n hz.1 dL_law_1009 rfl 1 rfl ?_
  refine v_aload_n hz.1 dL_law_1010 rfl 3 rfl ?_
  refine v_iload_n hz.1 dL_law_1011 rfl 0 rfl ?_
  refine v_iconst hz.1 1 dL_law_1012 rfl ?_
  refine v_iadd hz.1 dL_law_1013 ?_
  refine l_sld hz hX hbl h1 dL_law_1014 ?_
  refine v_aload_n hz.1 dL_law_1015 rfl 3 rfl ?_
  refine v_iload_n hz.1 dL_law_1016 rfl 0 rfl ?_
  refine v_iconst hz.1 2 dL_law_1017 rfl ?_
  refine v_iadd hz.1 dL_law_1018 ?_
  refine l_sld hz hX hbl h2 dL_law_1019 ?_
  refine v_aload_n hz.1 dL_law_1020 rfl 3 rfl ?_
  refine v_iload_n hz.1 dL_law_1021 rfl 0 rfl ?_
  refine v_iconst hz.1 3 dL_law_1022 rfl ?_
  refine v_iadd hz.1 dL_law_1023 ?_
  refine l_sld hz hX hbl h3 dL_law_1024 ?_
  refine l_callM hz mv_L_102 rfl (kX10_keeps (n := 93) (xs (nI i + 1).toNatClampNeg) (xs (nI i + 2).toNatClampNeg) (xs (nI i + 3).toNatClampNeg) M (v, M') e2) rfl (av := [.int (xs (nI i + 1).toNatClampNeg), .int (xs (nI i + 2).toNatClampNeg), .int (xs (nI i + 3).toNatClampNeg)]) (rest := [.int v]) rfl rfl (Nat.le_of_ble_eq_true rfl) dL_law_1025 hcs hss ?_
  exact v_icmp_eq hz.1 dL_law_1028 (fun _ => kk X' M' R') (fun h => absurd rfl h)
set_option maxRecDepth 20000 in
set_option maxHeartbeats 4000000 in
theorem l_21 {Z : hZ} {Q : State → Prop} {cs ss L0 sb i : Nat} {xs : Nat → Int32} {X M : hMem} (hz : cOK Z cL_law RL 4 100 600000 7302250 0 ret) (hX : va_X sb L0 xs (h_s Z) (h_s Z).heap) (hbl : sb < (h_s Z).heap.size) (hL : L0 ≤ 3584) (hi : i + 7 ≤ L0) (hcs : cs ≤ 600000) (hss : ss ≤ 7302250) (R : RR X M) (kk : ∀ X' M' : hMem, RR X' M' → hB Z Q (cW Z X' M') cs ss 2111 [(3, .int (nI i)), (2, .ref (h_b Z + 88 + 0)), (1, .ref (h_b Z + 0)), (0, .ref sb)] []) : hB Z Q (cW Z X M) cs ss 1033 [(3, .int (nI i)), (2, .ref (h_b Z + 88 + 0)), (1, .ref (h_b Z + 0)), (0, .ref sb)] [] := by
  have h1 : vp_in (nI i + 1) L0 := l_in hi hL (k := 1) (by decide)
  have h2 : vp_in (nI i + 2) L0 := l_in hi hL (k := 2) (by decide)
  obtain ⟨v, X', M', e1, e2, R'⟩ := eq_caught R (xs (nI i + 1).toNatClampNeg) (xs (nI i + 2).toNatClampNeg)
  refine v_aload_n hz.1 dL_law_1033 rfl 2 rfl ?_
  refine v_aload_n hz.1 dL_law_1034 rfl 3 rfl ?_
  refine v_iload_n hz.1 dL_law_1035 rfl 0 rfl ?_
  refine v_iconst hz.1 1 dL_law_1036 rfl ?_
  refine v_iadd hz.1 dL_law_1037 ?_
  refine l_sld hz hX hbl h1 dL_law_1038 ?_
  refine v_aload_n hz.1 dL_law_1039 rfl 3 rfl ?_
  refine v_iload_n hz.1 dL_law_1040 rfl 0 rfl ?_
  refine v_iconst hz.1 2 dL_law_1041 rfl ?_
  refine v_iadd hz.1 dL_law_1042 ?_
  refine l_sld hz hX hbl h2 dL_law_1043 ?_
  refine l_callX hz mv_L_103 rfl (kX9_caught (n := 92) (xs (nI i + 1).toNatClampNeg) (xs (nI i + 2).toNatClampNeg) X (v, X') e1) rfl (av := [.int (xs (nI i + 1).toNatClampNeg), .int (xs (nI i + 2).toNatClampNeg)]) (rest := []) rfl rfl (Nat.le_of_ble_eq_true rfl) dL_law_1044 hcs hss ?_
  refine v_aload_n hz.1 dL_law_1047 rfl 1 rfl ?_
  refine v_aload_n hz.1 dL_law_1048 rfl 3 rfl ?_
  refine v_iload_n hz.1 dL_law_1049 rfl 0 rfl ?_
  refine v_iconst hz.1 1 dL_law_1050 rfl ?_
  refine v_iadd hz.1 dL_law_1051 ?_
  refine l_sld hz hX hbl h1 dL_law_1052 ?_
  refine v_aload_n hz.1 dL_law_1053 rfl 3 rfl ?_
  refine v_iload_n hz.1 dL_law_1054 rfl 0 rfl ?_
  refine v_iconst hz.1 2 dL_law_1055 rfl ?_
  refine v_iadd hz.1 dL_law_1056 ?_
  refine l_sld hz hX hbl h2 dL_law_1057 ?_
  refine l_callM hz mv_L_106 rfl (kX10_caught (n := 92) (xs (nI i + 1).toNatClampNeg) (xs (nI i + 2).toNatClampNeg) M (v, M') e2) rfl (av := [.int (xs (nI i + 1).toNatClampNeg), .int (xs (nI i + 2).toNatClampNeg)]) (rest := [.int v]) rfl rfl (Nat.le_of_ble_eq_true rfl) dL_law_1058 hcs hss ?_
  exact v_icmp_eq hz.1 dL_law_1061 (fun _ => kk X' M' R') (fun h => absurd rfl h)
set_option maxRecDepth 20000 in
set_option maxHeartbeats 4000000 in
theorem l_22 {Z : hZ} {Q : State → Prop} {cs ss L0 sb i : Nat} {xs : Nat → Int32} {X M : hMem} (hz : cOK Z cL_law RL 4 100 600000 7302250 0 ret) (hX : va_X sb L0 xs (h_s Z) (h_s Z).heap) (hbl : sb < (h_s Z).heap.size) (hL : L0 ≤ 3584) (hi : i + 7 ≤ L0) (hcs : cs ≤ 600000) (hss : ss ≤ 7302250) (R : RR X M) (kk : ∀ X' M' : hMem, RR X' M' → hB Z Q (cW Z X' M') cs ss 2111 [(3, .int (nI i)), (2, .ref (h_b Z + 88 + 0)), (1, .ref (h_b Z + 0)), (0, .ref sb)] []) : hB Z Q (cW Z X M) cs ss 1066 [(3, .int (nI i)), (2, .ref (h_b Z + 88 + 0)), (1, .ref (h_b Z + 0)), (0, .ref sb)] [] := by
  have h1 : vp_in (nI i + 1) L0 := l_in hi hL (k := 1) (by decide)
  have h2 : vp_in (nI i + 2) L0 := l_in hi hL (k := 2) (by decide)
  obtain ⟨v, X', M', e1, e2, R'⟩ := eq_who R (xs (nI i + 1).toNatClampNeg) (xs (nI i + 2).toNatClampNeg)
  refine v_aload_n hz.1 dL_law_1066 rfl 2 rfl ?_
  refine v_aload_n hz.1 dL_law_1067 rfl 3 rfl ?_
  refine v_iload_n hz.1 dL_law_1068 rfl 0 rfl ?_
  refine v_iconst hz.1 1 dL_law_1069 rfl ?_
  refine v_iadd hz.1 dL_law_1070 ?_
  refine l_sld hz hX hbl h1 dL_law_1071 ?_
  refine v_aload_n hz.1 dL_law_1072 rfl 3 rfl ?_
  refine v_iload_n hz.1 dL_law_1073 rfl 0 rfl ?_
  refine v_iconst hz.1 2 dL_law_1074 rfl ?_
  refine v_iadd hz.1 dL_law_1075 ?_
  refine l_sld hz hX hbl h2 dL_law_1076 ?_
  refine l_callX hz mv_L_107 rfl (kX9_who (n := 94) (xs (nI i + 1).toNatClampNeg) (xs (nI i + 2).toNatClampNeg) X (v, X') e1) rfl (av := [.int (xs (nI i + 1).toNatClampNeg), .int (xs (nI i + 2).toNatClampNeg)]) (rest := []) rfl rfl (Nat.le_of_ble_eq_true rfl) dL_law_1077 hcs hss ?_
  refine v_aload_n hz.1 dL_law_1080 rfl 1 rfl ?_
  refine v_aload_n hz.1 dL_law_1081 rfl 3 rfl ?_
  refine v_iload_n hz.1 dL_law_1082 rfl 0 rfl ?_
  refine v_iconst hz.1 1 dL_law_1083 rfl ?_
  refine v_iadd hz.1 dL_law_1084 ?_
  refine l_sld hz hX hbl h1 dL_law_1085 ?_
  refine v_aload_n hz.1 dL_law_1086 rfl 3 rfl ?_
  refine v_iload_n hz.1 dL_law_1087 rfl 0 rfl ?_
  refine v_iconst hz.1 2 dL_law_1088 rfl ?_
  refine v_iadd hz.1 dL_law_1089 ?_
  refine l_sld hz hX hbl h2 dL_law_1090 ?_
  refine l_callM hz mv_L_110 rfl (kX10_who (n := 92) (xs (nI i + 1).toNatClampNeg) (xs (nI i + 2).toNatClampNeg) M (v, M') e2) rfl (av := [.int (xs (nI i + 1).toNatClampNeg), .int (xs (nI i + 2).toNatClampNeg)]) (rest := [.int v]) rfl rfl (Nat.le_of_ble_eq_true rfl) dL_law_1091 hcs hss ?_
  exact v_icmp_eq hz.1 dL_law_1094 (fun _ => kk X' M' R') (fun h => absurd rfl h)
set_option maxRecDepth 20000 in
set_option maxHeartbeats 4000000 in
theorem l_23 {Z : hZ} {Q : State → Prop} {cs ss L0 sb i : Nat} {xs : Nat → Int32} {X M : hMem} (hz : cOK Z cL_law RL 4 100 600000 7302250 0 ret) (hX : va_X sb L0 xs (h_s Z) (h_s Z).heap) (hbl : sb < (h_s Z).heap.size) (hL : L0 ≤ 3584) (hi : i + 7 ≤ L0) (hcs : cs ≤ 600000) (hss : ss ≤ 7302250) (R : RR X M) (kk : ∀ X' M' : hMem, RR X' M' → hB Z Q (cW Z X' M') cs ss 2111 [(3, .int (nI i)), (2, .ref (h_b Z + 88 + 0)), (1, .ref (h_b Z + 0)), (0, .ref sb)] []) : hB Z Q (cW Z X M) cs ss 1099 [(3, .int (nI i)), (2, .ref (h_b Z + 88 + 0)), (1, .ref (h_b Z + 0)), (0, .ref sb)] [] := by
  have h1 : vp_in (nI i + 1) L0 := l_in hi hL (k := 1) (by decide)
  have h2 : vp_in (nI i + 2) L0 := l_in hi hL (k := 2) (by decide)
  have h3 : vp_in (nI i + 3) L0 := l_in hi hL (k := 3) (by decide)
  obtain ⟨v, X', M', e1, e2, R'⟩ := eq_stand R (xs (nI i + 1).toNatClampNeg) (xs (nI i + 2).toNatClampNeg) (xs (nI i + 3).toNatClampNeg)
  refine v_aload_n hz.1 dL_law_1099 rfl 2 rfl ?_
  refine v_aload_n hz.1 dL_law_1100 rfl 3 rfl ?_
  refine v_iload_n hz.1 dL_law_1101 rfl 0 rfl ?_
  refine v_iconst hz.1 1 dL_law_1102 rfl ?_
  refine v_iadd hz.1 dL_law_1103 ?_
  refine l_sld hz hX hbl h1 dL_law_1104 ?_
  refine v_aload_n hz.1 dL_law_1105 rfl 3 rfl ?_
  refine v_iload_n hz.1 dL_law_1106 rfl 0 rfl ?_
  refine v_iconst hz.1 2 dL_law_1107 rfl ?_
  refine v_iadd hz.1 dL_law_1108 ?_
  refine l_sld hz hX hbl h2 dL_law_1109 ?_
  refine v_aload_n hz.1 dL_law_1110 rfl 3 rfl ?_
  refine v_iload_n hz.1 dL_law_1111 rfl 0 rfl ?_
  refine v_iconst hz.1 3 dL_law_1112 rfl ?_
  refine v_iadd hz.1 dL_law_1113 ?_
  refine l_sld hz hX hbl h3 dL_law_1114 ?_
  refine l_callX hz mv_L_111 rfl (kX9_stand (n := 94) (xs (nI i + 1).toNatClampNeg) (xs (nI i + 2).toNatClampNeg) (xs (nI i + 3).toNatClampNeg) X (v, X') e1) rfl (av := [.int (xs (nI i + 1).toNatClampNeg), .int (xs (nI i + 2).toNatClampNeg), .int (xs (nI i + 3).toNatClampNeg)]) (rest := []) rfl rfl (Nat.le_of_ble_eq_true rfl) dL_law_1115 hcs hss ?_
  refine v_aload_n hz.1 dL_law_1118 rfl 1 rfl ?_
  refine v_aload_n hz.1 dL_law_1119 rfl 3 rfl ?_
  refine v_iload_n hz.1 dL_law_1120 rfl 0 rfl ?_
  refine v_iconst hz.1 1 dL_law_1121 rfl ?_
  refine v_iadd hz.1 dL_law_1122 ?_
  refine l_sld hz hX hbl h1 dL_law_1123 ?_
  refine v_aload_n hz.1 dL_law_1124 rfl 3 rfl ?_
  refine v_iload_n hz.1 dL_law_1125 rfl 0 rfl ?_
  refine v_iconst hz.1 2 dL_law_1126 rfl ?_
  refine v_iadd hz.1 dL_law_1127 ?_
  refine l_sld hz hX hbl h2 dL_law_1128 ?_
  refine v_aload_n hz.1 dL_law_1129 rfl 3 rfl ?_
  refine v_iload_n hz.1 dL_law_1130 rfl 0 rfl ?_
  refine v_iconst hz.1 3 dL_law_1131 rfl ?_
  refine v_iadd hz.1 dL_law_1132 ?_
  refine l_sld hz hX hbl h3 dL_law_1133 ?_
  refine l_callM hz mv_L_114 rfl (kX10_stand (n := 93) (xs (nI i + 1).toNatClampNeg) (xs (nI i + 2).toNatClampNeg) (xs (nI i + 3).toNatClampNeg) M (v, M') e2) rfl (av := [.int (xs (nI i + 1).toNatClampNeg), .int (xs (nI i + 2).toNatClampNeg), .int (xs (nI i + 3).toNatClampNeg)]) (rest := [.int v]) rfl rfl (Nat.le_of_ble_eq_true rfl) dL_law_1134 hcs hss ?_
  exact v_icmp_eq hz.1 dL_law_1137 (fun _ => kk X' M' R') (fun h => absurd rfl h)
set_option maxRecDepth 20000 in
set_option maxHeartbeats 4000000 in
theorem l_24 {Z : hZ} {Q : State → Prop} {cs ss L0 sb i : Nat} {xs : Nat → Int32} {X M : hMem} (hz : cOK Z cL_law RL 4 100 600000 7302250 0 ret) (hX : va_X sb L0 xs (h_s Z) (h_s Z).heap) (hbl : sb < (h_s Z).heap.size) (hL : L0 ≤ 3584) (hi : i + 7 ≤ L0) (hcs : cs ≤ 600000) (hss : ss ≤ 7302250) (R : RR X M) (kk : ∀ X' M' : hMem, RR X' M' → hB Z Q (cW Z X' M') cs ss 2111 [(3, .int (nI i)), (2, .ref (h_b Z + 88 + 0)), (1, .ref (h_b Z + 0)), (0, .ref sb)] []) : hB Z Q (cW Z X M) cs ss 1142 [(3, .int (nI i)), (2, .ref (h_b Z + 88 + 0)), (1, .ref (h_b Z + 0)), (0, .ref sb)] [] := by
  have h1 : vp_in (nI i + 1) L0 := l_in hi hL (k := 1) (by decide)
  have h2 : vp_in (nI i + 2) L0 := l_in hi hL (k := 2) (by decide)
  obtain ⟨v, X', M', e1, e2, R'⟩ := eq_wait R (xs (nI i + 1).toNatClampNeg) (xs (nI i + 2).toNatClampNeg)
  refine v_aload_n hz.1 dL_law_1142 rfl 2 rfl ?_
  refine v_aload_n hz.1 dL_law_1143 rfl 3 rfl ?_
  refine v_iload_n hz.1 dL_law_1144 rfl 0 rfl ?_
  refine v_iconst hz.1 1 dL_law_1145 rfl ?_
  refine v_iadd hz.1 dL_law_1146 ?_
  refine l_sld hz hX hbl h1 dL_law_1147 ?_
  refine v_aload_n hz.1 dL_law_1148 rfl 3 rfl ?_
  refine v_iload_n hz.1 dL_law_1149 rfl 0 rfl ?_
  refine v_iconst hz.1 2 dL_law_1150 rfl ?_
  refine v_iadd hz.1 dL_law_1151 ?_
  refine l_sld hz hX hbl h2 dL_law_1152 ?_
  refine l_callX hz mv_L_115 rfl (kX9_wait (n := 92) (xs (nI i + 1).toNatClampNeg) (xs (nI i + 2).toNatClampNeg) X (v, X') e1) rfl (av := [.int (xs (nI i + 1).toNatClampNeg), .int (xs (nI i + 2).toNatClampNeg)]) (rest := []) rfl rfl (Nat.le_of_ble_eq_true rfl) dL_law_1153 hcs hss ?_
  refine v_aload_n hz.1 dL_law_1156 rfl 1 rfl ?_
  refine v_aload_n hz.1 dL_law_1157 rfl 3 rfl ?_
  refine v_iload_n hz.1 dL_law_1158 rfl 0 rfl ?_
  refine v_iconst hz.1 1 dL_law_1159 rfl ?_
  refine v_iadd hz.1 dL_law_1160 ?_
  refine l_sld hz hX hbl h1 dL_law_1161 ?_
  refine v_aload_n hz.1 dL_law_1162 rfl 3 rfl ?_
  refine v_iload_n hz.1 dL_law_1163 rfl 0 rfl ?_
  refine v_iconst hz.1 2 dL_law_1164 rfl ?_
  refine v_iadd hz.1 dL_law_1165 ?_
  refine l_sld hz hX hbl h2 dL_law_1166 ?_
  refine l_callM hz mv_L_118 rfl (kX10_wait (n := 92) (xs (nI i + 1).toNatClampNeg) (xs (nI i + 2).toNatClampNeg) M (v, M') e2) rfl (av := [.int (xs (nI i + 1).toNatClampNeg), .int (xs (nI i + 2).toNatClampNeg)]) (rest := [.int v]) rfl rfl (Nat.le_of_ble_eq_true rfl) dL_law_1167 hcs hss ?_
  exact v_icmp_eq hz.1 dL_law_1170 (fun _ => kk X' M' R') (fun h => absurd rfl h)
set_option maxRecDepth 20000 in
set_option maxHeartbeats 4000000 in
theorem l_25 {Z : hZ} {Q : State → Prop} {cs ss L0 sb i : Nat} {xs : Nat → Int32} {X M : hMem} (hz : cOK Z cL_law RL 4 100 600000 7302250 0 ret) (hX : va_X sb L0 xs (h_s Z) (h_s Z).heap) (hbl : sb < (h_s Z).heap.size) (hL : L0 ≤ 3584) (hi : i + 7 ≤ L0) (hcs : cs ≤ 600000) (hss : ss ≤ 7302250) (R : RR X M) (kk : ∀ X' M' : hMem, RR X' M' → hB Z Q (cW Z X' M') cs ss 2111 [(3, .int (nI i)), (2, .ref (h_b Z + 88 + 0)), (1, .ref (h_b Z + 0)), (0, .ref sb)] []) : hB Z Q (cW Z X M) cs ss 1175 [(3, .int (nI i)), (2, .ref (h_b Z + 88 + 0)), (1, .ref (h_b Z + 0)), (0, .ref sb)] [] := by
  have h1 : vp_in (nI i + 1) L0 := l_in hi hL (k := 1) (by decide)
  have h2 : vp_in (nI i + 2) L0 := l_in hi hL (k := 2) (by decide)
  have h3 : vp_in (nI i + 3) L0 := l_in hi hL (k := 3) (by decide)
  obtain ⟨v, X', M', e1, e2, R'⟩ := eq_pace R (xs (nI i + 1).toNatClampNeg) (xs (nI i + 2).toNatClampNeg) (xs (nI i + 3).toNatClampNeg)
  refine v_aload_n hz.1 dL_law_1175 rfl 2 rfl ?_
  refine v_aload_n hz.1 dL_law_1176 rfl 3 rfl ?_
  refine v_iload_n hz.1 dL_law_1177 rfl 0 rfl ?_
  refine v_iconst hz.1 1 dL_law_1178 rfl ?_
  refine v_iadd hz.1 dL_law_1179 ?_
  refine l_sld hz hX hbl h1 dL_law_1180 ?_
  refine v_aload_n hz.1 dL_law_1181 rfl 3 rfl ?_
  refine v_iload_n hz.1 dL_law_1182 rfl 0 rfl ?_
  refine v_iconst hz.1 2 dL_law_1183 rfl ?_
  refine v_iadd hz.1 dL_law_1184 ?_
  refine l_sld hz hX hbl h2 dL_law_1185 ?_
  refine v_aload_n hz.1 dL_law_1186 rfl 3 rfl ?_
  refine v_iload_n hz.1 dL_law_1187 rfl 0 rfl ?_
  refine v_iconst hz.1 3 dL_law_1188 rfl ?_
  refine v_iadd hz.1 dL_law_1189 ?_
  refine l_sld hz hX hbl h3 dL_law_1190 ?_
  refine l_callX hz mv_L_119 rfl (kX9_pace (n := 94) (xs (nI i + 1).toNatClampNeg) (xs (nI i + 2).toNatClampNeg) (xs (nI i + 3).toNatClampNeg) X (v, X') e1) rfl (av := [.int (xs (nI i + 1).toNatClampNeg), .int (xs (nI i + 2).toNatClampNeg), .int (xs (nI i + 3).toNatClampNeg)]) (rest := []) rfl rfl (Nat.le_of_ble_eq_true rfl) dL_law_1191 hcs hss ?_
  refine v_aload_n hz.1 dL_law_1194 rfl 1 rfl ?_
  refine v_aload_n hz.1 dL_law_1195 rfl 3 rfl ?_
  refine v_iload_n hz.1 dL_law_1196 rfl 0 rfl ?_
  refine v_iconst hz.1 1 dL_law_1197 rfl ?_
  refine v_iadd hz.1 dL_law_1198 ?_
  refine l_sld hz hX hbl h1 dL_law_1199 ?_
  refine v_aload_n hz.1 dL_law_1200 rfl 3 rfl ?_
  refine v_iload_n hz.1 dL_law_1201 rfl 0 rfl ?_
  refine v_iconst hz.1 2 dL_law_1202 rfl ?_
  refine v_iadd hz.1 dL_law_1203 ?_
  refine l_sld hz hX hbl h2 dL_law_1204 ?_
  refine v_aload_n hz.1 dL_law_1205 rfl 3 rfl ?_
  refine v_iload_n hz.1 dL_law_1206 rfl 0 rfl ?_
  refine v_iconst hz.1 3 dL_law_1207 rfl ?_
  refine v_iadd hz.1 dL_law_1208 ?_
  refine l_sld hz hX hbl h3 dL_law_1209 ?_
  refine l_callM hz mv_L_122 rfl (kX10_pace (n := 93) (xs (nI i + 1).toNatClampNeg) (xs (nI i + 2).toNatClampNeg) (xs (nI i + 3).toNatClampNeg) M (v, M') e2) rfl (av := [.int (xs (nI i + 1).toNatClampNeg), .int (xs (nI i + 2).toNatClampNeg), .int (xs (nI i + 3).toNatClampNeg)]) (rest := [.int v]) rfl rfl (Nat.le_of_ble_eq_true rfl) dL_law_1210 hcs hss ?_
  exact v_icmp_eq hz.1 dL_law_1213 (fun _ => kk X' M' R') (fun h => absurd rfl h)
set_option maxRecDepth 20000 in
set_option maxHeartbeats 4000000 in
theorem l_26 {Z : hZ} {Q : State → Prop} {cs ss L0 sb i : Nat} {xs : Nat → Int32} {X M : hMem} (hz : cOK Z cL_law RL 4 100 600000 7302250 0 ret) (hX : va_X sb L0 xs (h_s Z) (h_s Z).heap) (hbl : sb < (h_s Z).heap.size) (hL : L0 ≤ 3584) (hi : i + 7 ≤ L0) (hcs : cs ≤ 600000) (hss : ss ≤ 7302250) (R : RR X M) (kk : ∀ X' M' : hMem, RR X' M' → hB Z Q (cW Z X' M') cs ss 2111 [(3, .int (nI i)), (2, .ref (h_b Z + 88 + 0)), (1, .ref (h_b Z + 0)), (0, .ref sb)] []) : hB Z Q (cW Z X M) cs ss 1218 [(3, .int (nI i)), (2, .ref (h_b Z + 88 + 0)), (1, .ref (h_b Z + 0)), (0, .ref sb)] [] := by
  have h1 : vp_in (nI i + 1) L0 := l_in hi hL (k := 1) (by decide)
  have h2 : vp_in (nI i + 2) L0 := l_in hi hL (k := 2) (by decide)
  obtain ⟨v, X', M', e1, e2, R'⟩ := eq_order R (xs (nI i + 1).toNatClampNeg) (xs (nI i + 2).toNatClampNeg)
  refine v_aload_n hz.1 dL_law_1218 rfl 2 rfl ?_
  refine v_aload_n hz.1 dL_law_1219 rfl 3 rfl ?_
  refine v_iload_n hz.1 dL_law_1220 rfl 0 rfl ?_
  refine v_iconst hz.1 1 dL_law_1221 rfl ?_
  refine v_iadd hz.1 dL_law_1222 ?_
  refine l_sld hz hX hbl h1 dL_law_1223 ?_
  refine v_aload_n hz.1 dL_law_1224 rfl 3 rfl ?_
  refine v_iload_n hz.1 dL_law_1225 rfl 0 rfl ?_
  refine v_iconst hz.1 2 dL_law_1226 rfl ?_
  refine v_iadd hz.1 dL_law_1227 ?_
  refine l_sld hz hX hbl h2 dL_law_1228 ?_
  refine l_callX hz mv_L_123 rfl (kX9_order (n := 90) (xs (nI i + 1).toNatClampNeg) (xs (nI i + 2).toNatClampNeg) X (v, X') e1) rfl (av := [.int (xs (nI i + 1).toNatClampNeg), .int (xs (nI i + 2).toNatClampNeg)]) (rest := []) rfl rfl (Nat.le_of_ble_eq_true rfl) dL_law_1229 hcs hss ?_
  refine v_aload_n hz.1 dL_law_1232 rfl 1 rfl ?_
  refine v_aload_n hz.1 dL_law_1233 rfl 3 rfl ?_
  refine v_iload_n hz.1 dL_law_1234 rfl 0 rfl ?_
  refine v_iconst hz.1 1 dL_law_1235 rfl ?_
  refine v_iadd hz.1 dL_law_1236 ?_
  refine l_sld hz hX hbl h1 dL_law_1237 ?_
  refine v_aload_n hz.1 dL_law_1238 rfl 3 rfl ?_
  refine v_iload_n hz.1 dL_law_1239 rfl 0 rfl ?_
  refine v_iconst hz.1 2 dL_law_1240 rfl ?_
  refine v_iadd hz.1 dL_law_1241 ?_
  refine l_sld hz hX hbl h2 dL_law_1242 ?_
  refine l_callM hz mv_L_126 rfl (kX10_order (n := 92) (xs (nI i + 1).toNatClampNeg) (xs (nI i + 2).toNatClampNeg) M (v, M') e2) rfl (av := [.int (xs (nI i + 1).toNatClampNeg), .int (xs (nI i + 2).toNatClampNeg)]) (rest := [.int v]) rfl rfl (Nat.le_of_ble_eq_true rfl) dL_law_1243 hcs hss ?_
  exact v_icmp_eq hz.1 dL_law_1246 (fun _ => kk X' M' R') (fun h => absurd rfl h)
set_option maxRecDepth 20000 in
set_option maxHeartbeats 4000000 in
theorem l_27 {Z : hZ} {Q : State → Prop} {cs ss L0 sb i : Nat} {xs : Nat → Int32} {X M : hMem} (hz : cOK Z cL_law RL 4 100 600000 7302250 0 ret) (hX : va_X sb L0 xs (h_s Z) (h_s Z).heap) (hbl : sb < (h_s Z).heap.size) (hL : L0 ≤ 3584) (hi : i + 7 ≤ L0) (hcs : cs ≤ 600000) (hss : ss ≤ 7302250) (R : RR X M) (kk : ∀ X' M' : hMem, RR X' M' → hB Z Q (cW Z X' M') cs ss 2111 [(3, .int (nI i)), (2, .ref (h_b Z + 88 + 0)), (1, .ref (h_b Z + 0)), (0, .ref sb)] []) : hB Z Q (cW Z X M) cs ss 1251 [(3, .int (nI i)), (2, .ref (h_b Z + 88 + 0)), (1, .ref (h_b Z + 0)), (0, .ref sb)] [] := by
  have h1 : vp_in (nI i + 1) L0 := l_in hi hL (k := 1) (by decide)
  have h2 : vp_in (nI i + 2) L0 := l_in hi hL (k := 2) (by decide)
  obtain ⟨v, X', M', e1, e2, R'⟩ := eq_gain R (xs (nI i + 1).toNatClampNeg) (xs (nI i + 2).toNatClampNeg)
  refine v_aload_n hz.1 dL_law_1251 rfl 2 rfl ?_
  refine v_aload_n hz.1 dL_law_1252 rfl 3 rfl ?_
  refine v_iload_n hz.1 dL_law_1253 rfl 0 rfl ?_
  refine v_iconst hz.1 1 dL_law_1254 rfl ?_
  refine v_iadd hz.1 dL_law_1255 ?_
  refine l_sld hz hX hbl h1 dL_law_1256 ?_
  refine v_aload_n hz.1 dL_law_1257 rfl 3 rfl ?_
  refine v_iload_n hz.1 dL_law_1258 rfl 0 rfl ?_
  refine v_iconst hz.1 2 dL_law_1259 rfl ?_
  refine v_iadd hz.1 dL_law_1260 ?_
  refine l_sld hz hX hbl h2 dL_law_1261 ?_
  refine l_callX hz mv_L_127 rfl (kX9_gain (n := 92) (xs (nI i + 1).toNatClampNeg) (xs (nI i + 2).toNatClampNeg) X (v, X') e1) rfl (av := [.int (xs (nI i + 1).toNatClampNeg), .int (xs (nI i + 2).toNatClampNeg)]) (rest := []) rfl rfl (Nat.le_of_ble_eq_true rfl) dL_law_1262 hcs hss ?_
  refine v_aload_n hz.1 dL_law_1265 rfl 1 rfl ?_
  refine v_aload_n hz.1 dL_law_1266 rfl 3 rfl ?_
  refine v_iload_n hz.1 dL_law_1267 rfl 0 rfl ?_
  refine v_iconst hz.1 1 dL_law_1268 rfl ?_
  refine v_iadd hz.1 dL_law_1269 ?_
  refine l_sld hz hX hbl h1 dL_law_1270 ?_
  refine v_aload_n hz.1 dL_law_1271 rfl 3 rfl ?_
  refine v_iload_n hz.1 dL_law_1272 rfl 0 rfl ?_
  refine v_iconst hz.1 2 dL_law_1273 rfl ?_
  refine v_iadd hz.1 dL_law_1274 ?_
  refine l_sld hz hX hbl h2 dL_law_1275 ?_
  refine l_callM hz mv_L_130 rfl (kX10_gain (n := 91) (xs (nI i + 1).toNatClampNeg) (xs (nI i + 2).toNatClampNeg) M (v, M') e2) rfl (av := [.int (xs (nI i + 1).toNatClampNeg), .int (xs (nI i + 2).toNatClampNeg)]) (rest := [.int v]) rfl rfl (Nat.le_of_ble_eq_true rfl) dL_law_1276 hcs hss ?_
  exact v_icmp_eq hz.1 dL_law_1279 (fun _ => kk X' M' R') (fun h => absurd rfl h)
set_option maxRecDepth 20000 in
set_option maxHeartbeats 4000000 in
theorem l_28 {Z : hZ} {Q : State → Prop} {cs ss L0 sb i : Nat} {xs : Nat → Int32} {X M : hMem} (hz : cOK Z cL_law RL 4 100 600000 7302250 0 ret) (hX : va_X sb L0 xs (h_s Z) (h_s Z).heap) (hbl : sb < (h_s Z).heap.size) (hL : L0 ≤ 3584) (hi : i + 7 ≤ L0) (hcs : cs ≤ 600000) (hss : ss ≤ 7302250) (R : RR X M) (kk : ∀ X' M' : hMem, RR X' M' → hB Z Q (cW Z X' M') cs ss 2111 [(3, .int (nI i)), (2, .ref (h_b Z + 88 + 0)), (1, .ref (h_b Z + 0)), (0, .ref sb)] []) : hB Z Q (cW Z X M) cs ss 1284 [(3, .int (nI i)), (2, .ref (h_b Z + 88 + 0)), (1, .ref (h_b Z + 0)), (0, .ref sb)] [] := by
  have h1 : vp_in (nI i + 1) L0 := l_in hi hL (k := 1) (by decide)
  have h2 : vp_in (nI i + 2) L0 := l_in hi hL (k := 2) (by decide)
  obtain ⟨v, X', M', e1, e2, R'⟩ := eq_whom R (xs (nI i + 1).toNatClampNeg) (xs (nI i + 2).toNatClampNeg)
  refine v_aload_n hz.1 dL_law_1284 rfl 2 rfl ?_
  refine v_aload_n hz.1 dL_law_1285 rfl 3 rfl ?_
  refine v_iload_n hz.1 dL_law_1286 rfl 0 rfl ?_
  refine v_iconst hz.1 1 dL_law_1287 rfl ?_
  refine v_iadd hz.1 dL_law_1288 ?_
  refine l_sld hz hX hbl h1 dL_law_1289 ?_
  refine v_aload_n hz.1 dL_law_1290 rfl 3 rfl ?_
  refine v_iload_n hz.1 dL_law_1291 rfl 0 rfl ?_
  refine v_iconst hz.1 2 dL_law_1292 rfl ?_
  refine v_iadd hz.1 dL_law_1293 ?_
  refine l_sld hz hX hbl h2 dL_law_1294 ?_
  refine l_callX hz mv_L_131 rfl (kX9_whom (n := 92) (xs (nI i + 1).toNatClampNeg) (xs (nI i + 2).toNatClampNeg) X (v, X') e1) rfl (av := [.int (xs (nI i + 1).toNatClampNeg), .int (xs (nI i + 2).toNatClampNeg)]) (rest := []) rfl rfl (Nat.le_of_ble_eq_true rfl) dL_law_1295 hcs hss ?_
  refine v_aload_n hz.1 dL_law_1298 rfl 1 rfl ?_
  refine v_aload_n hz.1 dL_law_1299 rfl 3 rfl ?_
  refine v_iload_n hz.1 dL_law_1300 rfl 0 rfl ?_
  refine v_iconst hz.1 1 dL_law_1301 rfl ?_
  refine v_iadd hz.1 dL_law_1302 ?_
  refine l_sld hz hX hbl h1 dL_law_1303 ?_
  refine v_aload_n hz.1 dL_law_1304 rfl 3 rfl ?_
  refine v_iload_n hz.1 dL_law_1305 rfl 0 rfl ?_
  refine v_iconst hz.1 2 dL_law_1306 rfl ?_
  refine v_iadd hz.1 dL_law_1307 ?_
  refine l_sld hz hX hbl h2 dL_law_1308 ?_
  refine l_callM hz mv_L_134 rfl (kX10_whom (n := 91) (xs (nI i + 1).toNatClampNeg) (xs (nI i + 2).toNatClampNeg) M (v, M') e2) rfl (av := [.int (xs (nI i + 1).toNatClampNeg), .int (xs (nI i + 2).toNatClampNeg)]) (rest := [.int v]) rfl rfl (Nat.le_of_ble_eq_true rfl) dL_law_1309 hcs hss ?_
  exact v_icmp_eq hz.1 dL_law_1312 (fun _ => kk X' M' R') (fun h => absurd rfl h)
set_option maxRecDepth 20000 in
set_option maxHeartbeats 4000000 in
theorem l_29 {Z : hZ} {Q : State → Prop} {cs ss L0 sb i : Nat} {xs : Nat → Int32} {X M : hMem} (hz : cOK Z cL_law RL 4 100 600000 7302250 0 ret) (hX : va_X sb L0 xs (h_s Z) (h_s Z).heap) (hbl : sb < (h_s Z).heap.size) (hL : L0 ≤ 3584) (hi : i + 7 ≤ L0) (hcs : cs ≤ 600000) (hss : ss ≤ 7302250) (R : RR X M) (kk : ∀ X' M' : hMem, RR X' M' → hB Z Q (cW Z X' M') cs ss 2111 [(3, .int (nI i)), (2, .ref (h_b Z + 88 + 0)), (1, .ref (h_b Z + 0)), (0, .ref sb)] []) : hB Z Q (cW Z X M) cs ss 1317 [(3, .int (nI i)), (2, .ref (h_b Z + 88 + 0)), (1, .ref (h_b Z + 0)), (0, .ref sb)] [] := by
  have h1 : vp_in (nI i + 1) L0 := l_in hi hL (k := 1) (by decide)
  have h2 : vp_in (nI i + 2) L0 := l_in hi hL (k := 2) (by decide)
  obtain ⟨v, X', M', e1, e2, R'⟩ := eq_run R (xs (nI i + 1).toNatClampNeg) (xs (nI i + 2).toNatClampNeg)
  refine v_aload_n hz.1 dL_law_1317 rfl 2 rfl ?_
  refine v_aload_n hz.1 dL_law_1318 rfl 3 rfl ?_
  refine v_iload_n hz.1 dL_law_1319 rfl 0 rfl ?_
  refine v_iconst hz.1 1 dL_law_1320 rfl ?_
  refine v_iadd hz.1 dL_law_1321 ?_
  refine l_sld hz hX hbl h1 dL_law_1322 ?_
  refine v_aload_n hz.1 dL_law_1323 rfl 3 rfl ?_
  refine v_iload_n hz.1 dL_law_1324 rfl 0 rfl ?_
  refine v_iconst hz.1 2 dL_law_1325 rfl ?_
  refine v_iadd hz.1 dL_law_1326 ?_
  refine l_sld hz hX hbl h2 dL_law_1327 ?_
  refine l_callX hz mv_L_135 rfl (kX9_run (n := 92) (xs (nI i + 1).toNatClampNeg) (xs (nI i + 2).toNatClampNeg) X (v, X') e1) rfl (av := [.int (xs (nI i + 1).toNatClampNeg), .int (xs (nI i + 2).toNatClampNeg)]) (rest := []) rfl rfl (Nat.le_of_ble_eq_true rfl) dL_law_1328 hcs hss ?_
  refine v_aload_n hz.1 dL_law_1331 rfl 1 rfl ?_
  refine v_aload_n hz.1 dL_law_1332 rfl 3 rfl ?_
  refine v_iload_n hz.1 dL_law_1333 rfl 0 rfl ?_
  refine v_iconst hz.1 1 dL_law_1334 rfl ?_
  refine v_iadd hz.1 dL_law_1335 ?_
  refine l_sld hz hX hbl h1 dL_law_1336 ?_
  refine v_aload_n hz.1 dL_law_1337 rfl 3 rfl ?_
  refine v_iload_n hz.1 dL_law_1338 rfl 0 rfl ?_
  refine v_iconst hz.1 2 dL_law_1339 rfl ?_
  refine v_iadd hz.1 dL_law_1340 ?_
  refine l_sld hz hX hbl h2 dL_law_1341 ?_
  refine l_callM hz mv_L_138 rfl (kX10_run (n := 92) (xs (nI i + 1).toNatClampNeg) (xs (nI i + 2).toNatClampNeg) M (v, M') e2) rfl (av := [.int (xs (nI i + 1).toNatClampNeg), .int (xs (nI i + 2).toNatClampNeg)]) (rest := [.int v]) rfl rfl (Nat.le_of_ble_eq_true rfl) dL_law_1342 hcs hss ?_
  exact v_icmp_eq hz.1 dL_law_1345 (fun _ => kk X' M' R') (fun h => absurd rfl h)
set_option maxRecDepth 20000 in
set_option maxHeartbeats 4000000 in
theorem l_30 {Z : hZ} {Q : State → Prop} {cs ss L0 sb i : Nat} {xs : Nat → Int32} {X M : hMem} (hz : cOK Z cL_law RL 4 100 600000 7302250 0 ret) (hX : va_X sb L0 xs (h_s Z) (h_s Z).heap) (hbl : sb < (h_s Z).heap.size) (hL : L0 ≤ 3584) (hi : i + 7 ≤ L0) (hcs : cs ≤ 600000) (hss : ss ≤ 7302250) (R : RR X M) (kk : ∀ X' M' : hMem, RR X' M' → hB Z Q (cW Z X' M') cs ss 2111 [(3, .int (nI i)), (2, .ref (h_b Z + 88 + 0)), (1, .ref (h_b Z + 0)), (0, .ref sb)] []) : hB Z Q (cW Z X M) cs ss 1350 [(3, .int (nI i)), (2, .ref (h_b Z + 88 + 0)), (1, .ref (h_b Z + 0)), (0, .ref sb)] [] := by
  have h1 : vp_in (nI i + 1) L0 := l_in hi hL (k := 1) (by decide)
  have h2 : vp_in (nI i + 2) L0 := l_in hi hL (k := 2) (by decide)
  have h3 : vp_in (nI i + 3) L0 := l_in hi hL (k := 3) (by decide)
  obtain ⟨v, X', M', e1, e2, R'⟩ := eq_held R (xs (nI i + 1).toNatClampNeg) (xs (nI i + 2).toNatClampNeg) (xs (nI i + 3).toNatClampNeg)
  refine v_aload_n hz.1 dL_law_1350 rfl 2 rfl ?_
  refine v_aload_n hz.1 dL_law_1351 rfl 3 rfl ?_
  refine v_iload_n hz.1 dL_law_1352 rfl 0 rfl ?_
  refine v_iconst hz.1 1 dL_law_1353 rfl ?_
  refine v_iadd hz.1 dL_law_1354 ?_
  refine l_sld hz hX hbl h1 dL_law_1355 ?_
  refine v_aload_n hz.1 dL_law_1356 rfl 3 rfl ?_
  refine v_iload_n hz.1 dL_law_1357 rfl 0 rfl ?_
  refine v_iconst hz.1 2 dL_law_1358 rfl ?_
  refine v_iadd hz.1 dL_law_1359 ?_
  refine l_sld hz hX hbl h2 dL_law_1360 ?_
  refine v_aload_n hz.1 dL_law_1361 rfl 3 rfl ?_
  refine v_iload_n hz.1 dL_law_1362 rfl 0 rfl ?_
  refine v_iconst hz.1 3 dL_law_1363 rfl ?_
  refine v_iadd hz.1 dL_law_1364 ?_
  refine l_sld hz hX hbl h3 dL_law_1365 ?_
  refine l_callX hz mv_L_139 rfl (kX9_held (n := 94) (xs (nI i + 1).toNatClampNeg) (xs (nI i + 2).toNatClampNeg) (xs (nI i + 3).toNatClampNeg) X (v, X') e1) rfl (av := [.int (xs (nI i + 1).toNatClampNeg), .int (xs (nI i + 2).toNatClampNeg), .int (xs (nI i + 3).toNatClampNeg)]) (rest := []) rfl rfl (Nat.le_of_ble_eq_true rfl) dL_law_1366 hcs hss ?_
  refine v_aload_n hz.1 dL_law_1369 rfl 1 rfl ?_
  refine v_aload_n hz.1 dL_law_1370 rfl 3 rfl ?_
  refine v_iload_n hz.1 dL_law_1371 rfl 0 rfl ?_
  refine v_iconst hz.1 1 dL_law_1372 rfl ?_
  refine v_iadd hz.1 dL_law_1373 ?_
  refine l_sld hz hX hbl h1 dL_law_1374 ?_
  refine v_aload_n hz.1 dL_law_1375 rfl 3 rfl ?_
  refine v_iload_n hz.1 dL_law_1376 rfl 0 rfl ?_
  refine v_iconst hz.1 2 dL_law_1377 rfl ?_
  refine v_iadd hz.1 dL_law_1378 ?_
  refine l_sld hz hX hbl h2 dL_law_1379 ?_
  refine v_aload_n hz.1 dL_law_1380 rfl 3 rfl ?_
  refine v_iload_n hz.1 dL_law_1381 rfl 0 rfl ?_
  refine v_iconst hz.1 3 dL_law_1382 rfl ?_
  refine v_iadd hz.1 dL_law_1383 ?_
  refine l_sld hz hX hbl h3 dL_law_1384 ?_
  refine l_callM hz mv_L_142 rfl (kX10_held (n := 92) (xs (nI i + 1).toNatClampNeg) (xs (nI i + 2).toNatClampNeg) (xs (nI i + 3).toNatClampNeg) M (v, M') e2) rfl (av := [.int (xs (nI i + 1).toNatClampNeg), .int (xs (nI i + 2).toNatClampNeg), .int (xs (nI i + 3).toNatClampNeg)]) (rest := [.int v]) rfl rfl (Nat.le_of_ble_eq_true rfl) dL_law_1385 hcs hss ?_
  exact v_icmp_eq hz.1 dL_law_1388 (fun _ => kk X' M' R') (fun h => absurd rfl h)
set_option maxRecDepth 20000 in
set_option maxHeartbeats 4000000 in
theorem l_31 {Z : hZ} {Q : State → Prop} {cs ss L0 sb i : Nat} {xs : Nat → Int32} {X M : hMem} (hz : cOK Z cL_law RL 4 100 600000 7302250 0 ret) (hX : va_X sb L0 xs (h_s Z) (h_s Z).heap) (hbl : sb < (h_s Z).heap.size) (hL : L0 ≤ 3584) (hi : i + 7 ≤ L0) (hcs : cs ≤ 600000) (hss : ss ≤ 7302250) (R : RR X M) (kk : ∀ X' M' : hMem, RR X' M' → hB Z Q (cW Z X' M') cs ss 2111 [(3, .int (nI i)), (2, .ref (h_b Z + 88 + 0)), (1, .ref (h_b Z + 0)), (0, .ref sb)] []) : hB Z Q (cW Z X M) cs ss 1393 [(3, .int (nI i)), (2, .ref (h_b Z + 88 + 0)), (1, .ref (h_b Z + 0)), (0, .ref sb)] [] := by
  have h1 : vp_in (nI i + 1) L0 := l_in hi hL (k := 1) (by decide)
  obtain ⟨v, X', M', e1, e2, R'⟩ := eq_save R (xs (nI i + 1).toNatClampNeg)
  refine v_aload_n hz.1 dL_law_1393 rfl 2 rfl ?_
  refine v_aload_n hz.1 dL_law_1394 rfl 3 rfl ?_
  refine v_iload_n hz.1 dL_law_1395 rfl 0 rfl ?_
  refine v_iconst hz.1 1 dL_law_1396 rfl ?_
  refine v_iadd hz.1 dL_law_1397 ?_
  refine l_sld hz hX hbl h1 dL_law_1398 ?_
  refine l_callX hz mv_L_143 rfl (kX9_save (n := 94) (xs (nI i + 1).toNatClampNeg) X (v, X') e1) rfl (av := [.int (xs (nI i + 1).toNatClampNeg)]) (rest := []) rfl rfl (Nat.le_of_ble_eq_true rfl) dL_law_1399 hcs hss ?_
  refine v_aload_n hz.1 dL_law_1402 rfl 1 rfl ?_
  refine v_aload_n hz.1 dL_law_1403 rfl 3 rfl ?_
  refine v_iload_n hz.1 dL_law_1404 rfl 0 rfl ?_
  refine v_iconst hz.1 1 dL_law_1405 rfl ?_
  refine v_iadd hz.1 dL_law_1406 ?_
  refine l_sld hz hX hbl h1 dL_law_1407 ?_
  refine l_callM hz mv_L_146 rfl (kX10_save (n := 92) (xs (nI i + 1).toNatClampNeg) M (v, M') e2) rfl (av := [.int (xs (nI i + 1).toNatClampNeg)]) (rest := [.int v]) rfl rfl (Nat.le_of_ble_eq_true rfl) dL_law_1408 hcs hss ?_
  exact v_icmp_eq hz.1 dL_law_1411 (fun _ => kk X' M' R') (fun h => absurd rfl h)
set_option maxRecDepth 20000 in
set_option maxHeartbeats 4000000 in
theorem l_32 {Z : hZ} {Q : State → Prop} {cs ss L0 sb i : Nat} {xs : Nat → Int32} {X M : hMem} (hz : cOK Z cL_law RL 4 100 600000 7302250 0 ret) (hX : va_X sb L0 xs (h_s Z) (h_s Z).heap) (hbl : sb < (h_s Z).heap.size) (hL : L0 ≤ 3584) (hi : i + 7 ≤ L0) (hcs : cs ≤ 600000) (hss : ss ≤ 7302250) (R : RR X M) (kk : ∀ X' M' : hMem, RR X' M' → hB Z Q (cW Z X' M') cs ss 2111 [(3, .int (nI i)), (2, .ref (h_b Z + 88 + 0)), (1, .ref (h_b Z + 0)), (0, .ref sb)] []) : hB Z Q (cW Z X M) cs ss 1416 [(3, .int (nI i)), (2, .ref (h_b Z + 88 + 0)), (1, .ref (h_b Z + 0)), (0, .ref sb)] [] := by
  have h1 : vp_in (nI i + 1) L0 := l_in hi hL (k := 1) (by decide)
  have h2 : vp_in (nI i + 2) L0 := l_in hi hL (k := 2) (by decide)
  have h3 : vp_in (nI i + 3) L0 := l_in hi hL (k := 3) (by decide)
  obtain ⟨v, X', M', e1, e2, R'⟩ := eq_turned R (xs (nI i + 1).toNatClampNeg) (xs (nI i + 2).toNatClampNeg) (xs (nI i + 3).toNatClampNeg)
  refine v_aload_n hz.1 dL_law_1416 rfl 2 rfl ?_
  refine v_aload_n hz.1 dL_law_1417 rfl 3 rfl ?_
  refine v_iload_n hz.1 dL_law_1418 rfl 0 rfl ?_
  refine v_iconst hz.1 1 dL_law_1419 rfl ?_
  refine v_iadd hz.1 dL_law_1420 ?_
  refine l_sld hz hX hbl h1 dL_law_1421 ?_
  refine v_aload_n hz.1 dL_law_1422 rfl 3 rfl ?_
  refine v_iload_n hz.1 dL_law_1423 rfl 0 rfl ?_
  refine v_iconst hz.1 2 dL_law_1424 rfl ?_
  refine v_iadd hz.1 dL_law_1425 ?_
  refine l_sld hz hX hbl h2 dL_law_1426 ?_
  refine v_aload_n hz.1 dL_law_1427 rfl 3 rfl ?_
  refine v_iload_n hz.1 dL_law_1428 rfl 0 rfl ?_
  refine v_iconst hz.1 3 dL_law_1429 rfl ?_
  refine v_iadd hz.1 dL_law_1430 ?_
  refine l_sld hz hX hbl h3 dL_law_1431 ?_
  refine l_callX hz mv_L_147 rfl (kX9_turned (n := 94) (xs (nI i + 1).toNatClampNeg) (xs (nI i + 2).toNatClampNeg) (xs (nI i + 3).toNatClampNeg) X (v, X') e1) rfl (av := [.int (xs (nI i + 1).toNatClampNeg), .int (xs (nI i + 2).toNatClampNeg), .int (xs (nI i + 3).toNatClampNeg)]) (rest := []) rfl rfl (Nat.le_of_ble_eq_true rfl) dL_law_1432 hcs hss ?_
  refine v_aload_n hz.1 dL_law_1435 rfl 1 rfl ?_
  refine v_aload_n hz.1 dL_law_1436 rfl 3 rfl ?_
  refine v_iload_n hz.1 dL_law_1437 rfl 0 rfl ?_
  refine v_iconst hz.1 1 dL_law_1438 rfl ?_
  refine v_iadd hz.1 dL_law_1439 ?_
  refine l_sld hz hX hbl h1 dL_law_1440 ?_
  refine v_aload_n hz.1 dL_law_1441 rfl 3 rfl ?_
  refine v_iload_n hz.1 dL_law_1442 rfl 0 rfl ?_
  refine v_iconst hz.1 2 dL_law_1443 rfl ?_
  refine v_iadd hz.1 dL_law_1444 ?_
  refine l_sld hz hX hbl h2 dL_law_1445 ?_
  refine v_aload_n hz.1 dL_law_1446 rfl 3 rfl ?_
  refine v_iload_n hz.1 dL_law_1447 rfl 0 rfl ?_
  refine v_iconst hz.1 3 dL_law_1448 rfl ?_
  refine v_iadd hz.1 dL_law_1449 ?_
  refine l_sld hz hX hbl h3 dL_law_1450 ?_
  refine l_callM hz mv_L_150 rfl (kX10_turned (n := 93) (xs (nI i + 1).toNatClampNeg) (xs (nI i + 2).toNatClampNeg) (xs (nI i + 3).toNatClampNeg) M (v, M') e2) rfl (av := [.int (xs (nI i + 1).toNatClampNeg), .int (xs (nI i + 2).toNatClampNeg), .int (xs (nI i + 3).toNatClampNeg)]) (rest := [.int v]) rfl rfl (Nat.le_of_ble_eq_true rfl) dL_law_1451 hcs hss ?_
  exact v_icmp_eq hz.1 dL_law_1454 (fun _ => kk X' M' R') (fun h => absurd rfl h)
set_option maxRecDepth 20000 in
set_option maxHeartbeats 4000000 in
theorem l_33 {Z : hZ} {Q : State → Prop} {cs ss L0 sb i : Nat} {xs : Nat → Int32} {X M : hMem} (hz : cOK Z cL_law RL 4 100 600000 7302250 0 ret) (hX : va_X sb L0 xs (h_s Z) (h_s Z).heap) (hbl : sb < (h_s Z).heap.size) (hL : L0 ≤ 3584) (hi : i + 7 ≤ L0) (hcs : cs ≤ 600000) (hss : ss ≤ 7302250) (R : RR X M) (kk : ∀ X' M' : hMem, RR X' M' → hB Z Q (cW Z X' M') cs ss 2111 [(3, .int (nI i)), (2, .ref (h_b Z + 88 + 0)), (1, .ref (h_b Z + 0)), (0, .ref sb)] []) : hB Z Q (cW Z X M) cs ss 1459 [(3, .int (nI i)), (2, .ref (h_b Z + 88 + 0)), (1, .ref (h_b Z + 0)), (0, .ref sb)] [] := by
  have h1 : vp_in (nI i + 1) L0 := l_in hi hL (k := 1) (by decide)
  have h2 : vp_in (nI i + 2) L0 := l_in hi hL (k := 2) (by decide)
  have h3 : vp_in (nI i + 3) L0 := l_in hi hL (k := 3) (by decide)
  obtain ⟨v, X', M', e1, e2, R'⟩ := eq_lull R (xs (nI i + 1).toNatClampNeg) (xs (nI i + 2).toNatClampNeg) (xs (nI i + 3).toNatClampNeg)
  refine v_aload_n hz.1 dL_law_1459 rfl 2 rfl ?_
  refine v_aload_n hz.1 dL_law_1460 rfl 3 rfl ?_
  refine v_iload_n hz.1 dL_law_1461 rfl 0 rfl ?_
  refine v_iconst hz.1 1 dL_law_1462 rfl ?_
  refine v_iadd hz.1 dL_law_1463 ?_
  refine l_sld hz hX hbl h1 dL_law_1464 ?_
  refine v_aload_n hz.1 dL_law_1465 rfl 3 rfl ?_
  refine v_iload_n hz.1 dL_law_1466 rfl 0 rfl ?_
  refine v_iconst hz.1 2 dL_law_1467 rfl ?_
  refine v_iadd hz.1 dL_law_1468 ?_
  refine l_sld hz hX hbl h2 dL_law_1469 ?_
  refine v_aload_n hz.1 dL_law_1470 rfl 3 rfl ?_
  refine v_iload_n hz.1 dL_law_1471 rfl 0 rfl ?_
  refine v_iconst hz.1 3 dL_law_1472 rfl ?_
  refine v_iadd hz.1 dL_law_1473 ?_
  refine l_sld hz hX hbl h3 dL_law_1474 ?_
  refine l_callX hz mv_L_151 rfl (kX9_lull (n := 92) (xs (nI i + 1).toNatClampNeg) (xs (nI i + 2).toNatClampNeg) (xs (nI i + 3).toNatClampNeg) X (v, X') e1) rfl (av := [.int (xs (nI i + 1).toNatClampNeg), .int (xs (nI i + 2).toNatClampNeg), .int (xs (nI i + 3).toNatClampNeg)]) (rest := []) rfl rfl (Nat.le_of_ble_eq_true rfl) dL_law_1475 hcs hss ?_
  refine v_aload_n hz.1 dL_law_1478 rfl 1 rfl ?_
  refine v_aload_n hz.1 dL_law_1479 rfl 3 rfl ?_
  refine v_iload_n hz.1 dL_law_1480 rfl 0 rfl ?_
  refine v_iconst hz.1 1 dL_law_1481 rfl ?_
  refine v_iadd hz.1 dL_law_1482 ?_
  refine l_sld hz hX hbl h1 dL_law_1483 ?_
  refine v_aload_n hz.1 dL_law_1484 rfl 3 rfl ?_
  refine v_iload_n hz.1 dL_law_1485 rfl 0 rfl ?_
  refine v_iconst hz.1 2 dL_law_1486 rfl ?_
  refine v_iadd hz.1 dL_law_1487 ?_
  refine l_sld hz hX hbl h2 dL_law_1488 ?_
  refine v_aload_n hz.1 dL_law_1489 rfl 3 rfl ?_
  refine v_iload_n hz.1 dL_law_1490 rfl 0 rfl ?_
  refine v_iconst hz.1 3 dL_law_1491 rfl ?_
  refine v_iadd hz.1 dL_law_1492 ?_
  refine l_sld hz hX hbl h3 dL_law_1493 ?_
  refine l_callM hz mv_L_154 rfl (kX10_lull (n := 92) (xs (nI i + 1).toNatClampNeg) (xs (nI i + 2).toNatClampNeg) (xs (nI i + 3).toNatClampNeg) M (v, M') e2) rfl (av := [.int (xs (nI i + 1).toNatClampNeg), .int (xs (nI i + 2).toNatClampNeg), .int (xs (nI i + 3).toNatClampNeg)]) (rest := [.int v]) rfl rfl (Nat.le_of_ble_eq_true rfl) dL_law_1494 hcs hss ?_
  exact v_icmp_eq hz.1 dL_law_1497 (fun _ => kk X' M' R') (fun h => absurd rfl h)
