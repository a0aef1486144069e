def WM2 : List Int32 := [4, 4, 4, 4, 4, 4, 4, 4, 4, 4, 4, 4, 4, 4, 4, 4, 4, 4, 4, 4, 4, 4, 4, 4]
def WM13 : List Int32 := [-1, -1, -1, -1]
def WM16 : List Int32 := [103, 111, 101, 115, 32, 115, 116, 114, 101, 110, 103, 116, 104, 32, 59, 32, 116, 117, 114, 110, 115, 32, 49, 32, 59, 32, 119, 111, 114, 116, 104, 32, 51, 48, 32, 45, 32, 115, 101, 99, 111, 110, 100, 32, 59]
def WM17 : List Int32 := [103, 111, 101, 115, 32, 32, 32, 32, 116, 117, 114, 110, 115, 32, 32, 32, 119, 111, 114, 116, 104, 32, 32, 32, 115, 116, 114, 101, 110, 103, 116, 104, 108, 105, 101, 32, 32, 32, 32, 32, 109, 111, 114, 101, 32, 32, 32, 32, 115, 101, 99, 111, 110, 100, 32, 32, 99, 101, 108, 108, 32, 32, 32, 32, 107, 105, 110, 100, 32, 32, 32, 32, 111, 114, 32, 32, 32, 32, 32, 32, 97, 110, 100, 32, 32, 32, 32, 32, 110, 111, 116, 32, 32, 32, 32, 32]
def MMo : hMem := (MAi (MAi (MAi (MAi cM0 2 WM2 24) 13 WM13 4) 16 WM16 45) 17 WM17 96)
set_option maxRecDepth 20000 in
set_option maxHeartbeats 4000000 in
theorem w_X10_0 {Z : hZ} {Q : State → Prop} (hz : cOK Z cX10_init RX10 2 99 25 2465 1 none) (hi : Z.2.2.1.2.2.2.1.name = "<init>") (kk : hB Z Q (cI Z (hYm.1, (rfM 14), 14) (MAi (MAi cM0 2 WM2 24) 13 WM13 4)) 13 1546 234 [(0, .ref (h_b Z + 0))] []) : hB Z Q (cI Z (hYm.1, (rfM 1), 1) cM0) 0 0 0 [(0, .ref (h_b Z + 0))] [] := by
  refine v_aload_n hz.1 dX10_init_0 rfl 0 rfl ?_
  refine c_obj hz ob_X10_1 ob_in ob_co (by omega) (by decide) dX10_init_1 ?_
  refine v_aload_n hz.1 dX10_init_4 rfl 0 rfl ?_
  refine v_iconst hz.1 3 dX10_init_5 rfl ?_
  refine c_newiN (N' := 2) (cs' := 1) (ss' := 3) hz 3 ac_int rfl (by decide) rfl (by decide) ((cM0_z).mono (m := 1) rfl) rfl (by decide) (by decide) (by decide) dX10_init_6 rfl rfl rfl ?_
  refine c_putr hz hi ⟨Nat.le_of_ble_eq_true rfl, rfl⟩ ff_X10_7 rfl (by decide) rfl rfl dX10_init_8 ?_
  refine c_rf (rf' := (rfM 2)) (by decide +kernel) ?_
  refine v_aload_n hz.1 dX10_init_11 rfl 0 rfl ?_
  refine v_bipush hz.1 24 dX10_init_12 rfl ?_
  refine c_newiN (N' := 3) (cs' := 2) (ss' := 27) hz 24 ac_int rfl (by decide) rfl (by decide) ((cM0_z).mono (m := 2) rfl) rfl (by decide) (by decide) (by decide) dX10_init_14 rfl rfl rfl ?_
  refine v_dup hz.1 dX10_init_16 rfl ?_
  refine v_iconst hz.1 0 dX10_init_17 rfl ?_
  refine v_iconst hz.1 4 dX10_init_18 rfl ?_
  refine c_m0 (MAi_0 cM0 2 WM2) ?_
  refine c_iastA hz WM2 0 ⟨Nat.le_of_ble_eq_true rfl, rfl⟩ (by decide) rfl rfl (a' := 1) rfl dX10_init_19 ?_
  refine v_dup hz.1 dX10_init_20 rfl ?_
  refine v_iconst hz.1 1 dX10_init_21 rfl ?_
  refine v_iconst hz.1 4 dX10_init_22 rfl ?_
  refine c_iastA hz WM2 1 ⟨Nat.le_of_ble_eq_true rfl, rfl⟩ (by decide) rfl rfl (a' := 2) rfl dX10_init_23 ?_
  refine v_dup hz.1 dX10_init_24 rfl ?_
  refine v_iconst hz.1 2 dX10_init_25 rfl ?_
  refine v_iconst hz.1 4 dX10_init_26 rfl ?_
  refine c_iastA hz WM2 2 ⟨Nat.le_of_ble_eq_true rfl, rfl⟩ (by decide) rfl rfl (a' := 3) rfl dX10_init_27 ?_
  refine v_dup hz.1 dX10_init_28 rfl ?_
  refine v_iconst hz.1 3 dX10_init_29 rfl ?_
  refine v_iconst hz.1 4 dX10_init_30 rfl ?_
  refine c_iastA hz WM2 3 ⟨Nat.le_of_ble_eq_true rfl, rfl⟩ (by decide) rfl rfl (a' := 4) rfl dX10_init_31 ?_
  refine v_dup hz.1 dX10_init_32 rfl ?_
  refine v_iconst hz.1 4 dX10_init_33 rfl ?_
  refine v_iconst hz.1 4 dX10_init_34 rfl ?_
  refine c_iastA hz WM2 4 ⟨Nat.le_of_ble_eq_true rfl, rfl⟩ (by decide) rfl rfl (a' := 5) rfl dX10_init_35 ?_
  refine v_dup hz.1 dX10_init_36 rfl ?_
  refine v_iconst hz.1 5 dX10_init_37 rfl ?_
  refine v_iconst hz.1 4 dX10_init_38 rfl ?_
  refine c_iastA hz WM2 5 ⟨Nat.le_of_ble_eq_true rfl, rfl⟩ (by decide) rfl rfl (a' := 6) rfl dX10_init_39 ?_
  refine v_dup hz.1 dX10_init_40 rfl ?_
  refine v_bipush hz.1 6 dX10_init_41 rfl ?_
  refine v_iconst hz.1 4 dX10_init_43 rfl ?_
  refine c_iastA hz WM2 6 ⟨Nat.le_of_ble_eq_true rfl, rfl⟩ (by decide) rfl rfl (a' := 7) rfl dX10_init_44 ?_
  refine v_dup hz.1 dX10_init_45 rfl ?_
  refine v_bipush hz.1 7 dX10_init_46 rfl ?_
  refine v_iconst hz.1 4 dX10_init_48 rfl ?_
  refine c_iastA hz WM2 7 ⟨Nat.le_of_ble_eq_true rfl, rfl⟩ (by decide) rfl rfl (a' := 8) rfl dX10_init_49 ?_
  refine v_dup hz.1 dX10_init_50 rfl ?_
  refine v_bipush hz.1 8 dX10_init_51 rfl ?_
  refine v_iconst hz.1 4 dX10_init_53 rfl ?_
  refine c_iastA hz WM2 8 ⟨Nat.le_of_ble_eq_true rfl, rfl⟩ (by decide) rfl rfl (a' := 9) rfl dX10_init_54 ?_
  refine v_dup hz.1 dX10_init_55 rfl ?_
  refine v_bipush hz.1 9 dX10_init_56 rfl ?_
  refine v_iconst hz.1 4 dX10_init_58 rfl ?_
  refine c_iastA hz WM2 9 ⟨Nat.le_of_ble_eq_true rfl, rfl⟩ (by decide) rfl rfl (a' := 10) rfl dX10_init_59 ?_
  refine v_dup hz.1 dX10_init_60 rfl ?_
  refine v_bipush hz.1 10 dX10_init_61 rfl ?_
  refine v_iconst hz.1 4 dX10_init_63 rfl ?_
  refine c_iastA hz WM2 10 ⟨Nat.le_of_ble_eq_true rfl, rfl⟩ (by decide) rfl rfl (a' := 11) rfl dX10_init_64 ?_
  refine v_dup hz.1 dX10_init_65 rfl ?_
  refine v_bipush hz.1 11 dX10_init_66 rfl ?_
  refine v_iconst hz.1 4 dX10_init_68 rfl ?_
  refine c_iastA hz WM2 11 ⟨Nat.le_of_ble_eq_true rfl, rfl⟩ (by decide) rfl rfl (a' := 12) rfl dX10_init_69 ?_
  refine v_dup hz.1 dX10_init_70 rfl ?_
  refine v_bipush hz.1 12 dX10_init_71 rfl ?_
  refine v_iconst hz.1 4 dX10_init_73 rfl ?_
  refine c_iastA hz WM2 12 ⟨Nat.le_of_ble_eq_true rfl, rfl⟩ (by decide) rfl rfl (a' := 13) rfl dX10_init_74 ?_
  refine v_dup hz.1 dX10_init_75 rfl ?_
  refine v_bipush hz.1 13 dX10_init_76 rfl ?_
  refine v_iconst hz.1 4 dX10_init_78 rfl ?_
  refine c_iastA hz WM2 13 ⟨Nat.le_of_ble_eq_true rfl, rfl⟩ (by decide) rfl rfl (a' := 14) rfl dX10_init_79 ?_
  refine v_dup hz.1 dX10_init_80 rfl ?_
  refine v_bipush hz.1 14 dX10_init_81 rfl ?_
  refine v_iconst hz.1 4 dX10_init_83 rfl ?_
  refine c_iastA hz WM2 14 ⟨Nat.le_of_ble_eq_true rfl, rfl⟩ (by decide) rfl rfl (a' := 15) rfl dX10_init_84 ?_
  refine v_dup hz.1 dX10_init_85 rfl ?_
  refine v_bipush hz.1 15 dX10_init_86 rfl ?_
  refine v_iconst hz.1 4 dX10_init_88 rfl ?_
  refine c_iastA hz WM2 15 ⟨Nat.le_of_ble_eq_true rfl, rfl⟩ (by decide) rfl rfl (a' := 16) rfl dX10_init_89 ?_
  refine v_dup hz.1 dX10_init_90 rfl ?_
  refine v_bipush hz.1 16 dX10_init_91 rfl ?_
  refine v_iconst hz.1 4 dX10_init_93 rfl ?_
  refine c_iastA hz WM2 16 ⟨Nat.le_of_ble_eq_true rfl, rfl⟩ (by decide) rfl rfl (a' := 17) rfl dX10_init_94 ?_
  refine v_dup hz.1 dX10_init_95 rfl ?_
  refine v_bipush hz.1 17 dX10_init_96 rfl ?_
  refine v_iconst hz.1 4 dX10_init_98 rfl ?_
  refine c_iastA hz WM2 17 ⟨Nat.le_of_ble_eq_true rfl, rfl⟩ (by decide) rfl rfl (a' := 18) rfl dX10_init_99 ?_
  refine v_dup hz.1 dX10_init_100 rfl ?_
  refine v_bipush hz.1 18 dX10_init_101 rfl ?_
  refine v_iconst hz.1 4 dX10_init_103 rfl ?_
  refine c_iastA hz WM2 18 ⟨Nat.le_of_ble_eq_true rfl, rfl⟩ (by decide) rfl rfl (a' := 19) rfl dX10_init_104 ?_
  refine v_dup hz.1 dX10_init_105 rfl ?_
  refine v_bipush hz.1 19 dX10_init_106 rfl ?_
  refine v_iconst hz.1 4 dX10_init_108 rfl ?_
  refine c_iastA hz WM2 19 ⟨Nat.le_of_ble_eq_true rfl, rfl⟩ (by decide) rfl rfl (a' := 20) rfl dX10_init_109 ?_
  refine v_dup hz.1 dX10_init_110 rfl ?_
  refine v_bipush hz.1 20 dX10_init_111 rfl ?_
  refine v_iconst hz.1 4 dX10_init_113 rfl ?_
  refine c_iastA hz WM2 20 ⟨Nat.le_of_ble_eq_true rfl, rfl⟩ (by decide) rfl rfl (a' := 21) rfl dX10_init_114 ?_
  refine v_dup hz.1 dX10_init_115 rfl ?_
  refine v_bipush hz.1 21 dX10_init_116 rfl ?_
  refine v_iconst hz.1 4 dX10_init_118 rfl ?_
  refine c_iastA hz WM2 21 ⟨Nat.le_of_ble_eq_true rfl, rfl⟩ (by decide) rfl rfl (a' := 22) rfl dX10_init_119 ?_
  refine v_dup hz.1 dX10_init_120 rfl ?_
  refine v_bipush hz.1 22 dX10_init_121 rfl ?_
  refine v_iconst hz.1 4 dX10_init_123 rfl ?_
  refine c_iastA hz WM2 22 ⟨Nat.le_of_ble_eq_true rfl, rfl⟩ (by decide) rfl rfl (a' := 23) rfl dX10_init_124 ?_
  refine v_dup hz.1 dX10_init_125 rfl ?_
  refine v_bipush hz.1 23 dX10_init_126 rfl ?_
  refine v_iconst hz.1 4 dX10_init_128 rfl ?_
  refine c_iastA hz WM2 23 ⟨Nat.le_of_ble_eq_true rfl, rfl⟩ (by decide) rfl rfl (a' := 24) rfl dX10_init_129 ?_
  refine c_putr hz hi ⟨Nat.le_of_ble_eq_true rfl, rfl⟩ ff_X10_13 rfl (by decide) rfl rfl dX10_init_130 ?_
  refine c_rf (rf' := (rfM 3)) (by decide +kernel) ?_
  refine v_aload_n hz.1 dX10_init_133 rfl 0 rfl ?_
  refine v_bipush hz.1 24 dX10_init_134 rfl ?_
  refine c_newiN (N' := 4) (cs' := 3) (ss' := 51) hz 24 ac_int rfl (by decide) rfl (by decide) (((cM0_z).mono (m := 3) rfl).ma rfl) rfl (by decide) (by decide) (by decide) dX10_init_136 rfl rfl rfl ?_
  refine c_putr hz hi ⟨Nat.le_of_ble_eq_true rfl, rfl⟩ ff_X10_16 rfl (by decide) rfl rfl dX10_init_138 ?_
  refine c_rf (rf' := (rfM 4)) (by decide +kernel) ?_
  refine v_aload_n hz.1 dX10_init_141 rfl 0 rfl ?_
  refine v_iconst hz.1 4 dX10_init_142 rfl ?_
  refine c_newiN (N' := 5) (cs' := 4) (ss' := 55) hz 4 ac_int rfl (by decide) rfl (by decide) (((cM0_z).mono (m := 4) rfl).ma rfl) rfl (by decide) (by decide) (by decide) dX10_init_143 rfl rfl rfl ?_
  refine c_putr hz hi ⟨Nat.le_of_ble_eq_true rfl, rfl⟩ ff_X10_19 rfl (by decide) rfl rfl dX10_init_145 ?_
  refine c_rf (rf' := (rfM 5)) (by decide +kernel) ?_
  refine v_aload_n hz.1 dX10_init_148 rfl 0 rfl ?_
  refine v_iconst hz.1 4 dX10_init_149 rfl ?_
  refine c_newiN (N' := 6) (cs' := 5) (ss' := 59) hz 4 ac_int rfl (by decide) rfl (by decide) (((cM0_z).mono (m := 5) rfl).ma rfl) rfl (by decide) (by decide) (by decide) dX10_init_150 rfl rfl rfl ?_
  refine c_putr hz hi ⟨Nat.le_of_ble_eq_true rfl, rfl⟩ ff_X10_22 rfl (by decide) rfl rfl dX10_init_152 ?_
  refine c_rf (rf' := (rfM 6)) (by decide +kernel) ?_
  refine v_aload_n hz.1 dX10_init_155 rfl 0 rfl ?_
  refine v_iconst hz.1 4 dX10_init_156 rfl ?_
  refine c_newiN (N' := 7) (cs' := 6) (ss' := 63) hz 4 ac_int rfl (by decide) rfl (by decide) (((cM0_z).mono (m := 6) rfl).ma rfl) rfl (by decide) (by decide) (by decide) dX10_init_157 rfl rfl rfl ?_
  refine c_putr hz hi ⟨Nat.le_of_ble_eq_true rfl, rfl⟩ ff_X10_25 rfl (by decide) rfl rfl dX10_init_159 ?_
  refine c_rf (rf' := (rfM 7)) (by decide +kernel) ?_
  refine v_aload_n hz.1 dX10_init_162 rfl 0 rfl ?_
  refine v_iconst hz.1 4 dX10_init_163 rfl ?_
  refine c_newiN (N' := 8) (cs' := 7) (ss' := 67) hz 4 ac_int rfl (by decide) rfl (by decide) (((cM0_z).mono (m := 7) rfl).ma rfl) rfl (by decide) (by decide) (by decide) dX10_init_164 rfl rfl rfl ?_
  refine c_putr hz hi ⟨Nat.le_of_ble_eq_true rfl, rfl⟩ ff_X10_28 rfl (by decide) rfl rfl dX10_init_166 ?_
  refine c_rf (rf' := (rfM 8)) (by decide +kernel) ?_
  refine v_aload_n hz.1 dX10_init_169 rfl 0 rfl ?_
  refine v_bipush hz.1 12 dX10_init_170 rfl ?_
  refine c_newiN (N' := 9) (cs' := 8) (ss' := 79) hz 12 ac_int rfl (by decide) rfl (by decide) (((cM0_z).mono (m := 8) rfl).ma rfl) rfl (by decide) (by decide) (by decide) dX10_init_172 rfl rfl rfl ?_
  refine c_putr hz hi ⟨Nat.le_of_ble_eq_true rfl, rfl⟩ ff_X10_31 rfl (by decide) rfl rfl dX10_init_174 ?_
  refine c_rf (rf' := (rfM 9)) (by decide +kernel) ?_
  refine v_aload_n hz.1 dX10_init_177 rfl 0 rfl ?_
  refine v_sipush hz.1 160 dX10_init_178 rfl ?_
  refine c_newiN (N' := 10) (cs' := 9) (ss' := 239) hz 160 ac_int rfl (by decide) rfl (by decide) (((cM0_z).mono (m := 9) rfl).ma rfl) rfl (by decide) (by decide) (by decide) dX10_init_181 rfl rfl rfl ?_
  refine c_putr hz hi ⟨Nat.le_of_ble_eq_true rfl, rfl⟩ ff_X10_34 rfl (by decide) rfl rfl dX10_init_183 ?_
  refine c_rf (rf' := (rfM 10)) (by decide +kernel) ?_
  refine v_aload_n hz.1 dX10_init_186 rfl 0 rfl ?_
  refine v_sipush hz.1 1200 dX10_init_187 rfl ?_
  refine c_newiN (N' := 11) (cs' := 10) (ss' := 1439) hz 1200 ac_int rfl (by decide) rfl (by decide) (((cM0_z).mono (m := 10) rfl).ma rfl) rfl (by decide) (by decide) (by decide) dX10_init_190 rfl rfl rfl ?_
  refine c_putr hz hi ⟨Nat.le_of_ble_eq_true rfl, rfl⟩ ff_X10_37 rfl (by decide) rfl rfl dX10_init_192 ?_
  refine c_rf (rf' := (rfM 11)) (by decide +kernel) ?_
  refine v_aload_n hz.1 dX10_init_195 rfl 0 rfl ?_
  refine v_bipush hz.1 24 dX10_init_196 rfl ?_
  refine c_newiN (N' := 12) (cs' := 11) (ss' := 1463) hz 24 ac_int rfl (by decide) rfl (by decide) (((cM0_z).mono (m := 11) rfl).ma rfl) rfl (by decide) (by decide) (by decide) dX10_init_198 rfl rfl rfl ?_
  refine c_putr hz hi ⟨Nat.le_of_ble_eq_true rfl, rfl⟩ ff_X10_40 rfl (by decide) rfl rfl dX10_init_200 ?_
  refine c_rf (rf' := (rfM 12)) (by decide +kernel) ?_
  refine v_aload_n hz.1 dX10_init_203 rfl 0 rfl ?_
  refine v_bipush hz.1 79 dX10_init_204 rfl ?_
  refine c_newiN (N' := 13) (cs' := 12) (ss' := 1542) hz 79 ac_int rfl (by decide) rfl (by decide) (((cM0_z).mono (m := 12) rfl).ma rfl) rfl (by decide) (by decide) (by decide) dX10_init_206 rfl rfl rfl ?_
  refine c_putr hz hi ⟨Nat.le_of_ble_eq_true rfl, rfl⟩ ff_X10_43 rfl (by decide) rfl rfl dX10_init_208 ?_
  refine c_rf (rf' := (rfM 13)) (by decide +kernel) ?_
  refine v_aload_n hz.1 dX10_init_211 rfl 0 rfl ?_
  refine v_iconst hz.1 4 dX10_init_212 rfl ?_
  refine c_newiN (N' := 14) (cs' := 13) (ss' := 1546) hz 4 ac_int rfl (by decide) rfl (by decide) (((cM0_z).mono (m := 13) rfl).ma rfl) rfl (by decide) (by decide) (by decide) dX10_init_213 rfl rfl rfl ?_
  refine v_dup hz.1 dX10_init_215 rfl ?_
  refine v_iconst hz.1 0 dX10_init_216 rfl ?_
  refine v_iconst hz.1 (-1) dX10_init_217 rfl ?_
  refine c_m0 (MAi_0 (MAi cM0 2 WM2 24) 13 WM13) ?_
  refine c_iastA hz WM13 0 ⟨Nat.le_of_ble_eq_true rfl, rfl⟩ (by decide) rfl rfl (a' := 1) rfl dX10_init_218 ?_
  refine v_dup hz.1 dX10_init_219 rfl ?_
  refine v_iconst hz.1 1 dX10_init_220 rfl ?_
  refine v_iconst hz.1 (-1) dX10_init_221 rfl ?_
  refine c_iastA hz WM13 1 ⟨Nat.le_of_ble_eq_true rfl, rfl⟩ (by decide) rfl rfl (a' := 2) rfl dX10_init_222 ?_
  refine v_dup hz.1 dX10_init_223 rfl ?_
  refine v_iconst hz.1 2 dX10_init_224 rfl ?_
  refine v_iconst hz.1 (-1) dX10_init_225 rfl ?_
  refine c_iastA hz WM13 2 ⟨Nat.le_of_ble_eq_true rfl, rfl⟩ (by decide) rfl rfl (a' := 3) rfl dX10_init_226 ?_
  refine v_dup hz.1 dX10_init_227 rfl ?_
  refine v_iconst hz.1 3 dX10_init_228 rfl ?_
  refine v_iconst hz.1 (-1) dX10_init_229 rfl ?_
  refine c_iastA hz WM13 3 ⟨Nat.le_of_ble_eq_true rfl, rfl⟩ (by decide) rfl rfl (a' := 4) rfl dX10_init_230 ?_
  refine c_putr hz hi ⟨Nat.le_of_ble_eq_true rfl, rfl⟩ ff_X10_46 rfl (by decide) rfl rfl dX10_init_231 ?_
  refine c_rf (rf' := (rfM 14)) (by decide +kernel) ?_
  exact kk
set_option maxRecDepth 20000 in
set_option maxHeartbeats 4000000 in
theorem w_X10_1 {Z : hZ} {Q : State → Prop} (hz : cOK Z cX10_init RX10 2 99 25 2465 1 none) (hi : Z.2.2.1.2.2.2.1.name = "<init>") (kk : hB Z Q (cI Z (hYm.1, (rfM 17), 17) (MAi (MAi (MAi cM0 2 WM2 24) 13 WM13 4) 16 WM16 45)) 16 1755 522 [(0, .ref (h_b Z + 0))] []) : hB Z Q (cI Z (hYm.1, (rfM 14), 14) (MAi (MAi cM0 2 WM2 24) 13 WM13 4)) 13 1546 234 [(0, .ref (h_b Z + 0))] [] := by
  refine v_aload_n hz.1 dX10_init_234 rfl 0 rfl ?_
  refine v_iconst hz.1 4 dX10_init_235 rfl ?_
  refine c_newiN (N' := 15) (cs' := 14) (ss' := 1550) hz 4 ac_int rfl (by decide) rfl (by decide) ((((cM0_z).mono (m := 14) rfl).ma rfl).ma rfl) rfl (by decide) (by decide) (by decide) dX10_init_236 rfl rfl rfl ?_
  refine c_putr hz hi ⟨Nat.le_of_ble_eq_true rfl, rfl⟩ ff_X10_49 rfl (by decide) rfl rfl dX10_init_238 ?_
  refine c_rf (rf' := (rfM 15)) (by decide +kernel) ?_
  refine v_aload_n hz.1 dX10_init_241 rfl 0 rfl ?_
  refine v_sipush hz.1 160 dX10_init_242 rfl ?_
  refine c_newiN (N' := 16) (cs' := 15) (ss' := 1710) hz 160 ac_int rfl (by decide) rfl (by decide) ((((cM0_z).mono (m := 15) rfl).ma rfl).ma rfl) rfl (by decide) (by decide) (by decide) dX10_init_245 rfl rfl rfl ?_
  refine c_putr hz hi ⟨Nat.le_of_ble_eq_true rfl, rfl⟩ ff_X10_52 rfl (by decide) rfl rfl dX10_init_247 ?_
  refine c_rf (rf' := (rfM 16)) (by decide +kernel) ?_
  refine v_aload_n hz.1 dX10_init_250 rfl 0 rfl ?_
  refine v_bipush hz.1 45 dX10_init_251 rfl ?_
  refine c_newiN (N' := 17) (cs' := 16) (ss' := 1755) hz 45 ac_int rfl (by decide) rfl (by decide) ((((cM0_z).mono (m := 16) rfl).ma rfl).ma rfl) rfl (by decide) (by decide) (by decide) dX10_init_253 rfl rfl rfl ?_
  refine v_dup hz.1 dX10_init_255 rfl ?_
  refine v_iconst hz.1 0 dX10_init_256 rfl ?_
  refine v_bipush hz.1 103 dX10_init_257 rfl ?_
  refine c_m0 (MAi_0 (MAi (MAi cM0 2 WM2 24) 13 WM13 4) 16 WM16) ?_
  refine c_iastA hz WM16 0 ⟨Nat.le_of_ble_eq_true rfl, rfl⟩ (by decide) rfl rfl (a' := 1) rfl dX10_init_259 ?_
  refine v_dup hz.1 dX10_init_260 rfl ?_
  refine v_iconst hz.1 1 dX10_init_261 rfl ?_
  refine v_bipush hz.1 111 dX10_init_262 rfl ?_
  refine c_iastA hz WM16 1 ⟨Nat.le_of_ble_eq_true rfl, rfl⟩ (by decide) rfl rfl (a' := 2) rfl dX10_init_264 ?_
  refine v_dup hz.1 dX10_init_265 rfl ?_
  refine v_iconst hz.1 2 dX10_init_266 rfl ?_
  refine v_bipush hz.1 101 dX10_init_267 rfl ?_
  refine c_iastA hz WM16 2 ⟨Nat.le_of_ble_eq_true rfl, rfl⟩ (by decide) rfl rfl (a' := 3) rfl dX10_init_269 ?_
  refine v_dup hz.1 dX10_init_270 rfl ?_
  refine v_iconst hz.1 3 dX10_init_271 rfl ?_
  refine v_bipush hz.1 115 dX10_init_272 rfl ?_
  refine c_iastA hz WM16 3 ⟨Nat.le_of_ble_eq_true rfl, rfl⟩ (by decide) rfl rfl (a' := 4) rfl dX10_init_274 ?_
  refine v_dup hz.1 dX10_init_275 rfl ?_
  refine v_iconst hz.1 4 dX10_init_276 rfl ?_
  refine v_bipush hz.1 32 dX10_init_277 rfl ?_
  refine c_iastA hz WM16 4 ⟨Nat.le_of_ble_eq_true rfl, rfl⟩ (by decide) rfl rfl (a' := 5) rfl dX10_init_279 ?_
  refine v_dup hz.1 dX10_init_280 rfl ?_
  refine v_iconst hz.1 5 dX10_init_281 rfl ?_
  refine v_bipush hz.1 115 dX10_init_282 rfl ?_
  refine c_iastA hz WM16 5 ⟨Nat.le_of_ble_eq_true rfl, rfl⟩ (by decide) rfl rfl (a' := 6) rfl dX10_init_284 ?_
  refine v_dup hz.1 dX10_init_285 rfl ?_
  refine v_bipush hz.1 6 dX10_init_286 rfl ?_
  refine v_bipush hz.1 116 dX10_init_288 rfl ?_
  refine c_iastA hz WM16 6 ⟨Nat.le_of_ble_eq_true rfl, rfl⟩ (by decide) rfl rfl (a' := 7) rfl dX10_init_290 ?_
  refine v_dup hz.1 dX10_init_291 rfl ?_
  refine v_bipush hz.1 7 dX10_init_292 rfl ?_
  refine v_bipush hz.1 114 dX10_init_294 rfl ?_
  refine c_iastA hz WM16 7 ⟨Nat.le_of_ble_eq_true rfl, rfl⟩ (by decide) rfl rfl (a' := 8) rfl dX10_init_296 ?_
  refine v_dup hz.1 dX10_init_297 rfl ?_
  refine v_bipush hz.1 8 dX10_init_298 rfl ?_
  refine v_bipush hz.1 101 dX10_init_300 rfl ?_
  refine c_iastA hz WM16 8 ⟨Nat.le_of_ble_eq_true rfl, rfl⟩ (by decide) rfl rfl (a' := 9) rfl dX10_init_302 ?_
  refine v_dup hz.1 dX10_init_303 rfl ?_
  refine v_bipush hz.1 9 dX10_init_304 rfl ?_
  refine v_bipush hz.1 110 dX10_init_306 rfl ?_
  refine c_iastA hz WM16 9 ⟨Nat.le_of_ble_eq_true rfl, rfl⟩ (by decide) rfl rfl (a' := 10) rfl dX10_init_308 ?_
  refine v_dup hz.1 dX10_init_309 rfl ?_
  refine v_bipush hz.1 10 dX10_init_310 rfl ?_
  refine v_bipush hz.1 103 dX10_init_312 rfl ?_
  refine c_iastA hz WM16 10 ⟨Nat.le_of_ble_eq_true rfl, rfl⟩ (by decide) rfl rfl (a' := 11) rfl dX10_init_314 ?_
  refine v_dup hz.1 dX10_init_315 rfl ?_
  refine v_bipush hz.1 11 dX10_init_316 rfl ?_
  refine v_bipush hz.1 116 dX10_init_318 rfl ?_
  refine c_iastA hz WM16 11 ⟨Nat.le_of_ble_eq_true rfl, rfl⟩ (by decide) rfl rfl (a' := 12) rfl dX10_init_320 ?_
  refine v_dup hz.1 dX10_init_321 rfl ?_
  refine v_bipush hz.1 12 dX10_init_322 rfl ?_
  refine v_bipush hz.1 104 dX10_init_324 rfl ?_
  refine c_iastA hz WM16 12 ⟨Nat.le_of_ble_eq_true rfl, rfl⟩ (by decide) rfl rfl (a' := 13) rfl dX10_init_326 ?_
  refine v_dup hz.1 dX10_init_327 rfl ?_
  refine v_bipush hz.1 13 dX10_init_328 rfl ?_
  refine v_bipush hz.1 32 dX10_init_330 rfl ?_
  refine c_iastA hz WM16 13 ⟨Nat.le_of_ble_eq_true rfl, rfl⟩ (by decide) rfl rfl (a' := 14) rfl dX10_init_332 ?_
  refine v_dup hz.1 dX10_init_333 rfl ?_
  refine v_bipush hz.1 14 dX10_init_334 rfl ?_
  refine v_bipush hz.1 59 dX10_init_336 rfl ?_
  refine c_iastA hz WM16 14 ⟨Nat.le_of_ble_eq_true rfl, rfl⟩ (by decide) rfl rfl (a' := 15) rfl dX10_init_338 ?_
  refine v_dup hz.1 dX10_init_339 rfl ?_
  refine v_bipush hz.1 15 dX10_init_340 rfl ?_
  refine v_bipush hz.1 32 dX10_init_342 rfl ?_
  refine c_iastA hz WM16 15 ⟨Nat.le_of_ble_eq_true rfl, rfl⟩ (by decide) rfl rfl (a' := 16) rfl dX10_init_344 ?_
  refine v_dup hz.1 dX10_init_345 rfl ?_
  refine v_bipush hz.1 16 dX10_init_346 rfl ?_
  refine v_bipush hz.1 116 dX10_init_348 rfl ?_
  refine c_iastA hz WM16 16 ⟨Nat.le_of_ble_eq_true rfl, rfl⟩ (by decide) rfl rfl (a' := 17) rfl dX10_init_350 ?_
  refine v_dup hz.1 dX10_init_351 rfl ?_
  refine v_bipush hz.1 17 dX10_init_352 rfl ?_
  refine v_bipush hz.1 117 dX10_init_354 rfl ?_
  refine c_iastA hz WM16 17 ⟨Nat.le_of_ble_eq_true rfl, rfl⟩ (by decide) rfl rfl (a' := 18) rfl dX10_init_356 ?_
  refine v_dup hz.1 dX10_init_357 rfl ?_
  refine v_bipush hz.1 18 dX10_init_358 rfl ?_
  refine v_bipush hz.1 114 dX10_init_360 rfl ?_
  refine c_iastA hz WM16 18 ⟨Nat.le_of_ble_eq_true rfl, rfl⟩ (by decide) rfl rfl (a' := 19) rfl dX10_init_362 ?_
  refine v_dup hz.1 dX10_init_363 rfl ?_
  refine v_bipush hz.1 19 dX10_init_364 rfl ?_
  refine v_bipush hz.1 110 dX10_init_366 rfl ?_
  refine c_iastA hz WM16 19 ⟨Nat.le_of_ble_eq_true rfl, rfl⟩ (by decide) rfl rfl (a' := 20) rfl dX10_init_368 ?_
  refine v_dup hz.1 dX10_init_369 rfl ?_
  refine v_bipush hz.1 20 dX10_init_370 rfl ?_
  refine v_bipush hz.1 115 dX10_init_372 rfl ?_
  refine c_iastA hz WM16 20 ⟨Nat.le_of_ble_eq_true rfl, rfl⟩ (by decide) rfl rfl (a' := 21) rfl dX10_init_374 ?_
  refine v_dup hz.1 dX10_init_375 rfl ?_
  refine v_bipush hz.1 21 dX10_init_376 rfl ?_
  refine v_bipush hz.1 32 dX10_init_378 rfl ?_
  refine c_iastA hz WM16 21 ⟨Nat.le_of_ble_eq_true rfl, rfl⟩ (by decide) rfl rfl (a' := 22) rfl dX10_init_380 ?_
  refine v_dup hz.1 dX10_init_381 rfl ?_
  refine v_bipush hz.1 22 dX10_init_382 rfl ?_
  refine v_bipush hz.1 49 dX10_init_384 rfl ?_
  refine c_iastA hz WM16 22 ⟨Nat.le_of_ble_eq_true rfl, rfl⟩ (by decide) rfl rfl (a' := 23) rfl dX10_init_386 ?_
  refine v_dup hz.1 dX10_init_387 rfl ?_
  refine v_bipush hz.1 23 dX10_init_388 rfl ?_
  refine v_bipush hz.1 32 dX10_init_390 rfl ?_
  refine c_iastA hz WM16 23 ⟨Nat.le_of_ble_eq_true rfl, rfl⟩ (by decide) rfl rfl (a' := 24) rfl dX10_init_392 ?_
  refine v_dup hz.1 dX10_init_393 rfl ?_
  refine v_bipush hz.1 24 dX10_init_394 rfl ?_
  refine v_bipush hz.1 59 dX10_init_396 rfl ?_
  refine c_iastA hz WM16 24 ⟨Nat.le_of_ble_eq_true rfl, rfl⟩ (by decide) rfl rfl (a' := 25) rfl dX10_init_398 ?_
  refine v_dup hz.1 dX10_init_399 rfl ?_
  refine v_bipush hz.1 25 dX10_init_400 rfl ?_
  refine v_bipush hz.1 32 dX10_init_402 rfl ?_
  refine c_iastA hz WM16 25 ⟨Nat.le_of_ble_eq_true rfl, rfl⟩ (by decide) rfl rfl (a' := 26) rfl dX10_init_404 ?_
  refine v_dup hz.1 dX10_init_405 rfl ?_
  refine v_bipush hz.1 26 dX10_init_406 rfl ?_
  refine v_bipush hz.1 119 dX10_init_408 rfl ?_
  refine c_iastA hz WM16 26 ⟨Nat.le_of_ble_eq_true rfl, rfl⟩ (by decide) rfl rfl (a' := 27) rfl dX10_init_410 ?_
  refine v_dup hz.1 dX10_init_411 rfl ?_
  refine v_bipush hz.1 27 dX10_init_412 rfl ?_
  refine v_bipush hz.1 111 dX10_init_414 rfl ?_
  refine c_iastA hz WM16 27 ⟨Nat.le_of_ble_eq_true rfl, rfl⟩ (by decide) rfl rfl (a' := 28) rfl dX10_init_416 ?_
  refine v_dup hz.1 dX10_init_417 rfl ?_
  refine v_bipush hz.1 28 dX10_init_418 rfl ?_
  refine v_bipush hz.1 114 dX10_init_420 rfl ?_
  refine c_iastA hz WM16 28 ⟨Nat.le_of_ble_eq_true rfl, rfl⟩ (by decide) rfl rfl (a' := 29) rfl dX10_init_422 ?_
  refine v_dup hz.1 dX10_init_423 rfl ?_
  refine v_bipush hz.1 29 dX10_init_424 rfl ?_
  refine v_bipush hz.1 116 dX10_init_426 rfl ?_
  refine c_iastA hz WM16 29 ⟨Nat.le_of_ble_eq_true rfl, rfl⟩ (by decide) rfl rfl (a' := 30) rfl dX10_init_428 ?_
  refine v_dup hz.1 dX10_init_429 rfl ?_
  refine v_bipush hz.1 30 dX10_init_430 rfl ?_
  refine v_bipush hz.1 104 dX10_init_432 rfl ?_
  refine c_iastA hz WM16 30 ⟨Nat.le_of_ble_eq_true rfl, rfl⟩ (by decide) rfl rfl (a' := 31) rfl dX10_init_434 ?_
  refine v_dup hz.1 dX10_init_435 rfl ?_
  refine v_bipush hz.1 31 dX10_init_436 rfl ?_
  refine v_bipush hz.1 32 dX10_init_438 rfl ?_
  refine c_iastA hz WM16 31 ⟨Nat.le_of_ble_eq_true rfl, rfl⟩ (by decide) rfl rfl (a' := 32) rfl dX10_init_440 ?_
  refine v_dup hz.1 dX10_init_441 rfl ?_
  refine v_bipush hz.1 32 dX10_init_442 rfl ?_
  refine v_bipush hz.1 51 dX10_init_444 rfl ?_
  refine c_iastA hz WM16 32 ⟨Nat.le_of_ble_eq_true rfl, rfl⟩ (by decide) rfl rfl (a' := 33) rfl dX10_init_446 ?_
  refine v_dup hz.1 dX10_init_447 rfl ?_
  refine v_bipush hz.1 33 dX10_init_448 rfl ?_
  refine v_bipush hz.1 48 dX10_init_450 rfl ?_
  refine c_iastA hz WM16 33 ⟨Nat.le_of_ble_eq_true rfl, rfl⟩ (by decide) rfl rfl (a' := 34) rfl dX10_init_452 ?_
  refine v_dup hz.1 dX10_init_453 rfl ?_
  refine v_bipush hz.1 34 dX10_init_454 rfl ?_
  refine v_bipush hz.1 32 dX10_init_456 rfl ?_
  refine c_iastA hz WM16 34 ⟨Nat.le_of_ble_eq_true rfl, rfl⟩ (by decide) rfl rfl (a' := 35) rfl dX10_init_458 ?_
  refine v_dup hz.1 dX10_init_459 rfl ?_
  refine v_bipush hz.1 35 dX10_init_460 rfl ?_
  refine v_bipush hz.1 45 dX10_init_462 rfl ?_
  refine c_iastA hz WM16 35 ⟨Nat.le_of_ble_eq_true rfl, rfl⟩ (by decide) rfl rfl (a' := 36) rfl dX10_init_464 ?_
  refine v_dup hz.1 dX10_init_465 rfl ?_
  refine v_bipush hz.1 36 dX10_init_466 rfl ?_
  refine v_bipush hz.1 32 dX10_init_468 rfl ?_
  refine c_iastA hz WM16 36 ⟨Nat.le_of_ble_eq_true rfl, rfl⟩ (by decide) rfl rfl (a' := 37) rfl dX10_init_470 ?_
  refine v_dup hz.1 dX10_init_471 rfl ?_
  refine v_bipush hz.1 37 dX10_init_472 rfl ?_
  refine v_bipush hz.1 115 dX10_init_474 rfl ?_
  refine c_iastA hz WM16 37 ⟨Nat.le_of_ble_eq_true rfl, rfl⟩ (by decide) rfl rfl (a' := 38) rfl dX10_init_476 ?_
  refine v_dup hz.1 dX10_init_477 rfl ?_
  refine v_bipush hz.1 38 dX10_init_478 rfl ?_
  refine v_bipush hz.1 101 dX10_init_480 rfl ?_
  refine c_iastA hz WM16 38 ⟨Nat.le_of_ble_eq_true rfl, rfl⟩ (by decide) rfl rfl (a' := 39) rfl dX10_init_482 ?_
  refine v_dup hz.1 dX10_init_483 rfl ?_
  refine v_bipush hz.1 39 dX10_init_484 rfl ?_
  refine v_bipush hz.1 99 dX10_init_486 rfl ?_
  refine c_iastA hz WM16 39 ⟨Nat.le_of_ble_eq_true rfl, rfl⟩ (by decide) rfl rfl (a' := 40) rfl dX10_init_488 ?_
  refine v_dup hz.1 dX10_init_489 rfl ?_
  refine v_bipush hz.1 40 dX10_init_490 rfl ?_
  refine v_bipush hz.1 111 dX10_init_492 rfl ?_
  refine c_iastA hz WM16 40 ⟨Nat.le_of_ble_eq_true rfl, rfl⟩ (by decide) rfl rfl (a' := 41) rfl dX10_init_494 ?_
  refine v_dup hz.1 dX10_init_495 rfl ?_
  refine v_bipush hz.1 41 dX10_init_496 rfl ?_
  refine v_bipush hz.1 110 dX10_init_498 rfl ?_
  refine c_iastA hz WM16 41 ⟨Nat.le_of_ble_eq_true rfl, rfl⟩ (by decide) rfl rfl (a' := 42) rfl dX10_init_500 ?_
  refine v_dup hz.1 dX10_init_501 rfl ?_
  refine v_bipush hz.1 42 dX10_init_502 rfl ?_
  refine v_bipush hz.1 100 dX10_init_504 rfl ?_
  refine c_iastA hz WM16 42 ⟨Nat.le_of_ble_eq_true rfl, rfl⟩ (by decide) rfl rfl (a' := 43) rfl dX10_init_506 ?_
  refine v_dup hz.1 dX10_init_507 rfl ?_
  refine v_bipush hz.1 43 dX10_init_508 rfl ?_
  refine v_bipush hz.1 32 dX10_init_510 rfl ?_
  refine c_iastA hz WM16 43 ⟨Nat.le_of_ble_eq_true rfl, rfl⟩ (by decide) rfl rfl (a' := 44) rfl dX10_init_512 ?_
  refine v_dup hz.1 dX10_init_513 rfl ?_
  refine v_bipush hz.1 44 dX10_init_514 rfl ?_
  refine v_bipush hz.1 59 dX10_init_516 rfl ?_
  refine c_iastA hz WM16 44 ⟨Nat.le_of_ble_eq_true rfl, rfl⟩ (by decide) rfl rfl (a' := 45) rfl dX10_init_518 ?_
  refine c_putr hz hi ⟨Nat.le_of_ble_eq_true rfl, rfl⟩ ff_X10_55 rfl (by decide) rfl rfl dX10_init_519 ?_
  refine c_rf (rf' := (rfM 17)) (by decide +kernel) ?_
  exact kk
set_option maxRecDepth 20000 in
set_option maxHeartbeats 4000000 in
theorem w_X10_2 {Z : hZ} {Q : State → Prop} (hz : cOK Z cX10_init RX10 2 99 25 2465 1 none) (hi : Z.2.2.1.2.2.2.1.name = "<init>") (kk : hB Z Q (cI Z (hYm.1, (rfM 18), 18) (MAi (MAi (MAi (MAi cM0 2 WM2 24) 13 WM13 4) 16 WM16 45) 17 WM17 96)) 17 1851 1100 [(0, .ref (h_b Z + 0))] []) : hB Z Q (cI Z (hYm.1, (rfM 17), 17) (MAi (MAi (MAi cM0 2 WM2 24) 13 WM13 4) 16 WM16 45)) 16 1755 522 [(0, .ref (h_b Z + 0))] [] := by
  refine v_aload_n hz.1 dX10_init_522 rfl 0 rfl ?_
  refine v_bipush hz.1 96 dX10_init_523 rfl ?_
  refine c_newiN (N' := 18) (cs' := 17) (ss' := 1851) hz 96 ac_int rfl (by decide) rfl (by decide) (((((cM0_z).mono (m := 17) rfl).ma rfl).ma rfl).ma rfl) rfl (by decide) (by decide) (by decide) dX10_init_525 rfl rfl rfl ?_
  refine v_dup hz.1 dX10_init_527 rfl ?_
  refine v_iconst hz.1 0 dX10_init_528 rfl ?_
  refine v_bipush hz.1 103 dX10_init_529 rfl ?_
  refine c_m0 (MAi_0 (MAi (MAi (MAi cM0 2 WM2 24) 13 WM13 4) 16 WM16 45) 17 WM17) ?_
  refine c_iastA hz WM17 0 ⟨Nat.le_of_ble_eq_true rfl, rfl⟩ (by decide) rfl rfl (a' := 1) rfl dX10_init_531 ?_
  refine v_dup hz.1 dX10_init_532 rfl ?_
  refine v_iconst hz.1 1 dX10_init_533 rfl ?_
  refine v_bipush hz.1 111 dX10_init_534 rfl ?_
  refine c_iastA hz WM17 1 ⟨Nat.le_of_ble_eq_true rfl, rfl⟩ (by decide) rfl rfl (a' := 2) rfl dX10_init_536 ?_
  refine v_dup hz.1 dX10_init_537 rfl ?_
  refine v_iconst hz.1 2 dX10_init_538 rfl ?_
  refine v_bipush hz.1 101 dX10_init_539 rfl ?_
  refine c_iastA hz WM17 2 ⟨Nat.le_of_ble_eq_true rfl, rfl⟩ (by decide) rfl rfl (a' := 3) rfl dX10_init_541 ?_
  refine v_dup hz.1 dX10_init_542 rfl ?_
  refine v_iconst hz.1 3 dX10_init_543 rfl ?_
  refine v_bipush hz.1 115 dX10_init_544 rfl ?_
  refine c_iastA hz WM17 3 ⟨Nat.le_of_ble_eq_true rfl, rfl⟩ (by decide) rfl rfl (a' := 4) rfl dX10_init_546 ?_
  refine v_dup hz.1 dX10_init_547 rfl ?_
  refine v_iconst hz.1 4 dX10_init_548 rfl ?_
  refine v_bipush hz.1 32 dX10_init_549 rfl ?_
  refine c_iastA hz WM17 4 ⟨Nat.le_of_ble_eq_true rfl, rfl⟩ (by decide) rfl rfl (a' := 5) rfl dX10_init_551 ?_
  refine v_dup hz.1 dX10_init_552 rfl ?_
  refine v_iconst hz.1 5 dX10_init_553 rfl ?_
  refine v_bipush hz.1 32 dX10_init_554 rfl ?_
  refine c_iastA hz WM17 5 ⟨Nat.le_of_ble_eq_true rfl, rfl⟩ (by decide) rfl rfl (a' := 6) rfl dX10_init_556 ?_
  refine v_dup hz.1 dX10_init_557 rfl ?_
  refine v_bipush hz.1 6 dX10_init_558 rfl ?_
  refine v_bipush hz.1 32 dX10_init_560 rfl ?_
  refine c_iastA hz WM17 6 ⟨Nat.le_of_ble_eq_true rfl, rfl⟩ (by decide) rfl rfl (a' := 7) rfl dX10_init_562 ?_
  refine v_dup hz.1 dX10_init_563 rfl ?_
  refine v_bipush hz.1 7 dX10_init_564 rfl ?_
  refine v_bipush hz.1 32 dX10_init_566 rfl ?_
  refine c_iastA hz WM17 7 ⟨Nat.le_of_ble_eq_true rfl, rfl⟩ (by decide) rfl rfl (a' := 8) rfl dX10_init_568 ?_
  refine v_dup hz.1 dX10_init_569 rfl ?_
  refine v_bipush hz.1 8 dX10_init_570 rfl ?_
  refine v_bipush hz.1 116 dX10_init_572 rfl ?_
  refine c_iastA hz WM17 8 ⟨Nat.le_of_ble_eq_true rfl, rfl⟩ (by decide) rfl rfl (a' := 9) rfl dX10_init_574 ?_
  refine v_dup hz.1 dX10_init_575 rfl ?_
  refine v_bipush hz.1 9 dX10_init_576 rfl ?_
  refine v_bipush hz.1 117 dX10_init_578 rfl ?_
  refine c_iastA hz WM17 9 ⟨Nat.le_of_ble_eq_true rfl, rfl⟩ (by decide) rfl rfl (a' := 10) rfl dX10_init_580 ?_
  refine v_dup hz.1 dX10_init_581 rfl ?_
  refine v_bipush hz.1 10 dX10_init_582 rfl ?_
  refine v_bipush hz.1 114 dX10_init_584 rfl ?_
  refine c_iastA hz WM17 10 ⟨Nat.le_of_ble_eq_true rfl, rfl⟩ (by decide) rfl rfl (a' := 11) rfl dX10_init_586 ?_
  refine v_dup hz.1 dX10_init_587 rfl ?_
  refine v_bipush hz.1 11 dX10_init_588 rfl ?_
  refine v_bipush hz.1 110 dX10_init_590 rfl ?_
  refine c_iastA hz WM17 11 ⟨Nat.le_of_ble_eq_true rfl, rfl⟩ (by decide) rfl rfl (a' := 12) rfl dX10_init_592 ?_
  refine v_dup hz.1 dX10_init_593 rfl ?_
  refine v_bipush hz.1 12 dX10_init_594 rfl ?_
  refine v_bipush hz.1 115 dX10_init_596 rfl ?_
  refine c_iastA hz WM17 12 ⟨Nat.le_of_ble_eq_true rfl, rfl⟩ (by decide) rfl rfl (a' := 13) rfl dX10_init_598 ?_
  refine v_dup hz.1 dX10_init_599 rfl ?_
  refine v_bipush hz.1 13 dX10_init_600 rfl ?_
  refine v_bipush hz.1 32 dX10_init_602 rfl ?_
  refine c_iastA hz WM17 13 ⟨Nat.le_of_ble_eq_true rfl, rfl⟩ (by decide) rfl rfl (a' := 14) rfl dX10_init_604 ?_
  refine v_dup hz.1 dX10_init_605 rfl ?_
  refine v_bipush hz.1 14 dX10_init_606 rfl ?_
  refine v_bipush hz.1 32 dX10_init_608 rfl ?_
  refine c_iastA hz WM17 14 ⟨Nat.le_of_ble_eq_true rfl, rfl⟩ (by decide) rfl rfl (a' := 15) rfl dX10_init_610 ?_
  refine v_dup hz.1 dX10_init_611 rfl ?_
  refine v_bipush hz.1 15 dX10_init_612 rfl ?_
  refine v_bipush hz.1 32 dX10_init_614 rfl ?_
  refine c_iastA hz WM17 15 ⟨Nat.le_of_ble_eq_true rfl, rfl⟩ (by decide) rfl rfl (a' := 16) rfl dX10_init_616 ?_
  refine v_dup hz.1 dX10_init_617 rfl ?_
  refine v_bipush hz.1 16 dX10_init_618 rfl ?_
  refine v_bipush hz.1 119 dX10_init_620 rfl ?_
  refine c_iastA hz WM17 16 ⟨Nat.le_of_ble_eq_true rfl, rfl⟩ (by decide) rfl rfl (a' := 17) rfl dX10_init_622 ?_
  refine v_dup hz.1 dX10_init_623 rfl ?_
  refine v_bipush hz.1 17 dX10_init_624 rfl ?_
  refine v_bipush hz.1 111 dX10_init_626 rfl ?_
  refine c_iastA hz WM17 17 ⟨Nat.le_of_ble_eq_true rfl, rfl⟩ (by decide) rfl rfl (a' := 18) rfl dX10_init_628 ?_
  refine v_dup hz.1 dX10_init_629 rfl ?_
  refine v_bipush hz.1 18 dX10_init_630 rfl ?_
  refine v_bipush hz.1 114 dX10_init_632 rfl ?_
  refine c_iastA hz WM17 18 ⟨Nat.le_of_ble_eq_true rfl, rfl⟩ (by decide) rfl rfl (a' := 19) rfl dX10_init_634 ?_
  refine v_dup hz.1 dX10_init_635 rfl ?_
  refine v_bipush hz.1 19 dX10_init_636 rfl ?_
  refine v_bipush hz.1 116 dX10_init_638 rfl ?_
  refine c_iastA hz WM17 19 ⟨Nat.le_of_ble_eq_true rfl, rfl⟩ (by decide) rfl rfl (a' := 20) rfl dX10_init_640 ?_
  refine v_dup hz.1 dX10_init_641 rfl ?_
  refine v_bipush hz.1 20 dX10_init_642 rfl ?_
  refine v_bipush hz.1 104 dX10_init_644 rfl ?_
  refine c_iastA hz WM17 20 ⟨Nat.le_of_ble_eq_true rfl, rfl⟩ (by decide) rfl rfl (a' := 21) rfl dX10_init_646 ?_
  refine v_dup hz.1 dX10_init_647 rfl ?_
  refine v_bipush hz.1 21 dX10_init_648 rfl ?_
  refine v_bipush hz.1 32 dX10_init_650 rfl ?_
  refine c_iastA hz WM17 21 ⟨Nat.le_of_ble_eq_true rfl, rfl⟩ (by decide) rfl rfl (a' := 22) rfl dX10_init_652 ?_
  refine v_dup hz.1 dX10_init_653 rfl ?_
  refine v_bipush hz.1 22 dX10_init_654 rfl ?_
  refine v_bipush hz.1 32 dX10_init_656 rfl ?_
  refine c_iastA hz WM17 22 ⟨Nat.le_of_ble_eq_true rfl, rfl⟩ (by decide) rfl rfl (a' := 23) rfl dX10_init_658 ?_
  refine v_dup hz.1 dX10_init_659 rfl ?_
  refine v_bipush hz.1 23 dX10_init_660 rfl ?_
  refine v_bipush hz.1 32 dX10_init_662 rfl ?_
  refine c_iastA hz WM17 23 ⟨Nat.le_of_ble_eq_true rfl, rfl⟩ (by decide) rfl rfl (a' := 24) rfl dX10_init_664 ?_
  refine v_dup hz.1 dX10_init_665 rfl ?_
  refine v_bipush hz.1 24 dX10_init_666 rfl ?_
  refine v_bipush hz.1 115 dX10_init_668 rfl ?_
  refine c_iastA hz WM17 24 ⟨Nat.le_of_ble_eq_true rfl, rfl⟩ (by decide) rfl rfl (a' := 25) rfl dX10_init_670 ?_
  refine v_dup hz.1 dX10_init_671 rfl ?_
  refine v_bipush hz.1 25 dX10_init_672 rfl ?_
  refine v_bipush hz.1 116 dX10_init_674 rfl ?_
  refine c_iastA hz WM17 25 ⟨Nat.le_of_ble_eq_true rfl, rfl⟩ (by decide) rfl rfl (a' := 26) rfl dX10_init_676 ?_
  refine v_dup hz.1 dX10_init_677 rfl ?_
  refine v_bipush hz.1 26 dX10_init_678 rfl ?_
  refine v_bipush hz.1 114 dX10_init_680 rfl ?_
  refine c_iastA hz WM17 26 ⟨Nat.le_of_ble_eq_true rfl, rfl⟩ (by decide) rfl rfl (a' := 27) rfl dX10_init_682 ?_
  refine v_dup hz.1 dX10_init_683 rfl ?_
  refine v_bipush hz.1 27 dX10_init_684 rfl ?_
  refine v_bipush hz.1 101 dX10_init_686 rfl ?_
  refine c_iastA hz WM17 27 ⟨Nat.le_of_ble_eq_true rfl, rfl⟩ (by decide) rfl rfl (a' := 28) rfl dX10_init_688 ?_
  refine v_dup hz.1 dX10_init_689 rfl ?_
  refine v_bipush hz.1 28 dX10_init_690 rfl ?_
  refine v_bipush hz.1 110 dX10_init_692 rfl ?_
  refine c_iastA hz WM17 28 ⟨Nat.le_of_ble_eq_true rfl, rfl⟩ (by decide) rfl rfl (a' := 29) rfl dX10_init_694 ?_
  refine v_dup hz.1 dX10_init_695 rfl ?_
  refine v_bipush hz.1 29 dX10_init_696 rfl ?_
  refine v_bipush hz.1 103 dX10_init_698 rfl ?_
  refine c_iastA hz WM17 29 ⟨Nat.le_of_ble_eq_true rfl, rfl⟩ (by decide) rfl rfl (a' := 30) rfl dX10_init_700 ?_
  refine v_dup hz.1 dX10_init_701 rfl ?_
  refine v_bipush hz.1 30 dX10_init_702 rfl ?_
  refine v_bipush hz.1 116 dX10_init_704 rfl ?_
  refine c_iastA hz WM17 30 ⟨Nat.le_of_ble_eq_true rfl, rfl⟩ (by decide) rfl rfl (a' := 31) rfl dX10_init_706 ?_
  refine v_dup hz.1 dX10_init_707 rfl ?_
  refine v_bipush hz.1 31 dX10_init_708 rfl ?_
  refine v_bipush hz.1 104 dX10_init_710 rfl ?_
  refine c_iastA hz WM17 31 ⟨Nat.le_of_ble_eq_true rfl, rfl⟩ (by decide) rfl rfl (a' := 32) rfl dX10_init_712 ?_
  refine v_dup hz.1 dX10_init_713 rfl ?_
  refine v_bipush hz.1 32 dX10_init_714 rfl ?_
  refine v_bipush hz.1 108 dX10_init_716 rfl ?_
  refine c_iastA hz WM17 32 ⟨Nat.le_of_ble_eq_true rfl, rfl⟩ (by decide) rfl rfl (a' := 33) rfl dX10_init_718 ?_
  refine v_dup hz.1 dX10_init_719 rfl ?_
  refine v_bipush hz.1 33 dX10_init_720 rfl ?_
  refine v_bipush hz.1 105 dX10_init_722 rfl ?_
  refine c_iastA hz WM17 33 ⟨Nat.le_of_ble_eq_true rfl, rfl⟩ (by decide) rfl rfl (a' := 34) rfl dX10_init_724 ?_
  refine v_dup hz.1 dX10_init_725 rfl ?_
  refine v_bipush hz.1 34 dX10_init_726 rfl ?_
  refine v_bipush hz.1 101 dX10_init_728 rfl ?_
  refine c_iastA hz WM17 34 ⟨Nat.le_of_ble_eq_true rfl, rfl⟩ (by decide) rfl rfl (a' := 35) rfl dX10_init_730 ?_
  refine v_dup hz.1 dX10_init_731 rfl ?_
  refine v_bipush hz.1 35 dX10_init_732 rfl ?_
  refine v_bipush hz.1 32 dX10_init_734 rfl ?_
  refine c_iastA hz WM17 35 ⟨Nat.le_of_ble_eq_true rfl, rfl⟩ (by decide) rfl rfl (a' := 36) rfl dX10_init_736 ?_
  refine v_dup hz.1 dX10_init_737 rfl ?_
  refine v_bipush hz.1 36 dX10_init_738 rfl ?_
  refine v_bipush hz.1 32 dX10_init_740 rfl ?_
  refine c_iastA hz WM17 36 ⟨Nat.le_of_ble_eq_true rfl, rfl⟩ (by decide) rfl rfl (a' := 37) rfl dX10_init_742 ?_
  refine v_dup hz.1 dX10_init_743 rfl ?_
  refine v_bipush hz.1 37 dX10_init_744 rfl ?_
  refine v_bipush hz.1 32 dX10_init_746 rfl ?_
  refine c_iastA hz WM17 37 ⟨Nat.le_of_ble_eq_true rfl, rfl⟩ (by decide) rfl rfl (a' := 38) rfl dX10_init_748 ?_
  refine v_dup hz.1 dX10_init_749 rfl ?_
  refine v_bipush hz.1 38 dX10_init_750 rfl ?_
  refine v_bipush hz.1 32 dX10_init_752 rfl ?_
  refine c_iastA hz WM17 38 ⟨Nat.le_of_ble_eq_true rfl, rfl⟩ (by decide) rfl rfl (a' := 39) rfl dX10_init_754 ?_
  refine v_dup hz.1 dX10_init_755 rfl ?_
  refine v_bipush hz.1 39 dX10_init_756 rfl ?_
  refine v_bipush hz.1 32 dX10_init_758 rfl ?_
  refine c_iastA hz WM17 39 ⟨Nat.le_of_ble_eq_true rfl, rfl⟩ (by decide) rfl rfl (a' := 40) rfl dX10_init_760 ?_
  refine v_dup hz.1 dX10_init_761 rfl ?_
  refine v_bipush hz.1 40 dX10_init_762 rfl ?_
  refine v_bipush hz.1 109 dX10_init_764 rfl ?_
  refine c_iastA hz WM17 40 ⟨Nat.le_of_ble_eq_true rfl, rfl⟩ (by decide) rfl rfl (a' := 41) rfl dX10_init_766 ?_
  refine v_dup hz.1 dX10_init_767 rfl ?_
  refine v_bipush hz.1 41 dX10_init_768 rfl ?_
  refine v_bipush hz.1 111 dX10_init_770 rfl ?_
  refine c_iastA hz WM17 41 ⟨Nat.le_of_ble_eq_true rfl, rfl⟩ (by decide) rfl rfl (a' := 42) rfl dX10_init_772 ?_
  refine v_dup hz.1 dX10_init_773 rfl ?_
  refine v_bipush hz.1 42 dX10_init_774 rfl ?_
  refine v_bipush hz.1 114 dX10_init_776 rfl ?_
  refine c_iastA hz WM17 42 ⟨Nat.le_of_ble_eq_true rfl, rfl⟩ (by decide) rfl rfl (a' := 43) rfl dX10_init_778 ?_
  refine v_dup hz.1 dX10_init_779 rfl ?_
  refine v_bipush hz.1 43 dX10_init_780 rfl ?_
  refine v_bipush hz.1 101 dX10_init_782 rfl ?_
  refine c_iastA hz WM17 43 ⟨Nat.le_of_ble_eq_true rfl, rfl⟩ (by decide) rfl rfl (a' := 44) rfl dX10_init_784 ?_
  refine v_dup hz.1 dX10_init_785 rfl ?_
  refine v_bipush hz.1 44 dX10_init_786 rfl ?_
  refine v_bipush hz.1 32 dX10_init_788 rfl ?_
  refine c_iastA hz WM17 44 ⟨Nat.le_of_ble_eq_true rfl, rfl⟩ (by decide) rfl rfl (a' := 45) rfl dX10_init_790 ?_
  refine v_dup hz.1 dX10_init_791 rfl ?_
  refine v_bipush hz.1 45 dX10_init_792 rfl ?_
  refine v_bipush hz.1 32 dX10_init_794 rfl ?_
  refine c_iastA hz WM17 45 ⟨Nat.le_of_ble_eq_true rfl, rfl⟩ (by decide) rfl rfl (a' := 46) rfl dX10_init_796 ?_
  refine v_dup hz.1 dX10_init_797 rfl ?_
  refine v_bipush hz.1 46 dX10_init_798 rfl ?_
  refine v_bipush hz.1 32 dX10_init_800 rfl ?_
  refine c_iastA hz WM17 46 ⟨Nat.le_of_ble_eq_true rfl, rfl⟩ (by decide) rfl rfl (a' := 47) rfl dX10_init_802 ?_
  refine v_dup hz.1 dX10_init_803 rfl ?_
  refine v_bipush hz.1 47 dX10_init_804 rfl ?_
  refine v_bipush hz.1 32 dX10_init_806 rfl ?_
  refine c_iastA hz WM17 47 ⟨Nat.le_of_ble_eq_true rfl, rfl⟩ (by decide) rfl rfl (a' := 48) rfl dX10_init_808 ?_
  refine v_dup hz.1 dX10_init_809 rfl ?_
  refine v_bipush hz.1 48 dX10_init_810 rfl ?_
  refine v_bipush hz.1 115 dX10_init_812 rfl ?_
  refine c_iastA hz WM17 48 ⟨Nat.le_of_ble_eq_true rfl, rfl⟩ (by decide) rfl rfl (a' := 49) rfl dX10_init_814 ?_
  refine v_dup hz.1 dX10_init_815 rfl ?_
  refine v_bipush hz.1 49 dX10_init_816 rfl ?_
  refine v_bipush hz.1 101 dX10_init_818 rfl ?_
  refine c_iastA hz WM17 49 ⟨Nat.le_of_ble_eq_true rfl, rfl⟩ (by decide) rfl rfl (a' := 50) rfl dX10_init_820 ?_
  refine v_dup hz.1 dX10_init_821 rfl ?_
  refine v_bipush hz.1 50 dX10_init_822 rfl ?_
  refine v_bipush hz.1 99 dX10_init_824 rfl ?_
  refine c_iastA hz WM17 50 ⟨Nat.le_of_ble_eq_true rfl, rfl⟩ (by decide) rfl rfl (a' := 51) rfl dX10_init_826 ?_
  refine v_dup hz.1 dX10_init_827 rfl ?_
  refine v_bipush hz.1 51 dX10_init_828 rfl ?_
  refine v_bipush hz.1 111 dX10_init_830 rfl ?_
  refine c_iastA hz WM17 51 ⟨Nat.le_of_ble_eq_true rfl, rfl⟩ (by decide) rfl rfl (a' := 52) rfl dX10_init_832 ?_
  refine v_dup hz.1 dX10_init_833 rfl ?_
  refine v_bipush hz.1 52 dX10_init_834 rfl ?_
  refine v_bipush hz.1 110 dX10_init_836 rfl ?_
  refine c_iastA hz WM17 52 ⟨Nat.le_of_ble_eq_true rfl, rfl⟩ (by decide) rfl rfl (a' := 53) rfl dX10_init_838 ?_
  refine v_dup hz.1 dX10_init_839 rfl ?_
  refine v_bipush hz.1 53 dX10_init_840 rfl ?_
  refine v_bipush hz.1 100 dX10_init_842 rfl ?_
  refine c_iastA hz WM17 53 ⟨Nat.le_of_ble_eq_true rfl, rfl⟩ (by decide) rfl rfl (a' := 54) rfl dX10_init_844 ?_
  refine v_dup hz.1 dX10_init_845 rfl ?_
  refine v_bipush hz.1 54 dX10_init_846 rfl ?_
  refine v_bipush hz.1 32 dX10_init_848 rfl ?_
  refine c_iastA hz WM17 54 ⟨Nat.le_of_ble_eq_true rfl, rfl⟩ (by decide) rfl rfl (a' := 55) rfl dX10_init_850 ?_
  refine v_dup hz.1 dX10_init_851 rfl ?_
  refine v_bipush hz.1 55 dX10_init_852 rfl ?_
  refine v_bipush hz.1 32 dX10_init_854 rfl ?_
  refine c_iastA hz WM17 55 ⟨Nat.le_of_ble_eq_true rfl, rfl⟩ (by decide) rfl rfl (a' := 56) rfl dX10_init_856 ?_
  refine v_dup hz.1 dX10_init_857 rfl ?_
  refine v_bipush hz.1 56 dX10_init_858 rfl ?_
  refine v_bipush hz.1 99 dX10_init_860 rfl ?_
  refine c_iastA hz WM17 56 ⟨Nat.le_of_ble_eq_true rfl, rfl⟩ (by decide) rfl rfl (a' := 57) rfl dX10_init_862 ?_
  refine v_dup hz.1 dX10_init_863 rfl ?_
  refine v_bipush hz.1 57 dX10_init_864 rfl ?_
  refine v_bipush hz.1 101 dX10_init_866 rfl ?_
  refine c_iastA hz WM17 57 ⟨Nat.le_of_ble_eq_true rfl, rfl⟩ (by decide) rfl rfl (a' := 58) rfl dX10_init_868 ?_
  refine v_dup hz.1 dX10_init_869 rfl ?_
  refine v_bipush hz.1 58 dX10_init_870 rfl ?_
  refine v_bipush hz.1 108 dX10_init_872 rfl ?_
  refine c_iastA hz WM17 58 ⟨Nat.le_of_ble_eq_true rfl, rfl⟩ (by decide) rfl rfl (a' := 59) rfl dX10_init_874 ?_
  refine v_dup hz.1 dX10_init_875 rfl ?_
  refine v_bipush hz.1 59 dX10_init_876 rfl ?_
  refine v_bipush hz.1 108 dX10_init_878 rfl ?_
  refine c_iastA hz WM17 59 ⟨Nat.le_of_ble_eq_true rfl, rfl⟩ (by decide) rfl rfl (a' := 60) rfl dX10_init_880 ?_
  refine v_dup hz.1 dX10_init_881 rfl ?_
  refine v_bipush hz.1 60 dX10_init_882 rfl ?_
  refine v_bipush hz.1 32 dX10_init_884 rfl ?_
  refine c_iastA hz WM17 60 ⟨Nat.le_of_ble_eq_true rfl, rfl⟩ (by decide) rfl rfl (a' := 61) rfl dX10_init_886 ?_
  refine v_dup hz.1 dX10_init_887 rfl ?_
  refine v_bipush hz.1 61 dX10_init_888 rfl ?_
  refine v_bipush hz.1 32 dX10_init_890 rfl ?_
  refine c_iastA hz WM17 61 ⟨Nat.le_of_ble_eq_true rfl, rfl⟩ (by decide) rfl rfl (a' := 62) rfl dX10_init_892 ?_
  refine v_dup hz.1 dX10_init_893 rfl ?_
  refine v_bipush hz.1 62 dX10_init_894 rfl ?_
  refine v_bipush hz.1 32 dX10_init_896 rfl ?_
  refine c_iastA hz WM17 62 ⟨Nat.le_of_ble_eq_true rfl, rfl⟩ (by decide) rfl rfl (a' := 63) rfl dX10_init_898 ?_
  refine v_dup hz.1 dX10_init_899 rfl ?_
  refine v_bipush hz.1 63 dX10_init_900 rfl ?_
  refine v_bipush hz.1 32 dX10_init_902 rfl ?_
  refine c_iastA hz WM17 63 ⟨Nat.le_of_ble_eq_true rfl, rfl⟩ (by decide) rfl rfl (a' := 64) rfl dX10_init_904 ?_
  refine v_dup hz.1 dX10_init_905 rfl ?_
  refine v_bipush hz.1 64 dX10_init_906 rfl ?_
  refine v_bipush hz.1 107 dX10_init_908 rfl ?_
  refine c_iastA hz WM17 64 ⟨Nat.le_of_ble_eq_true rfl, rfl⟩ (by decide) rfl rfl (a' := 65) rfl dX10_init_910 ?_
  refine v_dup hz.1 dX10_init_911 rfl ?_
  refine v_bipush hz.1 65 dX10_init_912 rfl ?_
  refine v_bipush hz.1 105 dX10_init_914 rfl ?_
  refine c_iastA hz WM17 65 ⟨Nat.le_of_ble_eq_true rfl, rfl⟩ (by decide) rfl rfl (a' := 66) rfl dX10_init_916 ?_
  refine v_dup hz.1 dX10_init_917 rfl ?_
  refine v_bipush hz.1 66 dX10_init_918 rfl ?_
  refine v_bipush hz.1 110 dX10_init_920 rfl ?_
  refine c_iastA hz WM17 66 ⟨Nat.le_of_ble_eq_true rfl, rfl⟩ (by decide) rfl rfl (a' := 67) rfl dX10_init_922 ?_
  refine v_dup hz.1 dX10_init_923 rfl ?_
  refine v_bipush hz.1 67 dX10_init_924 rfl ?_
  refine v_bipush hz.1 100 dX10_init_926 rfl ?_
  refine c_iastA hz WM17 67 ⟨Nat.le_of_ble_eq_true rfl, rfl⟩ (by decide) rfl rfl (a' := 68) rfl dX10_init_928 ?_
  refine v_dup hz.1 dX10_init_929 rfl ?_
  refine v_bipush hz.1 68 dX10_init_930 rfl ?_
  refine v_bipush hz.1 32 dX10_init_932 rfl ?_
  refine c_iastA hz WM17 68 ⟨Nat.le_of_ble_eq_true rfl, rfl⟩ (by decide) rfl rfl (a' := 69) rfl dX10_init_934 ?_
  refine v_dup hz.1 dX10_init_935 rfl ?_
  refine v_bipush hz.1 69 dX10_init_936 rfl ?_
  refine v_bipush hz.1 32 dX10_init_938 rfl ?_
  refine c_iastA hz WM17 69 ⟨Nat.le_of_ble_eq_true rfl, rfl⟩ (by decide) rfl rfl (a' := 70) rfl dX10_init_940 ?_
  refine v_dup hz.1 dX10_init_941 rfl ?_
  refine v_bipush hz.1 70 dX10_init_942 rfl ?_
  refine v_bipush hz.1 32 dX10_init_944 rfl ?_
  refine c_iastA hz WM17 70 ⟨Nat.le_of_ble_eq_true rfl, rfl⟩ (by decide) rfl rfl (a' := 71) rfl dX10_init_946 ?_
  refine v_dup hz.1 dX10_init_947 rfl ?_
  refine v_bipush hz.1 71 dX10_init_948 rfl ?_
  refine v_bipush hz.1 32 dX10_init_950 rfl ?_
  refine c_iastA hz WM17 71 ⟨Nat.le_of_ble_eq_true rfl, rfl⟩ (by decide) rfl rfl (a' := 72) rfl dX10_init_952 ?_
  refine v_dup hz.1 dX10_init_953 rfl ?_
  refine v_bipush hz.1 72 dX10_init_954 rfl ?_
  refine v_bipush hz.1 111 dX10_init_956 rfl ?_
  refine c_iastA hz WM17 72 ⟨Nat.le_of_ble_eq_true rfl, rfl⟩ (by decide) rfl rfl (a' := 73) rfl dX10_init_958 ?_
  refine v_dup hz.1 dX10_init_959 rfl ?_
  refine v_bipush hz.1 73 dX10_init_960 rfl ?_
  refine v_bipush hz.1 114 dX10_init_962 rfl ?_
  refine c_iastA hz WM17 73 ⟨Nat.le_of_ble_eq_true rfl, rfl⟩ (by decide) rfl rfl (a' := 74) rfl dX10_init_964 ?_
  refine v_dup hz.1 dX10_init_965 rfl ?_
  refine v_bipush hz.1 74 dX10_init_966 rfl ?_
  refine v_bipush hz.1 32 dX10_init_968 rfl ?_
  refine c_iastA hz WM17 74 ⟨Nat.le_of_ble_eq_true rfl, rfl⟩ (by decide) rfl rfl (a' := 75) rfl dX10_init_970 ?_
  refine v_dup hz.1 dX10_init_971 rfl ?_
  refine v_bipush hz.1 75 dX10_init_972 rfl ?_
  refine v_bipush hz.1 32 dX10_init_974 rfl ?_
  refine c_iastA hz WM17 75 ⟨Nat.le_of_ble_eq_true rfl, rfl⟩ (by decide) rfl rfl (a' := 76) rfl dX10_init_976 ?_
  refine v_dup hz.1 dX10_init_977 rfl ?_
  refine v_bipush hz.1 76 dX10_init_978 rfl ?_
  refine v_bipush hz.1 32 dX10_init_980 rfl ?_
  refine c_iastA hz WM17 76 ⟨Nat.le_of_ble_eq_true rfl, rfl⟩ (by decide) rfl rfl (a' := 77) rfl dX10_init_982 ?_
  refine v_dup hz.1 dX10_init_983 rfl ?_
  refine v_bipush hz.1 77 dX10_init_984 rfl ?_
  refine v_bipush hz.1 32 dX10_init_986 rfl ?_
  refine c_iastA hz WM17 77 ⟨Nat.le_of_ble_eq_true rfl, rfl⟩ (by decide) rfl rfl (a' := 78) rfl dX10_init_988 ?_
  refine v_dup hz.1 dX10_init_989 rfl ?_
  refine v_bipush hz.1 78 dX10_init_990 rfl ?_
  refine v_bipush hz.1 32 dX10_init_992 rfl ?_
  refine c_iastA hz WM17 78 ⟨Nat.le_of_ble_eq_true rfl, rfl⟩ (by decide) rfl rfl (a' := 79) rfl dX10_init_994 ?_
  refine v_dup hz.1 dX10_init_995 rfl ?_
  refine v_bipush hz.1 79 dX10_init_996 rfl ?_
  refine v_bipush hz.1 32 dX10_init_998 rfl ?_
  refine c_iastA hz WM17 79 ⟨Nat.le_of_ble_eq_true rfl, rfl⟩ (by decide) rfl rfl (a' := 80) rfl dX10_init_1000 ?_
  refine v_dup hz.1 dX10_init_1001 rfl ?_
  refine v_bipush hz.1 80 dX10_init_1002 rfl ?_
  refine v_bipush hz.1 97 dX10_init_1004 rfl ?_
  refine c_iastA hz WM17 80 ⟨Nat.le_of_ble_eq_true rfl, rfl⟩ (by decide) rfl rfl (a' := 81) rfl dX10_init_1006 ?_
  refine v_dup hz.1 dX10_init_1007 rfl ?_
  refine v_bipush hz.1 81 dX10_init_1008 rfl ?_
  refine v_bipush hz.1 110 dX10_init_1010 rfl ?_
  refine c_iastA hz WM17 81 ⟨Nat.le_of_ble_eq_true rfl, rfl⟩ (by decide) rfl rfl (a' := 82) rfl dX10_init_1012 ?_
  refine v_dup hz.1 dX10_init_1013 rfl ?_
  refine v_bipush hz.1 82 dX10_init_1014 rfl ?_
  refine v_bipush hz.1 100 dX10_init_1016 rfl ?_
  refine c_iastA hz WM17 82 ⟨Nat.le_of_ble_eq_true rfl, rfl⟩ (by decide) rfl rfl (a' := 83) rfl dX10_init_1018 ?_
  refine v_dup hz.1 dX10_init_1019 rfl ?_
  refine v_bipush hz.1 83 dX10_init_1020 rfl ?_
  refine v_bipush hz.1 32 dX10_init_1022 rfl ?_
  refine c_iastA hz WM17 83 ⟨Nat.le_of_ble_eq_true rfl, rfl⟩ (by decide) rfl rfl (a' := 84) rfl dX10_init_1024 ?_
  refine v_dup hz.1 dX10_init_1025 rfl ?_
  refine v_bipush hz.1 84 dX10_init_1026 rfl ?_
  refine v_bipush hz.1 32 dX10_init_1028 rfl ?_
  refine c_iastA hz WM17 84 ⟨Nat.le_of_ble_eq_true rfl, rfl⟩ (by decide) rfl rfl (a' := 85) rfl dX10_init_1030 ?_
  refine v_dup hz.1 dX10_init_1031 rfl ?_
  refine v_bipush hz.1 85 dX10_init_1032 rfl ?_
  refine v_bipush hz.1 32 dX10_init_1034 rfl ?_
  refine c_iastA hz WM17 85 ⟨Nat.le_of_ble_eq_true rfl, rfl⟩ (by decide) rfl rfl (a' := 86) rfl dX10_init_1036 ?_
  refine v_dup hz.1 dX10_init_1037 rfl ?_
  refine v_bipush hz.1 86 dX10_init_1038 rfl ?_
  refine v_bipush hz.1 32 dX10_init_1040 rfl ?_
  refine c_iastA hz WM17 86 ⟨Nat.le_of_ble_eq_true rfl, rfl⟩ (by decide) rfl rfl (a' := 87) rfl dX10_init_1042 ?_
  refine v_dup hz.1 dX10_init_1043 rfl ?_
  refine v_bipush hz.1 87 dX10_init_1044 rfl ?_
  refine v_bipush hz.1 32 dX10_init_1046 rfl ?_
  refine c_iastA hz WM17 87 ⟨Nat.le_of_ble_eq_true rfl, rfl⟩ (by decide) rfl rfl (a' := 88) rfl dX10_init_1048 ?_
  refine v_dup hz.1 dX10_init_1049 rfl ?_
  refine v_bipush hz.1 88 dX10_init_1050 rfl ?_
  refine v_bipush hz.1 110 dX10_init_1052 rfl ?_
  refine c_iastA hz WM17 88 ⟨Nat.le_of_ble_eq_true rfl, rfl⟩ (by decide) rfl rfl (a' := 89) rfl dX10_init_1054 ?_
  refine v_dup hz.1 dX10_init_1055 rfl ?_
  refine v_bipush hz.1 89 dX10_init_1056 rfl ?_
  refine v_bipush hz.1 111 dX10_init_1058 rfl ?_
  refine c_iastA hz WM17 89 ⟨Nat.le_of_ble_eq_true rfl, rfl⟩ (by decide) rfl rfl (a' := 90) rfl dX10_init_1060 ?_
  refine v_dup hz.1 dX10_init_1061 rfl ?_
  refine v_bipush hz.1 90 dX10_init_1062 rfl ?_
  refine v_bipush hz.1 116 dX10_init_1064 rfl ?_
  refine c_iastA hz WM17 90 ⟨Nat.le_of_ble_eq_true rfl, rfl⟩ (by decide) rfl rfl (a' := 91) rfl dX10_init_1066 ?_
  refine v_dup hz.1 dX10_init_1067 rfl ?_
  refine v_bipush hz.1 91 dX10_init_1068 rfl ?_
  refine v_bipush hz.1 32 dX10_init_1070 rfl ?_
  refine c_iastA hz WM17 91 ⟨Nat.le_of_ble_eq_true rfl, rfl⟩ (by decide) rfl rfl (a' := 92) rfl dX10_init_1072 ?_
  refine v_dup hz.1 dX10_init_1073 rfl ?_
  refine v_bipush hz.1 92 dX10_init_1074 rfl ?_
  refine v_bipush hz.1 32 dX10_init_1076 rfl ?_
  refine c_iastA hz WM17 92 ⟨Nat.le_of_ble_eq_true rfl, rfl⟩ (by decide) rfl rfl (a' := 93) rfl dX10_init_1078 ?_
  refine v_dup hz.1 dX10_init_1079 rfl ?_
  refine v_bipush hz.1 93 dX10_init_1080 rfl ?_
  refine v_bipush hz.1 32 dX10_init_1082 rfl ?_
  refine c_iastA hz WM17 93 ⟨Nat.le_of_ble_eq_true rfl, rfl⟩ (by decide) rfl rfl (a' := 94) rfl dX10_init_1084 ?_
  refine v_dup hz.1 dX10_init_1085 rfl ?_
  refine v_bipush hz.1 94 dX10_init_1086 rfl ?_
  refine v_bipush hz.1 32 dX10_init_1088 rfl ?_
  refine c_iastA hz WM17 94 ⟨Nat.le_of_ble_eq_true rfl, rfl⟩ (by decide) rfl rfl (a' := 95) rfl dX10_init_1090 ?_
  refine v_dup hz.1 dX10_init_1091 rfl ?_
  refine v_bipush hz.1 95 dX10_init_1092 rfl ?_
  refine v_bipush hz.1 32 dX10_init_1094 rfl ?_
  refine c_iastA hz WM17 95 ⟨Nat.le_of_ble_eq_true rfl, rfl⟩ (by decide) rfl rfl (a' := 96) rfl dX10_init_1096 ?_
  refine c_putr hz hi ⟨Nat.le_of_ble_eq_true rfl, rfl⟩ ff_X10_58 rfl (by decide) rfl rfl dX10_init_1097 ?_
  refine c_rf (rf' := (rfM 18)) (by decide +kernel) ?_
  exact kk
set_option maxRecDepth 20000 in
set_option maxHeartbeats 4000000 in
theorem w_X10_3 {Z : hZ} {Q : State → Prop} (hz : cOK Z cX10_init RX10 2 99 25 2465 1 none) (hi : Z.2.2.1.2.2.2.1.name = "<init>") (kk : hB Z Q (cI Z (hYm.1, (rfM 26), 26) (MAi (MAi (MAi (MAi cM0 2 WM2 24) 13 WM13 4) 16 WM16 45) 17 WM17 96)) 25 2465 1166 [(0, .ref (h_b Z + 0))] []) : hB Z Q (cI Z (hYm.1, (rfM 18), 18) (MAi (MAi (MAi (MAi cM0 2 WM2 24) 13 WM13 4) 16 WM16 45) 17 WM17 96)) 17 1851 1100 [(0, .ref (h_b Z + 0))] [] := by
  refine v_aload_n hz.1 dX10_init_1100 rfl 0 rfl ?_
  refine v_sipush hz.1 200 dX10_init_1101 rfl ?_
  refine c_newiN (N' := 19) (cs' := 18) (ss' := 2051) hz 200 ac_int rfl (by decide) rfl (by decide) ((((((cM0_z).mono (m := 18) rfl).ma rfl).ma rfl).ma rfl).ma rfl) rfl (by decide) (by decide) (by decide) dX10_init_1104 rfl rfl rfl ?_
  refine c_putr hz hi ⟨Nat.le_of_ble_eq_true rfl, rfl⟩ ff_X10_61 rfl (by decide) rfl rfl dX10_init_1106 ?_
  refine c_rf (rf' := (rfM 19)) (by decide +kernel) ?_
  refine v_aload_n hz.1 dX10_init_1109 rfl 0 rfl ?_
  refine v_sipush hz.1 200 dX10_init_1110 rfl ?_
  refine c_newiN (N' := 20) (cs' := 19) (ss' := 2251) hz 200 ac_int rfl (by decide) rfl (by decide) ((((((cM0_z).mono (m := 19) rfl).ma rfl).ma rfl).ma rfl).ma rfl) rfl (by decide) (by decide) (by decide) dX10_init_1113 rfl rfl rfl ?_
  refine c_putr hz hi ⟨Nat.le_of_ble_eq_true rfl, rfl⟩ ff_X10_64 rfl (by decide) rfl rfl dX10_init_1115 ?_
  refine c_rf (rf' := (rfM 20)) (by decide +kernel) ?_
  refine v_aload_n hz.1 dX10_init_1118 rfl 0 rfl ?_
  refine v_bipush hz.1 6 dX10_init_1119 rfl ?_
  refine c_newiN (N' := 21) (cs' := 20) (ss' := 2257) hz 6 ac_int rfl (by decide) rfl (by decide) ((((((cM0_z).mono (m := 20) rfl).ma rfl).ma rfl).ma rfl).ma rfl) rfl (by decide) (by decide) (by decide) dX10_init_1121 rfl rfl rfl ?_
  refine c_putr hz hi ⟨Nat.le_of_ble_eq_true rfl, rfl⟩ ff_X10_67 rfl (by decide) rfl rfl dX10_init_1123 ?_
  refine c_rf (rf' := (rfM 21)) (by decide +kernel) ?_
  refine v_aload_n hz.1 dX10_init_1126 rfl 0 rfl ?_
  refine v_bipush hz.1 96 dX10_init_1127 rfl ?_
  refine c_newiN (N' := 22) (cs' := 21) (ss' := 2353) hz 96 ac_int rfl (by decide) rfl (by decide) ((((((cM0_z).mono (m := 21) rfl).ma rfl).ma rfl).ma rfl).ma rfl) rfl (by decide) (by decide) (by decide) dX10_init_1129 rfl rfl rfl ?_
  refine c_putr hz hi ⟨Nat.le_of_ble_eq_true rfl, rfl⟩ ff_X10_70 rfl (by decide) rfl rfl dX10_init_1131 ?_
  refine c_rf (rf' := (rfM 22)) (by decide +kernel) ?_
  refine v_aload_n hz.1 dX10_init_1134 rfl 0 rfl ?_
  refine v_bipush hz.1 32 dX10_init_1135 rfl ?_
  refine c_newiN (N' := 23) (cs' := 22) (ss' := 2385) hz 32 ac_int rfl (by decide) rfl (by decide) ((((((cM0_z).mono (m := 22) rfl).ma rfl).ma rfl).ma rfl).ma rfl) rfl (by decide) (by decide) (by decide) dX10_init_1137 rfl rfl rfl ?_
  refine c_putr hz hi ⟨Nat.le_of_ble_eq_true rfl, rfl⟩ ff_X10_73 rfl (by decide) rfl rfl dX10_init_1139 ?_
  refine c_rf (rf' := (rfM 23)) (by decide +kernel) ?_
  refine v_aload_n hz.1 dX10_init_1142 rfl 0 rfl ?_
  refine v_bipush hz.1 32 dX10_init_1143 rfl ?_
  refine c_newiN (N' := 24) (cs' := 23) (ss' := 2417) hz 32 ac_int rfl (by decide) rfl (by decide) ((((((cM0_z).mono (m := 23) rfl).ma rfl).ma rfl).ma rfl).ma rfl) rfl (by decide) (by decide) (by decide) dX10_init_1145 rfl rfl rfl ?_
  refine c_putr hz hi ⟨Nat.le_of_ble_eq_true rfl, rfl⟩ ff_X10_76 rfl (by decide) rfl rfl dX10_init_1147 ?_
  refine c_rf (rf' := (rfM 24)) (by decide +kernel) ?_
  refine v_aload_n hz.1 dX10_init_1150 rfl 0 rfl ?_
  refine v_bipush hz.1 24 dX10_init_1151 rfl ?_
  refine c_newiN (N' := 25) (cs' := 24) (ss' := 2441) hz 24 ac_int rfl (by decide) rfl (by decide) ((((((cM0_z).mono (m := 24) rfl).ma rfl).ma rfl).ma rfl).ma rfl) rfl (by decide) (by decide) (by decide) dX10_init_1153 rfl rfl rfl ?_
  refine c_putr hz hi ⟨Nat.le_of_ble_eq_true rfl, rfl⟩ ff_X10_79 rfl (by decide) rfl rfl dX10_init_1155 ?_
  refine c_rf (rf' := (rfM 25)) (by decide +kernel) ?_
  refine v_aload_n hz.1 dX10_init_1158 rfl 0 rfl ?_
  refine v_bipush hz.1 24 dX10_init_1159 rfl ?_
  refine c_newiN (N' := 26) (cs' := 25) (ss' := 2465) hz 24 ac_int rfl (by decide) rfl (by decide) ((((((cM0_z).mono (m := 25) rfl).ma rfl).ma rfl).ma rfl).ma rfl) rfl (by decide) (by decide) (by decide) dX10_init_1161 rfl rfl rfl ?_
  refine c_putr hz hi ⟨Nat.le_of_ble_eq_true rfl, rfl⟩ ff_X10_82 rfl (by decide) rfl rfl dX10_init_1163 ?_
  refine c_rf (rf' := (rfM 26)) (by decide +kernel) ?_
  exact kk
