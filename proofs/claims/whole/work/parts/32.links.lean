theorem tk1_in {w : Cond} (j : Nat) (h : tables_1_1[j]? = some w) (hg : goodWord w = true) : w ∈ h_tbl := by
  refine List.mem_filter.mpr ⟨?_, hg⟩
  have h1 := List.mem_of_getElem? h
  unfold lw_tbl tables_1
  simp [h1]
theorem tk2_in {w : Cond} (j : Nat) (h : tables_1_2[j]? = some w) (hg : goodWord w = true) : w ∈ h_tbl := by
  refine List.mem_filter.mpr ⟨?_, hg⟩
  have h1 := List.mem_of_getElem? h
  unfold lw_tbl tables_1
  simp [h1]
theorem tk3_in {w : Cond} (j : Nat) (h : tables_1_3[j]? = some w) (hg : goodWord w = true) : w ∈ h_tbl := by
  refine List.mem_filter.mpr ⟨?_, hg⟩
  have h1 := List.mem_of_getElem? h
  unfold lw_tbl tables_1
  simp [h1]
theorem tk4_in {w : Cond} (j : Nat) (h : tables_1_4[j]? = some w) (hg : goodWord w = true) : w ∈ h_tbl := by
  refine List.mem_filter.mpr ⟨?_, hg⟩
  have h1 := List.mem_of_getElem? h
  unfold lw_tbl tables_1
  simp [h1]
theorem tk5_in {w : Cond} (j : Nat) (h : tables_1_5[j]? = some w) (hg : goodWord w = true) : w ∈ h_tbl := by
  refine List.mem_filter.mpr ⟨?_, hg⟩
  have h1 := List.mem_of_getElem? h
  unfold lw_tbl tables_1
  simp [h1]
theorem tk6_in {w : Cond} (j : Nat) (h : tables_1_6[j]? = some w) (hg : goodWord w = true) : w ∈ h_tbl := by
  refine List.mem_filter.mpr ⟨?_, hg⟩
  have h1 := List.mem_of_getElem? h
  unfold lw_tbl tables_1
  simp [h1]
theorem tk7_in {w : Cond} (j : Nat) (h : tables_1_7[j]? = some w) (hg : goodWord w = true) : w ∈ h_tbl := by
  refine List.mem_filter.mpr ⟨?_, hg⟩
  have h1 := List.mem_of_getElem? h
  unfold lw_tbl tables_1
  simp [h1]
theorem h_all {ws : List Cond} (ps : List Nat) (h : ps.map (fun i => lw_tbl[i]?) = ws.map some) (hg : ws.all goodWord = true) : ∀ w ∈ ws, w ∈ h_tbl := by
  intro w hw
  obtain ⟨i, hi⟩ := List.getElem?_of_mem hw
  have h1 : (ps.map (fun i => lw_tbl[i]?))[i]? = some (some w) := by rw [h, List.getElem?_map, hi]; rfl
  rw [List.getElem?_map] at h1
  cases hp : ps[i]? with
  | none => rw [hp] at h1; cases h1
  | some q => rw [hp] at h1; exact h_in q (Option.some.inj h1) (List.all_eq_true.mp hg w hw)
set_option maxRecDepth 20000 in
theorem uw_X0 : ∀ w ∈ u_ws RX0 TX0 3, w ∈ h_tbl := h_all [149, 151, 153] (by decide +kernel) (by decide +kernel)
set_option maxRecDepth 20000 in
theorem uw_X1 : ∀ w ∈ u_ws RX1 TX1 6, w ∈ h_tbl := h_all [318, 320, 322, 324, 326, 328] (by decide +kernel) (by decide +kernel)
set_option maxRecDepth 20000 in
theorem uw_X2 : ∀ w ∈ u_ws RX2 TX2 3, w ∈ h_tbl := h_all [123, 125, 127] (by decide +kernel) (by decide +kernel)
set_option maxRecDepth 20000 in
theorem uw_X4 : ∀ w ∈ u_ws RX4 TX4 4, w ∈ h_tbl := h_all [210, 212, 214, 216] (by decide +kernel) (by decide +kernel)
set_option maxRecDepth 20000 in
theorem uw_X5 : ∀ w ∈ u_ws RX5 TX5 9, w ∈ h_tbl := h_all [229, 231, 233, 235, 237, 239, 241, 243, 245] (by decide +kernel) (by decide +kernel)
set_option maxRecDepth 20000 in
theorem uw_X6 : ∀ w ∈ u_ws RX6 TX6 3, w ∈ h_tbl := h_all [345, 347, 349] (by decide +kernel) (by decide +kernel)
set_option maxRecDepth 20000 in
theorem uw_X7 : ∀ w ∈ u_ws RX7 TX7 8, w ∈ h_tbl := h_all [175, 177, 179, 181, 183, 185, 187, 189] (by decide +kernel) (by decide +kernel)
set_option maxRecDepth 20000 in
theorem uw_X8 : ∀ w ∈ u_ws RX8 TX8 11, w ∈ h_tbl := h_all [278, 280, 282, 284, 286, 288, 290, 292, 294, 296, 298] (by decide +kernel) (by decide +kernel)
set_option maxRecDepth 20000 in
theorem uw_X9 : ∀ w ∈ u_ws RX9 TX9 10, w ∈ h_tbl := h_all [538, 540, 542, 544, 546, 548, 550, 552, 554, 556] (by decide +kernel) (by decide +kernel)
set_option maxRecDepth 20000 in
theorem uw_X10 : ∀ w ∈ u_ws RX10 TX10 45, w ∈ h_tbl := h_all [1119, 1121, 1123, 1125, 1127, 1129, 1131, 1133, 1135, 1137, 1139, 1141, 1143, 1145, 1147, 1149, 1151, 1153, 1155, 1157, 1159, 1161, 1163, 1165, 1167, 1169, 1171, 1173, 1175, 1177, 1179, 1181, 1183, 1185, 1187, 1189, 1191, 1193, 1195, 1197, 1199, 1201, 1203, 1205, 1207] (by decide +kernel) (by decide +kernel)
theorem fl_X9_12 : h_FL RX9 12 8 0 := ⟨RX9, TX9, tyX9, rfl, by decide, by decide, tk2_in 216 rfl rfl, uw_X9, tyX9_ok, nmX9⟩
theorem fl_X9_16 : h_FL RX9 16 8 1 := ⟨RX9, TX9, tyX9, rfl, by decide, by decide, tk2_in 217 rfl rfl, uw_X9, tyX9_ok, nmX9⟩
theorem fl_X9_19 : h_FL RX9 19 8 2 := ⟨RX9, TX9, tyX9, rfl, by decide, by decide, tk2_in 218 rfl rfl, uw_X9, tyX9_ok, nmX9⟩
theorem fp_X9_19 : h_FP RX9 19 8 2 .boolean := ⟨RX9, TX9, tyX9, rfl, by decide, by decide, tk2_in 218 rfl rfl, uw_X9, tyX9_ok, nmX9, rfl, by decide +kernel⟩
theorem fl_X9_25 : h_FL RX9 25 8 3 := ⟨RX9, TX9, tyX9, rfl, by decide, by decide, tk2_in 219 rfl rfl, uw_X9, tyX9_ok, nmX9⟩
theorem fl_X9_29 : h_FL RX9 29 8 4 := ⟨RX9, TX9, tyX9, rfl, by decide, by decide, tk2_in 220 rfl rfl, uw_X9, tyX9_ok, nmX9⟩
theorem fp_X9_29 : h_FP RX9 29 8 4 .int := ⟨RX9, TX9, tyX9, rfl, by decide, by decide, tk2_in 220 rfl rfl, uw_X9, tyX9_ok, nmX9, rfl, by decide +kernel⟩
theorem fl_X9_36 : h_FL RX9 36 8 5 := ⟨RX9, TX9, tyX9, rfl, by decide, by decide, tk2_in 221 rfl rfl, uw_X9, tyX9_ok, nmX9⟩
theorem fl_X9_42 : h_FL RX9 42 8 6 := ⟨RX9, TX9, tyX9, rfl, by decide, by decide, tk2_in 222 rfl rfl, uw_X9, tyX9_ok, nmX9⟩
theorem fl_X9_49 : h_FL RX9 49 8 7 := ⟨RX9, TX9, tyX9, rfl, by decide, by decide, tk2_in 223 rfl rfl, uw_X9, tyX9_ok, nmX9⟩
theorem fl_X9_56 : h_FL RX9 56 8 8 := ⟨RX9, TX9, tyX9, rfl, by decide, by decide, tk2_in 224 rfl rfl, uw_X9, tyX9_ok, nmX9⟩
theorem fl_X9_60 : h_FL RX9 60 8 9 := ⟨RX9, TX9, tyX9, rfl, by decide, by decide, tk2_in 225 rfl rfl, uw_X9, tyX9_ok, nmX9⟩
theorem m0_J0_length_8abf5 : h_M0 yJ0_length_8abf5 cJ0_length_8abf5 1 (some .int) 0 := ⟨tk2_in 44 rfl rfl, tk1_in 10 rfl rfl, ⟨by decide, by decide, by decide +kernel⟩, by decide⟩
theorem mv_X9_68 : h_MV RX9 68 yJ0_length_8abf5 cJ0_length_8abf5 1 (some .int) 0 := ⟨m0_J0_length_8abf5, tk2_in 41 rfl rfl, tk2_in 42 rfl rfl, tk2_in 43 rfl rfl⟩
theorem m0_J0_charAt_5068e : h_M0 yJ0_charAt_5068e cJ0_charAt_5068e 2 (some .char) 1 := ⟨tk2_in 54 rfl rfl, tk1_in 10 rfl rfl, ⟨by decide, by decide, by decide +kernel⟩, by decide⟩
theorem mv_X9_74 : h_MV RX9 74 yJ0_charAt_5068e cJ0_charAt_5068e 2 (some .char) 1 := ⟨m0_J0_charAt_5068e, tk2_in 51 rfl rfl, tk2_in 52 rfl rfl, tk2_in 53 rfl rfl⟩
theorem m0_X5_put : h_M0 yX5_put cX5_put 2 none 1 := ⟨tk2_in 92 rfl rfl, tk1_in 5 rfl rfl, ⟨by decide, by decide, by decide +kernel⟩, by decide⟩
theorem mv_X9_78 : h_MV RX9 78 yX5_put cX5_put 2 none 1 := ⟨m0_X5_put, tk2_in 89 rfl rfl, tk2_in 90 rfl rfl, tk2_in 91 rfl rfl⟩
theorem m0_X5_readInto : h_M0 yX5_readInto cX5_readInto 2 (some .int) 1 := ⟨tk2_in 96 rfl rfl, tk1_in 5 rfl rfl, ⟨by decide, by decide, by decide +kernel⟩, by decide⟩
theorem mv_X9_82 : h_MV RX9 82 yX5_readInto cX5_readInto 2 (some .int) 1 := ⟨m0_X5_readInto, tk2_in 93 rfl rfl, tk2_in 94 rfl rfl, tk2_in 95 rfl rfl⟩
theorem m0_X9_isSquare : h_M0 yX9_isSquare cX9_isSquare 1 (some .boolean) 1 := ⟨tk3_in 14 rfl rfl, tk1_in 1 rfl rfl, ⟨by decide, by decide, by decide +kernel⟩, by decide⟩
theorem ms_X9_86 : h_MS RX9 86 yX9_isSquare cX9_isSquare 1 (some .boolean) 1 := ⟨m0_X9_isSquare, tk3_in 12 rfl rfl, tk3_in 13 rfl rfl⟩
theorem m0_X7_hatSquares : h_M0 yX7_hatSquares cX7_hatSquares 3 (some .int) 0 := ⟨tk3_in 18 rfl rfl, tk1_in 2 rfl rfl, ⟨by decide, by decide, by decide +kernel⟩, by decide⟩
theorem mv_X9_90 : h_MV RX9 90 yX7_hatSquares cX7_hatSquares 3 (some .int) 0 := ⟨m0_X7_hatSquares, tk3_in 15 rfl rfl, tk3_in 16 rfl rfl, tk3_in 17 rfl rfl⟩
theorem m0_X7_catcherSquares : h_M0 yX7_catcherSquares cX7_catcherSquares 3 (some .int) 0 := ⟨tk3_in 25 rfl rfl, tk1_in 2 rfl rfl, ⟨by decide, by decide, by decide +kernel⟩, by decide⟩
theorem mv_X9_93 : h_MV RX9 93 yX7_catcherSquares cX7_catcherSquares 3 (some .int) 0 := ⟨m0_X7_catcherSquares, tk3_in 22 rfl rfl, tk3_in 23 rfl rfl, tk3_in 24 rfl rfl⟩
theorem fl_X9_96 : h_FL RX9 96 6 0 := ⟨RX7, TX7, tyX7, rfl, by decide, by decide, tk1_in 86 rfl rfl, uw_X7, tyX7_ok, nmX7⟩
theorem m0_X9_isSecond : h_M0 yX9_isSecond cX9_isSecond 1 (some .boolean) 1 := ⟨tk3_in 32 rfl rfl, tk1_in 1 rfl rfl, ⟨by decide, by decide, by decide +kernel⟩, by decide⟩
theorem ms_X9_99 : h_MS RX9 99 yX9_isSecond cX9_isSecond 1 (some .boolean) 1 := ⟨m0_X9_isSecond, tk3_in 30 rfl rfl, tk3_in 31 rfl rfl⟩
theorem m0_X7_gust : h_M0 yX7_gust cX7_gust 2 (some .int) 1 := ⟨tk3_in 36 rfl rfl, tk1_in 2 rfl rfl, ⟨by decide, by decide, by decide +kernel⟩, by decide⟩
theorem mv_X9_102 : h_MV RX9 102 yX7_gust cX7_gust 2 (some .int) 1 := ⟨m0_X7_gust, tk3_in 33 rfl rfl, tk3_in 34 rfl rfl, tk3_in 35 rfl rfl⟩
theorem fl_X9_106 : h_FL RX9 106 6 1 := ⟨RX7, TX7, tyX7, rfl, by decide, by decide, tk1_in 89 rfl rfl, uw_X7, tyX7_ok, nmX7⟩
theorem fl_X9_109 : h_FL RX9 109 6 2 := ⟨RX7, TX7, tyX7, rfl, by decide, by decide, tk1_in 92 rfl rfl, uw_X7, tyX7_ok, nmX7⟩
theorem fl_X9_112 : h_FL RX9 112 6 5 := ⟨RX7, TX7, tyX7, rfl, by decide, by decide, tk1_in 98 rfl rfl, uw_X7, tyX7_ok, nmX7⟩
theorem fp_X9_112 : h_FP RX9 112 6 5 .int := ⟨RX7, TX7, tyX7, rfl, by decide, by decide, tk1_in 98 rfl rfl, uw_X7, tyX7_ok, nmX7, rfl, by decide +kernel⟩
theorem fl_X9_115 : h_FL RX9 115 6 6 := ⟨RX7, TX7, tyX7, rfl, by decide, by decide, tk1_in 100 rfl rfl, uw_X7, tyX7_ok, nmX7⟩
theorem fp_X9_115 : h_FP RX9 115 6 6 .int := ⟨RX7, TX7, tyX7, rfl, by decide, by decide, tk1_in 100 rfl rfl, uw_X7, tyX7_ok, nmX7, rfl, by decide +kernel⟩
theorem fl_X9_118 : h_FL RX9 118 6 7 := ⟨RX7, TX7, tyX7, rfl, by decide, by decide, tk1_in 102 rfl rfl, uw_X7, tyX7_ok, nmX7⟩
theorem fp_X9_118 : h_FP RX9 118 6 7 .int := ⟨RX7, TX7, tyX7, rfl, by decide, by decide, tk1_in 102 rfl rfl, uw_X7, tyX7_ok, nmX7, rfl, by decide +kernel⟩
theorem fl_X9_121 : h_FL RX9 121 4 0 := ⟨RX5, TX5, tyX5, rfl, by decide, by decide, tk1_in 148 rfl rfl, uw_X5, tyX5_ok, nmX5⟩
theorem m0_X9_isByte : h_M0 yX9_isByte cX9_isByte 1 (some .boolean) 1 := ⟨tk3_in 51 rfl rfl, tk1_in 1 rfl rfl, ⟨by decide, by decide, by decide +kernel⟩, by decide⟩
theorem ms_X9_124 : h_MS RX9 124 yX9_isByte cX9_isByte 1 (some .boolean) 1 := ⟨m0_X9_isByte, tk3_in 49 rfl rfl, tk3_in 50 rfl rfl⟩
theorem m0_X9_isBehind : h_M0 yX9_isBehind cX9_isBehind 1 (some .boolean) 1 := ⟨tk3_in 66 rfl rfl, tk1_in 1 rfl rfl, ⟨by decide, by decide, by decide +kernel⟩, by decide⟩
theorem ms_X9_127 : h_MS RX9 127 yX9_isBehind cX9_isBehind 1 (some .boolean) 1 := ⟨m0_X9_isBehind, tk3_in 64 rfl rfl, tk3_in 65 rfl rfl⟩
theorem fl_X9_130 : h_FL RX9 130 7 6 := ⟨RX8, TX8, tyX8, rfl, by decide, by decide, tk1_in 198 rfl rfl, uw_X8, tyX8_ok, nmX8⟩
theorem fp_X9_130 : h_FP RX9 130 7 6 (.object "HatDownTheStreet$Law") := ⟨RX8, TX8, tyX8, rfl, by decide, by decide, tk1_in 198 rfl rfl, uw_X8, tyX8_ok, nmX8, rfl, by decide +kernel⟩
theorem fp_X9_133 : h_FP RX9 133 7 3 .int := ⟨RX8, TX8, tyX8, rfl, by decide, by decide, tk1_in 192 rfl rfl, uw_X8, tyX8_ok, nmX8, rfl, by decide +kernel⟩
theorem fp_X9_136 : h_FP RX9 136 7 4 .int := ⟨RX8, TX8, tyX8, rfl, by decide, by decide, tk1_in 194 rfl rfl, uw_X8, tyX8_ok, nmX8, rfl, by decide +kernel⟩
theorem m0_X9_stateOf : h_M0 yX9_stateOf cX9_stateOf 2 (some .int) 2 := ⟨tk3_in 69 rfl rfl, tk1_in 1 rfl rfl, ⟨by decide, by decide, by decide +kernel⟩, by decide⟩
theorem ms_X9_139 : h_MS RX9 139 yX9_stateOf cX9_stateOf 2 (some .int) 2 := ⟨m0_X9_stateOf, tk3_in 67 rfl rfl, tk3_in 68 rfl rfl⟩
theorem m0_X8_tell : h_M0 yX8_tell cX8_tell 4 none 3 := ⟨tk3_in 73 rfl rfl, tk1_in 7 rfl rfl, ⟨by decide, by decide, by decide +kernel⟩, by decide⟩
theorem mv_X9_143 : h_MV RX9 143 yX8_tell cX8_tell 4 none 3 := ⟨m0_X8_tell, tk3_in 70 rfl rfl, tk3_in 71 rfl rfl, tk3_in 72 rfl rfl⟩
theorem fl_X9_147 : h_FL RX9 147 7 10 := ⟨RX8, TX8, tyX8, rfl, by decide, by decide, tk1_in 205 rfl rfl, uw_X8, tyX8_ok, nmX8⟩
theorem m0_X4_says : h_M0 yX4_says cX4_says 6 (some .int) 2 := ⟨tk3_in 81 rfl rfl, tk1_in 6 rfl rfl, ⟨by decide, by decide, by decide +kernel⟩, by decide⟩
theorem mv_X9_150 : h_MV RX9 150 yX4_says cX4_says 6 (some .int) 2 := ⟨m0_X4_says, tk3_in 78 rfl rfl, tk3_in 79 rfl rfl, tk3_in 80 rfl rfl⟩
theorem m0_X9_isOpen : h_M0 yX9_isOpen cX9_isOpen 2 (some .boolean) 1 := ⟨tk3_in 104 rfl rfl, tk1_in 1 rfl rfl, ⟨by decide, by decide, by decide +kernel⟩, by decide⟩
theorem mv_X9_154 : h_MV RX9 154 yX9_isOpen cX9_isOpen 2 (some .boolean) 1 := ⟨m0_X9_isOpen, tk3_in 101 rfl rfl, tk3_in 103 rfl rfl, h_in 19 (by decide +kernel) rfl⟩
theorem m0_X9_isLie : h_M0 yX9_isLie cX9_isLie 1 (some .boolean) 1 := ⟨tk3_in 107 rfl rfl, tk1_in 1 rfl rfl, ⟨by decide, by decide, by decide +kernel⟩, by decide⟩
theorem ms_X9_157 : h_MS RX9 157 yX9_isLie cX9_isLie 1 (some .boolean) 1 := ⟨m0_X9_isLie, tk3_in 105 rfl rfl, tk3_in 106 rfl rfl⟩
theorem fl_X9_160 : h_FL RX9 160 6 3 := ⟨RX7, TX7, tyX7, rfl, by decide, by decide, tk1_in 94 rfl rfl, uw_X7, tyX7_ok, nmX7⟩
theorem fl_X9_164 : h_FL RX9 164 2 0 := ⟨RX2, TX2, tyX2, rfl, by decide, by decide, tk1_in 43 rfl rfl, uw_X2, tyX2_ok, nmX2⟩
theorem fp_X9_164 : h_FP RX9 164 2 0 .int := ⟨RX2, TX2, tyX2, rfl, by decide, by decide, tk1_in 43 rfl rfl, uw_X2, tyX2_ok, nmX2, rfl, by decide +kernel⟩
theorem fl_X9_167 : h_FL RX9 167 2 1 := ⟨RX2, TX2, tyX2, rfl, by decide, by decide, tk1_in 46 rfl rfl, uw_X2, tyX2_ok, nmX2⟩
theorem fp_X9_167 : h_FP RX9 167 2 1 .int := ⟨RX2, TX2, tyX2, rfl, by decide, by decide, tk1_in 46 rfl rfl, uw_X2, tyX2_ok, nmX2, rfl, by decide +kernel⟩
theorem fl_X9_168 : h_FL RX9 168 2 2 := ⟨RX2, TX2, tyX2, rfl, by decide, by decide, tk1_in 50 rfl rfl, uw_X2, tyX2_ok, nmX2⟩
theorem fp_X9_168 : h_FP RX9 168 2 2 .int := ⟨RX2, TX2, tyX2, rfl, by decide, by decide, tk1_in 50 rfl rfl, uw_X2, tyX2_ok, nmX2, rfl, by decide +kernel⟩
theorem m0_X9_isHat : h_M0 yX9_isHat cX9_isHat 2 (some .boolean) 1 := ⟨tk3_in 115 rfl rfl, tk1_in 1 rfl rfl, ⟨by decide, by decide, by decide +kernel⟩, by decide⟩
theorem mv_X9_171 : h_MV RX9 171 yX9_isHat cX9_isHat 2 (some .boolean) 1 := ⟨m0_X9_isHat, tk3_in 112 rfl rfl, tk3_in 114 rfl rfl, h_in 20 (by decide +kernel) rfl⟩
theorem m0_X9_squareOf : h_M0 yX9_squareOf cX9_squareOf 1 (some .int) 1 := ⟨tk3_in 21 rfl rfl, tk1_in 1 rfl rfl, ⟨by decide, by decide, by decide +kernel⟩, by decide⟩
theorem ms_X9_174 : h_MS RX9 174 yX9_squareOf cX9_squareOf 1 (some .int) 1 := ⟨m0_X9_squareOf, tk3_in 116 rfl rfl, tk3_in 20 rfl rfl⟩
theorem m0_X9_lieOf : h_M0 yX9_lieOf cX9_lieOf 1 (some .int) 1 := ⟨tk3_in 76 rfl rfl, tk1_in 1 rfl rfl, ⟨by decide, by decide, by decide +kernel⟩, by decide⟩
theorem ms_X9_177 : h_MS RX9 177 yX9_lieOf cX9_lieOf 1 (some .int) 1 := ⟨m0_X9_lieOf, tk3_in 117 rfl rfl, tk3_in 75 rfl rfl⟩
theorem m0_X9_isPace : h_M0 yX9_isPace cX9_isPace 1 (some .boolean) 1 := ⟨tk3_in 128 rfl rfl, tk1_in 1 rfl rfl, ⟨by decide, by decide, by decide +kernel⟩, by decide⟩
theorem ms_X9_180 : h_MS RX9 180 yX9_isPace cX9_isPace 1 (some .boolean) 1 := ⟨m0_X9_isPace, tk3_in 126 rfl rfl, tk3_in 127 rfl rfl⟩
theorem m0_X9_isReach : h_M0 yX9_isReach cX9_isReach 1 (some .boolean) 1 := ⟨tk3_in 131 rfl rfl, tk1_in 1 rfl rfl, ⟨by decide, by decide, by decide +kernel⟩, by decide⟩
theorem ms_X9_183 : h_MS RX9 183 yX9_isReach cX9_isReach 1 (some .boolean) 1 := ⟨m0_X9_isReach, tk3_in 129 rfl rfl, tk3_in 130 rfl rfl⟩
theorem fl_X9_186 : h_FL RX9 186 6 4 := ⟨RX7, TX7, tyX7, rfl, by decide, by decide, tk1_in 96 rfl rfl, uw_X7, tyX7_ok, nmX7⟩
theorem fl_X9_190 : h_FL RX9 190 0 0 := ⟨RX0, TX0, tyX0, rfl, by decide, by decide, tk1_in 68 rfl rfl, uw_X0, tyX0_ok, nmX0⟩
theorem fp_X9_190 : h_FP RX9 190 0 0 .int := ⟨RX0, TX0, tyX0, rfl, by decide, by decide, tk1_in 68 rfl rfl, uw_X0, tyX0_ok, nmX0, rfl, by decide +kernel⟩
theorem fl_X9_195 : h_FL RX9 195 0 1 := ⟨RX0, TX0, tyX0, rfl, by decide, by decide, tk1_in 72 rfl rfl, uw_X0, tyX0_ok, nmX0⟩
theorem fp_X9_195 : h_FP RX9 195 0 1 .int := ⟨RX0, TX0, tyX0, rfl, by decide, by decide, tk1_in 72 rfl rfl, uw_X0, tyX0_ok, nmX0, rfl, by decide +kernel⟩
theorem fl_X9_198 : h_FL RX9 198 0 2 := ⟨RX0, TX0, tyX0, rfl, by decide, by decide, tk1_in 76 rfl rfl, uw_X0, tyX0_ok, nmX0⟩
theorem fp_X9_198 : h_FP RX9 198 0 2 .int := ⟨RX0, TX0, tyX0, rfl, by decide, by decide, tk1_in 76 rfl rfl, uw_X0, tyX0_ok, nmX0, rfl, by decide +kernel⟩
theorem m0_X9_isCatcher : h_M0 yX9_isCatcher cX9_isCatcher 2 (some .boolean) 1 := ⟨tk3_in 139 rfl rfl, tk1_in 1 rfl rfl, ⟨by decide, by decide, by decide +kernel⟩, by decide⟩
theorem mv_X9_201 : h_MV RX9 201 yX9_isCatcher cX9_isCatcher 2 (some .boolean) 1 := ⟨m0_X9_isCatcher, tk3_in 136 rfl rfl, tk3_in 138 rfl rfl, h_in 21 (by decide +kernel) rfl⟩
theorem m0_X9_isZeroOrOne : h_M0 yX9_isZeroOrOne cX9_isZeroOrOne 1 (some .boolean) 1 := ⟨tk3_in 146 rfl rfl, tk1_in 1 rfl rfl, ⟨by decide, by decide, by decide +kernel⟩, by decide⟩
theorem ms_X9_204 : h_MS RX9 204 yX9_isZeroOrOne cX9_isZeroOrOne 1 (some .boolean) 1 := ⟨m0_X9_isZeroOrOne, tk3_in 144 rfl rfl, tk3_in 145 rfl rfl⟩
theorem m0_X9_think : h_M0 yX9_think cX9_think 2 none 1 := ⟨tk3_in 150 rfl rfl, tk1_in 1 rfl rfl, ⟨by decide, by decide, by decide +kernel⟩, by decide⟩
theorem mv_X9_207 : h_MV RX9 207 yX9_think cX9_think 2 none 1 := ⟨m0_X9_think, tk3_in 147 rfl rfl, tk3_in 149 rfl rfl, h_in 22 (by decide +kernel) rfl⟩
theorem fl_X9_210 : h_FL RX9 210 7 5 := ⟨RX8, TX8, tyX8, rfl, by decide, by decide, tk1_in 196 rfl rfl, uw_X8, tyX8_ok, nmX8⟩
theorem m0_X8_later : h_M0 yX8_later cX8_later 6 (some .int) 3 := ⟨tk3_in 161 rfl rfl, tk1_in 7 rfl rfl, ⟨by decide, by decide, by decide +kernel⟩, by decide⟩
theorem mv_X9_213 : h_MV RX9 213 yX8_later cX8_later 6 (some .int) 3 := ⟨m0_X8_later, tk3_in 158 rfl rfl, tk3_in 159 rfl rfl, tk3_in 160 rfl rfl⟩
theorem m0_X9_letPass : h_M0 yX9_letPass cX9_letPass 3 none 1 := ⟨tk3_in 214 rfl rfl, tk1_in 1 rfl rfl, ⟨by decide, by decide, by decide +kernel⟩, by decide⟩
theorem mv_X9_217 : h_MV RX9 217 yX9_letPass cX9_letPass 3 none 1 := ⟨m0_X9_letPass, tk3_in 211 rfl rfl, tk3_in 213 rfl rfl, h_in 26 (by decide +kernel) rfl⟩
theorem m0_X8_firstIn : h_M0 yX8_firstIn cX8_firstIn 3 (some .int) 1 := ⟨tk3_in 222 rfl rfl, tk1_in 7 rfl rfl, ⟨by decide, by decide, by decide +kernel⟩, by decide⟩
theorem mv_X9_220 : h_MV RX9 220 yX8_firstIn cX8_firstIn 3 (some .int) 1 := ⟨m0_X8_firstIn, tk3_in 219 rfl rfl, tk3_in 220 rfl rfl, tk3_in 221 rfl rfl⟩
theorem fl_X9_223 : h_FL RX9 223 7 9 := ⟨RX8, TX8, tyX8, rfl, by decide, by decide, tk1_in 203 rfl rfl, uw_X8, tyX8_ok, nmX8⟩
theorem m0_X8_follow : h_M0 yX8_follow cX8_follow 3 none 1 := ⟨tk3_in 226 rfl rfl, tk1_in 7 rfl rfl, ⟨by decide, by decide, by decide +kernel⟩, by decide⟩
theorem mv_X9_226 : h_MV RX9 226 yX8_follow cX8_follow 3 none 1 := ⟨m0_X8_follow, tk3_in 231 rfl rfl, tk3_in 224 rfl rfl, tk3_in 225 rfl rfl⟩
theorem fl_X9_230 : h_FL RX9 230 7 1 := ⟨RX8, TX8, tyX8, rfl, by decide, by decide, tk1_in 189 rfl rfl, uw_X8, tyX8_ok, nmX8⟩
theorem m0_X9_hadNow : h_M0 yX9_hadNow cX9_hadNow 3 (some .int) 2 := ⟨tk4_in 15 rfl rfl, tk1_in 1 rfl rfl, ⟨by decide, by decide, by decide +kernel⟩, by decide⟩
theorem mv_X9_233 : h_MV RX9 233 yX9_hadNow cX9_hadNow 3 (some .int) 2 := ⟨m0_X9_hadNow, tk4_in 12 rfl rfl, tk4_in 14 rfl rfl, h_in 27 (by decide +kernel) rfl⟩
theorem m0_X8_had : h_M0 yX8_had cX8_had 8 (some .int) 5 := ⟨tk4_in 23 rfl rfl, tk1_in 7 rfl rfl, ⟨by decide, by decide, by decide +kernel⟩, by decide⟩
theorem mv_X9_236 : h_MV RX9 236 yX8_had cX8_had 8 (some .int) 5 := ⟨m0_X8_had, tk4_in 34 rfl rfl, tk4_in 21 rfl rfl, tk4_in 22 rfl rfl⟩
theorem m0_X9_isSooner : h_M0 yX9_isSooner cX9_isSooner 2 (some .boolean) 2 := ⟨tk4_in 37 rfl rfl, tk1_in 1 rfl rfl, ⟨by decide, by decide, by decide +kernel⟩, by decide⟩
theorem ms_X9_240 : h_MS RX9 240 yX9_isSooner cX9_isSooner 2 (some .boolean) 2 := ⟨m0_X9_isSooner, tk4_in 35 rfl rfl, tk4_in 36 rfl rfl⟩
theorem m0_X9_refusalOfPair : h_M0 yX9_refusalOfPair cX9_refusalOfPair 4 (some .int) 3 := ⟨tk4_in 45 rfl rfl, tk1_in 1 rfl rfl, ⟨by decide, by decide, by decide +kernel⟩, by decide⟩
theorem mv_X9_244 : h_MV RX9 244 yX9_refusalOfPair cX9_refusalOfPair 4 (some .int) 3 := ⟨m0_X9_refusalOfPair, tk4_in 42 rfl rfl, tk4_in 44 rfl rfl, h_in 29 (by decide +kernel) rfl⟩
theorem fl_X9_247 : h_FL RX9 247 1 0 := ⟨RX1, TX1, tyX1, rfl, by decide, by decide, tk1_in 238 rfl rfl, uw_X1, tyX1_ok, nmX1⟩
theorem m0_X1_plan : h_M0 yX1_plan cX1_plan 4 none 3 := ⟨tk4_in 61 rfl rfl, tk1_in 8 rfl rfl, ⟨by decide, by decide, by decide +kernel⟩, by decide⟩
theorem mv_X9_251 : h_MV RX9 251 yX1_plan cX1_plan 4 none 3 := ⟨m0_X1_plan, tk4_in 58 rfl rfl, tk4_in 59 rfl rfl, tk4_in 60 rfl rfl⟩
theorem fl_X9_255 : h_FL RX9 255 1 1 := ⟨RX1, TX1, tyX1, rfl, by decide, by decide, tk2_in 0 rfl rfl, uw_X1, tyX1_ok, nmX1⟩
theorem fl_X9_258 : h_FL RX9 258 1 2 := ⟨RX1, TX1, tyX1, rfl, by decide, by decide, tk2_in 2 rfl rfl, uw_X1, tyX1_ok, nmX1⟩
theorem m0_X9_worthHad : h_M0 yX9_worthHad cX9_worthHad 4 (some .int) 2 := ⟨tk4_in 76 rfl rfl, tk1_in 1 rfl rfl, ⟨by decide, by decide, by decide +kernel⟩, by decide⟩
theorem mv_X9_261 : h_MV RX9 261 yX9_worthHad cX9_worthHad 4 (some .int) 2 := ⟨m0_X9_worthHad, tk4_in 73 rfl rfl, tk4_in 75 rfl rfl, h_in 31 (by decide +kernel) rfl⟩
theorem m0_X7_removeHat : h_M0 yX7_removeHat cX7_removeHat 3 none 1 := ⟨tk4_in 88 rfl rfl, tk1_in 2 rfl rfl, ⟨by decide, by decide, by decide +kernel⟩, by decide⟩
theorem mv_X9_264 : h_MV RX9 264 yX7_removeHat cX7_removeHat 3 none 1 := ⟨m0_X7_removeHat, tk4_in 85 rfl rfl, tk4_in 86 rfl rfl, tk4_in 87 rfl rfl⟩
theorem m0_J9_min_7cf53 : h_M0 yJ9_min_7cf53 cJ9_min_7cf53 2 (some .int) 2 := ⟨tk2_in 115 rfl rfl, tk1_in 14 rfl rfl, ⟨by decide, by decide, by decide +kernel⟩, by decide⟩
theorem ms_X9_267 : h_MS RX9 267 yJ9_min_7cf53 cJ9_min_7cf53 2 (some .int) 2 := ⟨m0_J9_min_7cf53, tk4_in 97 rfl rfl, tk2_in 114 rfl rfl⟩
theorem m0_X8_isWet : h_M0 yX8_isWet cX8_isWet 2 (some .boolean) 1 := ⟨tk3_in 170 rfl rfl, tk1_in 7 rfl rfl, ⟨by decide, by decide, by decide +kernel⟩, by decide⟩
theorem mv_X9_272 : h_MV RX9 272 yX8_isWet cX8_isWet 2 (some .boolean) 1 := ⟨m0_X8_isWet, tk4_in 102 rfl rfl, tk3_in 168 rfl rfl, tk3_in 169 rfl rfl⟩
theorem fl_X9_275 : h_FL RX9 275 7 7 := ⟨RX8, TX8, tyX8, rfl, by decide, by decide, tk1_in 200 rfl rfl, uw_X8, tyX8_ok, nmX8⟩
theorem m0_X8_hadBy : h_M0 yX8_hadBy cX8_hadBy 2 (some .int) 1 := ⟨tk4_in 19 rfl rfl, tk1_in 7 rfl rfl, ⟨by decide, by decide, by decide +kernel⟩, by decide⟩
theorem mv_X9_276 : h_MV RX9 276 yX8_hadBy cX8_hadBy 2 (some .int) 1 := ⟨m0_X8_hadBy, tk4_in 16 rfl rfl, tk4_in 17 rfl rfl, tk4_in 18 rfl rfl⟩
theorem fp_X9_280 : h_FP RX9 280 7 0 .int := ⟨RX8, TX8, tyX8, rfl, by decide, by decide, tk1_in 187 rfl rfl, uw_X8, tyX8_ok, nmX8, rfl, by decide +kernel⟩
theorem m0_X9_refusalOfWay : h_M0 yX9_refusalOfWay cX9_refusalOfWay 4 (some .int) 2 := ⟨tk4_in 122 rfl rfl, tk1_in 1 rfl rfl, ⟨by decide, by decide, by decide +kernel⟩, by decide⟩
theorem mv_X9_283 : h_MV RX9 283 yX9_refusalOfWay cX9_refusalOfWay 4 (some .int) 2 := ⟨m0_X9_refusalOfWay, tk4_in 119 rfl rfl, tk4_in 121 rfl rfl, h_in 32 (by decide +kernel) rfl⟩
theorem m0_X8_elsewhere : h_M0 yX8_elsewhere cX8_elsewhere 5 (some .int) 2 := ⟨tk4_in 133 rfl rfl, tk1_in 7 rfl rfl, ⟨by decide, by decide, by decide +kernel⟩, by decide⟩
theorem mv_X9_286 : h_MV RX9 286 yX8_elsewhere cX8_elsewhere 5 (some .int) 2 := ⟨m0_X8_elsewhere, tk4_in 130 rfl rfl, tk4_in 131 rfl rfl, tk4_in 132 rfl rfl⟩
theorem m0_X9_refusalOfTold : h_M0 yX9_refusalOfTold cX9_refusalOfTold 2 (some .int) 1 := ⟨tk4_in 126 rfl rfl, tk1_in 1 rfl rfl, ⟨by decide, by decide, by decide +kernel⟩, by decide⟩
theorem mv_X9_290 : h_MV RX9 290 yX9_refusalOfTold cX9_refusalOfTold 2 (some .int) 1 := ⟨m0_X9_refusalOfTold, tk4_in 123 rfl rfl, tk4_in 125 rfl rfl, h_in 33 (by decide +kernel) rfl⟩
theorem m0_X9_isSheet : h_M0 yX9_isSheet cX9_isSheet 1 (some .boolean) 1 := ⟨tk4_in 129 rfl rfl, tk1_in 1 rfl rfl, ⟨by decide, by decide, by decide +kernel⟩, by decide⟩
theorem ms_X9_293 : h_MS RX9 293 yX9_isSheet cX9_isSheet 1 (some .boolean) 1 := ⟨m0_X9_isSheet, tk4_in 127 rfl rfl, tk4_in 128 rfl rfl⟩
theorem m0_X6_becomeEmpty : h_M0 yX6_becomeEmpty cX6_becomeEmpty 4 none 2 := ⟨tk4_in 157 rfl rfl, tk1_in 9 rfl rfl, ⟨by decide, by decide, by decide +kernel⟩, by decide⟩
theorem mv_X9_296 : h_MV RX9 296 yX6_becomeEmpty cX6_becomeEmpty 4 none 2 := ⟨m0_X6_becomeEmpty, tk4_in 154 rfl rfl, tk4_in 155 rfl rfl, tk4_in 156 rfl rfl⟩
theorem m0_X6_put : h_M0 yX6_put cX6_put 3 none 2 := ⟨tk4_in 161 rfl rfl, tk1_in 9 rfl rfl, ⟨by decide, by decide, by decide +kernel⟩, by decide⟩
theorem mv_X9_300 : h_MV RX9 300 yX6_put cX6_put 3 none 2 := ⟨m0_X6_put, tk4_in 158 rfl rfl, tk4_in 159 rfl rfl, tk4_in 160 rfl rfl⟩
theorem m0_X9_isSeed : h_M0 yX9_isSeed cX9_isSeed 1 (some .boolean) 1 := ⟨tk4_in 168 rfl rfl, tk1_in 1 rfl rfl, ⟨by decide, by decide, by decide +kernel⟩, by decide⟩
theorem ms_X9_302 : h_MS RX9 302 yX9_isSeed cX9_isSeed 1 (some .boolean) 1 := ⟨m0_X9_isSeed, tk4_in 166 rfl rfl, tk4_in 167 rfl rfl⟩
theorem m0_X8_drawGusts : h_M0 yX8_drawGusts cX8_drawGusts 5 none 1 := ⟨tk4_in 173 rfl rfl, tk1_in 7 rfl rfl, ⟨by decide, by decide, by decide +kernel⟩, by decide⟩
theorem mv_X9_305 : h_MV RX9 305 yX8_drawGusts cX8_drawGusts 5 none 1 := ⟨m0_X8_drawGusts, tk4_in 170 rfl rfl, tk4_in 171 rfl rfl, tk4_in 172 rfl rfl⟩
theorem kc_X9_308 : Cond.constantLong RX9 308 (-4611686018427387904) ∈ h_tbl := tk4_in 182 rfl rfl
theorem m0_X9_commonDivisor : h_M0 yX9_commonDivisor cX9_commonDivisor 3 (some .int) 2 := ⟨tk4_in 185 rfl rfl, tk1_in 1 rfl rfl, ⟨by decide, by decide, by decide +kernel⟩, by decide⟩
theorem ms_X9_310 : h_MS RX9 310 yX9_commonDivisor cX9_commonDivisor 3 (some .int) 2 := ⟨m0_X9_commonDivisor, tk4_in 183 rfl rfl, tk4_in 184 rfl rfl⟩
theorem m0_X7_become : h_M0 yX7_become cX7_become 3 none 1 := ⟨tk4_in 196 rfl rfl, tk1_in 2 rfl rfl, ⟨by decide, by decide, by decide +kernel⟩, by decide⟩
theorem mv_X9_313 : h_MV RX9 313 yX7_become cX7_become 3 none 1 := ⟨m0_X7_become, tk4_in 193 rfl rfl, tk4_in 194 rfl rfl, tk4_in 195 rfl rfl⟩
theorem fl_X9_317 : h_FL RX9 317 5 0 := ⟨RX6, TX6, tyX6, rfl, by decide, by decide, tk2_in 26 rfl rfl, uw_X6, tyX6_ok, nmX6⟩
theorem fl_X9_320 : h_FL RX9 320 5 1 := ⟨RX6, TX6, tyX6, rfl, by decide, by decide, tk2_in 29 rfl rfl, uw_X6, tyX6_ok, nmX6⟩
theorem fl_X9_323 : h_FL RX9 323 5 2 := ⟨RX6, TX6, tyX6, rfl, by decide, by decide, tk2_in 32 rfl rfl, uw_X6, tyX6_ok, nmX6⟩
theorem ac_X9_326 : Cond.methodLink RX9 326 arraycopyName ∈ h_tbl := tk4_in 218 rfl rfl
theorem m0_X9_blow : h_M0 yX9_blow cX9_blow 5 (some .int) 3 := ⟨tk3_in 29 rfl rfl, tk1_in 1 rfl rfl, ⟨by decide, by decide, by decide +kernel⟩, by decide⟩
theorem mv_X9_332 : h_MV RX9 332 yX9_blow cX9_blow 5 (some .int) 3 := ⟨m0_X9_blow, tk4_in 223 rfl rfl, tk3_in 27 rfl rfl, tk3_in 28 rfl rfl⟩
theorem m0_X3_isOne : h_M0 yX3_isOne cX3_isOne 4 (some .boolean) 2 := ⟨tk3_in 203 rfl rfl, tk1_in 17 rfl rfl, ⟨by decide, by decide, by decide +kernel⟩, by decide⟩
theorem ms_X9_335 : h_MS RX9 335 yX3_isOne cX3_isOne 4 (some .boolean) 2 := ⟨m0_X3_isOne, tk4_in 228 rfl rfl, tk3_in 202 rfl rfl⟩
theorem kc_X9_340 : Cond.constant RX9 340 (99999) ∈ h_tbl := tk4_in 169 rfl rfl
theorem m0_J9_max_7cf53 : h_M0 yJ9_max_7cf53 cJ9_max_7cf53 2 (some .int) 2 := ⟨tk4_in 188 rfl rfl, tk1_in 14 rfl rfl, ⟨by decide, by decide, by decide +kernel⟩, by decide⟩
theorem ms_X9_341 : h_MS RX9 341 yJ9_max_7cf53 cJ9_max_7cf53 2 (some .int) 2 := ⟨m0_J9_max_7cf53, tk4_in 186 rfl rfl, tk4_in 187 rfl rfl⟩
theorem m0_X8_suppose : h_M0 yX8_suppose cX8_suppose 4 none 3 := ⟨tk3_in 154 rfl rfl, tk1_in 7 rfl rfl, ⟨by decide, by decide, by decide +kernel⟩, by decide⟩
theorem mv_X9_344 : h_MV RX9 344 yX8_suppose cX8_suppose 4 none 3 := ⟨m0_X8_suppose, tk3_in 151 rfl rfl, tk3_in 152 rfl rfl, tk3_in 153 rfl rfl⟩
theorem fl_X0_7 : h_FL RX0 7 0 0 := ⟨RX0, TX0, tyX0, rfl, by decide, by decide, tk1_in 64 rfl rfl, uw_X0, tyX0_ok, nmX0⟩
theorem fp_X0_7 : h_FP RX0 7 0 0 .int := ⟨RX0, TX0, tyX0, rfl, by decide, by decide, tk1_in 64 rfl rfl, uw_X0, tyX0_ok, nmX0, rfl, by decide +kernel⟩
theorem fl_X0_13 : h_FL RX0 13 0 1 := ⟨RX0, TX0, tyX0, rfl, by decide, by decide, tk1_in 69 rfl rfl, uw_X0, tyX0_ok, nmX0⟩
theorem fp_X0_13 : h_FP RX0 13 0 1 .int := ⟨RX0, TX0, tyX0, rfl, by decide, by decide, tk1_in 69 rfl rfl, uw_X0, tyX0_ok, nmX0, rfl, by decide +kernel⟩
theorem fl_X0_16 : h_FL RX0 16 0 2 := ⟨RX0, TX0, tyX0, rfl, by decide, by decide, tk1_in 73 rfl rfl, uw_X0, tyX0_ok, nmX0⟩
theorem fp_X0_16 : h_FP RX0 16 0 2 .int := ⟨RX0, TX0, tyX0, rfl, by decide, by decide, tk1_in 73 rfl rfl, uw_X0, tyX0_ok, nmX0, rfl, by decide +kernel⟩
theorem fl_X1_11 : h_FL RX1 11 1 0 := ⟨RX1, TX1, tyX1, rfl, by decide, by decide, tk1_in 237 rfl rfl, uw_X1, tyX1_ok, nmX1⟩
theorem fp_X1_16 : h_FP RX1 16 1 1 .int := ⟨RX1, TX1, tyX1, rfl, by decide, by decide, tk1_in 239 rfl rfl, uw_X1, tyX1_ok, nmX1, rfl, by decide +kernel⟩
theorem fl_X1_20 : h_FL RX1 20 1 2 := ⟨RX1, TX1, tyX1, rfl, by decide, by decide, tk2_in 1 rfl rfl, uw_X1, tyX1_ok, nmX1⟩
theorem fp_X1_20 : h_FP RX1 20 1 2 .int := ⟨RX1, TX1, tyX1, rfl, by decide, by decide, tk2_in 1 rfl rfl, uw_X1, tyX1_ok, nmX1, rfl, by decide +kernel⟩
theorem fl_X1_23 : h_FL RX1 23 1 3 := ⟨RX1, TX1, tyX1, rfl, by decide, by decide, tk2_in 3 rfl rfl, uw_X1, tyX1_ok, nmX1⟩
theorem fp_X1_23 : h_FP RX1 23 1 3 .int := ⟨RX1, TX1, tyX1, rfl, by decide, by decide, tk2_in 3 rfl rfl, uw_X1, tyX1_ok, nmX1, rfl, by decide +kernel⟩
theorem fl_X1_26 : h_FL RX1 26 0 1 := ⟨RX0, TX0, tyX0, rfl, by decide, by decide, tk1_in 70 rfl rfl, uw_X0, tyX0_ok, nmX0⟩
theorem fl_X1_31 : h_FL RX1 31 1 4 := ⟨RX1, TX1, tyX1, rfl, by decide, by decide, tk2_in 4 rfl rfl, uw_X1, tyX1_ok, nmX1⟩
theorem fp_X1_31 : h_FP RX1 31 1 4 .int := ⟨RX1, TX1, tyX1, rfl, by decide, by decide, tk2_in 4 rfl rfl, uw_X1, tyX1_ok, nmX1, rfl, by decide +kernel⟩
theorem fl_X1_32 : h_FL RX1 32 0 2 := ⟨RX0, TX0, tyX0, rfl, by decide, by decide, tk1_in 74 rfl rfl, uw_X0, tyX0_ok, nmX0⟩
theorem fl_X1_35 : h_FL RX1 35 1 5 := ⟨RX1, TX1, tyX1, rfl, by decide, by decide, tk2_in 5 rfl rfl, uw_X1, tyX1_ok, nmX1⟩
theorem fp_X1_35 : h_FP RX1 35 1 5 .int := ⟨RX1, TX1, tyX1, rfl, by decide, by decide, tk2_in 5 rfl rfl, uw_X1, tyX1_ok, nmX1, rfl, by decide +kernel⟩
theorem fl_X1_36 : h_FL RX1 36 0 0 := ⟨RX0, TX0, tyX0, rfl, by decide, by decide, tk1_in 65 rfl rfl, uw_X0, tyX0_ok, nmX0⟩
theorem m0_X1_fetch : h_M0 yX1_fetch cX1_fetch 8 none 5 := ⟨tk4_in 65 rfl rfl, tk1_in 8 rfl rfl, ⟨by decide, by decide, by decide +kernel⟩, by decide⟩
theorem mv_X1_39 : h_MV RX1 39 yX1_fetch cX1_fetch 8 none 5 := ⟨m0_X1_fetch, tk4_in 62 rfl rfl, tk4_in 64 rfl rfl, h_in 30 (by decide +kernel) rfl⟩
theorem mn_X1_43 : h_MN RX1 43 yX9_isSooner cX9_isSooner 2 (some .boolean) 2 "HatDownTheStreet" := ⟨m0_X9_isSooner, by decide +kernel, tk4_in 36 rfl rfl⟩
theorem mv_X1_47 : h_MV RX1 47 yX8_had cX8_had 8 (some .int) 5 := ⟨m0_X8_had, tk4_in 67 rfl rfl, tk4_in 21 rfl rfl, tk4_in 22 rfl rfl⟩
theorem mn_X1_53 : h_MN RX1 53 yX9_squareOf cX9_squareOf 1 (some .int) 1 "HatDownTheStreet" := ⟨m0_X9_squareOf, by decide +kernel, tk3_in 20 rfl rfl⟩
theorem fl_X2_7 : h_FL RX2 7 2 0 := ⟨RX2, TX2, tyX2, rfl, by decide, by decide, tk1_in 41 rfl rfl, uw_X2, tyX2_ok, nmX2⟩
theorem fp_X2_7 : h_FP RX2 7 2 0 .int := ⟨RX2, TX2, tyX2, rfl, by decide, by decide, tk1_in 41 rfl rfl, uw_X2, tyX2_ok, nmX2, rfl, by decide +kernel⟩
theorem fl_X2_13 : h_FL RX2 13 2 1 := ⟨RX2, TX2, tyX2, rfl, by decide, by decide, tk1_in 44 rfl rfl, uw_X2, tyX2_ok, nmX2⟩
theorem fp_X2_13 : h_FP RX2 13 2 1 .int := ⟨RX2, TX2, tyX2, rfl, by decide, by decide, tk1_in 44 rfl rfl, uw_X2, tyX2_ok, nmX2, rfl, by decide +kernel⟩
theorem fl_X2_16 : h_FL RX2 16 2 2 := ⟨RX2, TX2, tyX2, rfl, by decide, by decide, tk1_in 47 rfl rfl, uw_X2, tyX2_ok, nmX2⟩
theorem fp_X2_16 : h_FP RX2 16 2 2 .int := ⟨RX2, TX2, tyX2, rfl, by decide, by decide, tk1_in 47 rfl rfl, uw_X2, tyX2_ok, nmX2, rfl, by decide +kernel⟩
theorem m0_X3_bowlerFar : h_M0 yX3_bowlerFar cX3_bowlerFar 3 (some .int) 3 := ⟨tk3_in 178 rfl rfl, tk1_in 17 rfl rfl, ⟨by decide, by decide, by decide +kernel⟩, by decide⟩
theorem ms_X3_9 : h_MS RX3 9 yX3_bowlerFar cX3_bowlerFar 3 (some .int) 3 := ⟨m0_X3_bowlerFar, tk3_in 176 rfl rfl, tk3_in 177 rfl rfl⟩
theorem m0_X9_bounded : h_M0 yX9_bounded cX9_bounded 3 (some .int) 3 := ⟨tk3_in 93 rfl rfl, tk1_in 1 rfl rfl, ⟨by decide, by decide, by decide +kernel⟩, by decide⟩
theorem mn_X3_15 : h_MN RX3 15 yX9_bounded cX9_bounded 3 (some .int) 3 "HatDownTheStreet" := ⟨m0_X9_bounded, by decide +kernel, tk3_in 92 rfl rfl⟩
theorem m0_X3_capFar : h_M0 yX3_capFar cX3_capFar 1 (some .int) 1 := ⟨tk3_in 185 rfl rfl, tk1_in 17 rfl rfl, ⟨by decide, by decide, by decide +kernel⟩, by decide⟩
theorem ms_X3_18 : h_MS RX3 18 yX3_capFar cX3_capFar 1 (some .int) 1 := ⟨m0_X3_capFar, tk3_in 183 rfl rfl, tk3_in 184 rfl rfl⟩
theorem m0_X3_hatFar : h_M0 yX3_hatFar cX3_hatFar 2 (some .int) 2 := ⟨tk3_in 181 rfl rfl, tk1_in 17 rfl rfl, ⟨by decide, by decide, by decide +kernel⟩, by decide⟩
theorem ms_X3_22 : h_MS RX3 22 yX3_hatFar cX3_hatFar 2 (some .int) 2 := ⟨m0_X3_hatFar, tk3_in 179 rfl rfl, tk3_in 180 rfl rfl⟩
theorem ms_X3_26 : h_MS RX3 26 yX3_isOne cX3_isOne 4 (some .boolean) 2 := ⟨m0_X3_isOne, tk3_in 201 rfl rfl, tk3_in 202 rfl rfl⟩
theorem fl_X4_9 : h_FL RX4 9 3 0 := ⟨RX4, TX4, tyX4, rfl, by decide, by decide, tk1_in 134 rfl rfl, uw_X4, tyX4_ok, nmX4⟩
theorem fl_X4_15 : h_FL RX4 15 3 1 := ⟨RX4, TX4, tyX4, rfl, by decide, by decide, tk1_in 135 rfl rfl, uw_X4, tyX4_ok, nmX4⟩
theorem fl_X4_18 : h_FL RX4 18 3 2 := ⟨RX4, TX4, tyX4, rfl, by decide, by decide, tk1_in 136 rfl rfl, uw_X4, tyX4_ok, nmX4⟩
theorem fl_X4_21 : h_FL RX4 21 3 3 := ⟨RX4, TX4, tyX4, rfl, by decide, by decide, tk1_in 137 rfl rfl, uw_X4, tyX4_ok, nmX4⟩
theorem fp_X4_21 : h_FP RX4 21 3 3 .int := ⟨RX4, TX4, tyX4, rfl, by decide, by decide, tk1_in 137 rfl rfl, uw_X4, tyX4_ok, nmX4, rfl, by decide +kernel⟩
theorem m0_X4_add : h_M0 yX4_add cX4_add 2 none 1 := ⟨tk2_in 194 rfl rfl, tk1_in 6 rfl rfl, ⟨by decide, by decide, by decide +kernel⟩, by decide⟩
theorem mv_X4_25 : h_MV RX4 25 yX4_add cX4_add 2 none 1 := ⟨m0_X4_add, tk2_in 211 rfl rfl, tk2_in 192 rfl rfl, tk2_in 193 rfl rfl⟩
theorem m0_X4_changed : h_M0 yX4_changed cX4_changed 2 (some .int) 2 := ⟨tk3_in 84 rfl rfl, tk1_in 6 rfl rfl, ⟨by decide, by decide, by decide +kernel⟩, by decide⟩
theorem ms_X4_29 : h_MS RX4 29 yX4_changed cX4_changed 2 (some .int) 2 := ⟨m0_X4_changed, tk3_in 82 rfl rfl, tk3_in 83 rfl rfl⟩
theorem m0_X4_joined : h_M0 yX4_joined cX4_joined 3 (some .int) 3 := ⟨tk3_in 87 rfl rfl, tk1_in 6 rfl rfl, ⟨by decide, by decide, by decide +kernel⟩, by decide⟩
theorem ms_X4_33 : h_MS RX4 33 yX4_joined cX4_joined 3 (some .int) 3 := ⟨m0_X4_joined, tk3_in 85 rfl rfl, tk3_in 86 rfl rfl⟩
theorem m0_X4_withinBounds : h_M0 yX4_withinBounds cX4_withinBounds 2 (some .int) 2 := ⟨tk3_in 90 rfl rfl, tk1_in 6 rfl rfl, ⟨by decide, by decide, by decide +kernel⟩, by decide⟩
theorem ms_X4_37 : h_MS RX4 37 yX4_withinBounds cX4_withinBounds 2 (some .int) 2 := ⟨m0_X4_withinBounds, tk3_in 88 rfl rfl, tk3_in 89 rfl rfl⟩
theorem mn_X4_40 : h_MN RX4 40 yX9_bounded cX9_bounded 3 (some .int) 3 "HatDownTheStreet" := ⟨m0_X9_bounded, by decide +kernel, tk3_in 92 rfl rfl⟩
theorem m0_J9_floorMod_7cf53 : h_M0 yJ9_floorMod_7cf53 cJ9_floorMod_7cf53 3 (some .int) 2 := ⟨tk3_in 96 rfl rfl, tk1_in 14 rfl rfl, ⟨by decide, by decide, by decide +kernel⟩, by decide⟩
theorem ms_X4_43 : h_MS RX4 43 yJ9_floorMod_7cf53 cJ9_floorMod_7cf53 3 (some .int) 2 := ⟨m0_J9_floorMod_7cf53, tk3_in 94 rfl rfl, tk3_in 95 rfl rfl⟩
theorem fl_X5_9 : h_FL RX5 9 4 0 := ⟨RX5, TX5, tyX5, rfl, by decide, by decide, tk1_in 147 rfl rfl, uw_X5, tyX5_ok, nmX5⟩
theorem fp_X5_9 : h_FP RX5 9 4 0 .int := ⟨RX5, TX5, tyX5, rfl, by decide, by decide, tk1_in 147 rfl rfl, uw_X5, tyX5_ok, nmX5, rfl, by decide +kernel⟩
theorem fl_X5_15 : h_FL RX5 15 4 1 := ⟨RX5, TX5, tyX5, rfl, by decide, by decide, tk1_in 149 rfl rfl, uw_X5, tyX5_ok, nmX5⟩
theorem fl_X5_19 : h_FL RX5 19 4 2 := ⟨RX5, TX5, tyX5, rfl, by decide, by decide, tk1_in 150 rfl rfl, uw_X5, tyX5_ok, nmX5⟩
theorem fl_X5_22 : h_FL RX5 22 4 3 := ⟨RX5, TX5, tyX5, rfl, by decide, by decide, tk1_in 151 rfl rfl, uw_X5, tyX5_ok, nmX5⟩
theorem fl_X5_25 : h_FL RX5 25 4 4 := ⟨RX5, TX5, tyX5, rfl, by decide, by decide, tk1_in 152 rfl rfl, uw_X5, tyX5_ok, nmX5⟩
theorem fl_X5_31 : h_FL RX5 31 4 8 := ⟨RX5, TX5, tyX5, rfl, by decide, by decide, tk1_in 156 rfl rfl, uw_X5, tyX5_ok, nmX5⟩
theorem fp_X5_31 : h_FP RX5 31 4 8 (.object "HatDownTheStreet$Law") := ⟨RX5, TX5, tyX5, rfl, by decide, by decide, tk1_in 156 rfl rfl, uw_X5, tyX5_ok, nmX5, rfl, by decide +kernel⟩
theorem m0_X5_partTokens : h_M0 yX5_partTokens cX5_partTokens 5 none 0 := ⟨tk2_in 100 rfl rfl, tk1_in 5 rfl rfl, ⟨by decide, by decide, by decide +kernel⟩, by decide⟩
theorem mv_X5_35 : h_MV RX5 35 yX5_partTokens cX5_partTokens 5 none 0 := ⟨m0_X5_partTokens, tk2_in 97 rfl rfl, tk2_in 99 rfl rfl, h_in 0 (by decide +kernel) rfl⟩
theorem fl_X5_38 : h_FL RX5 38 4 7 := ⟨RX5, TX5, tyX5, rfl, by decide, by decide, tk1_in 155 rfl rfl, uw_X5, tyX5_ok, nmX5⟩
theorem fp_X5_38 : h_FP RX5 38 4 7 .int := ⟨RX5, TX5, tyX5, rfl, by decide, by decide, tk1_in 155 rfl rfl, uw_X5, tyX5_ok, nmX5, rfl, by decide +kernel⟩
theorem m0_X4_clear : h_M0 yX4_clear cX4_clear 1 none 0 := ⟨tk2_in 162 rfl rfl, tk1_in 6 rfl rfl, ⟨by decide, by decide, by decide +kernel⟩, by decide⟩
theorem mv_X5_41 : h_MV RX5 41 yX4_clear cX4_clear 1 none 0 := ⟨m0_X4_clear, tk2_in 159 rfl rfl, tk2_in 160 rfl rfl, tk2_in 161 rfl rfl⟩
theorem fl_X5_44 : h_FL RX5 44 4 5 := ⟨RX5, TX5, tyX5, rfl, by decide, by decide, tk1_in 153 rfl rfl, uw_X5, tyX5_ok, nmX5⟩
theorem fp_X5_44 : h_FP RX5 44 4 5 .int := ⟨RX5, TX5, tyX5, rfl, by decide, by decide, tk1_in 153 rfl rfl, uw_X5, tyX5_ok, nmX5, rfl, by decide +kernel⟩
theorem fl_X5_47 : h_FL RX5 47 4 6 := ⟨RX5, TX5, tyX5, rfl, by decide, by decide, tk1_in 154 rfl rfl, uw_X5, tyX5_ok, nmX5⟩
theorem fp_X5_47 : h_FP RX5 47 4 6 .int := ⟨RX5, TX5, tyX5, rfl, by decide, by decide, tk1_in 154 rfl rfl, uw_X5, tyX5_ok, nmX5, rfl, by decide +kernel⟩
theorem m0_X5_readPart : h_M0 yX5_readPart cX5_readPart 3 none 2 := ⟨tk2_in 166 rfl rfl, tk1_in 5 rfl rfl, ⟨by decide, by decide, by decide +kernel⟩, by decide⟩
theorem mv_X5_50 : h_MV RX5 50 yX5_readPart cX5_readPart 3 none 2 := ⟨m0_X5_readPart, tk2_in 163 rfl rfl, tk2_in 165 rfl rfl, h_in 9 (by decide +kernel) rfl⟩
theorem m0_X5_expect : h_M0 yX5_expect cX5_expect 2 none 1 := ⟨tk2_in 170 rfl rfl, tk1_in 5 rfl rfl, ⟨by decide, by decide, by decide +kernel⟩, by decide⟩
theorem mv_X5_54 : h_MV RX5 54 yX5_expect cX5_expect 2 none 1 := ⟨m0_X5_expect, tk2_in 167 rfl rfl, tk2_in 169 rfl rfl, h_in 10 (by decide +kernel) rfl⟩
theorem m0_X5_readOr : h_M0 yX5_readOr cX5_readOr 3 none 1 := ⟨tk2_in 182 rfl rfl, tk1_in 5 rfl rfl, ⟨by decide, by decide, by decide +kernel⟩, by decide⟩
theorem mv_X5_58 : h_MV RX5 58 yX5_readOr cX5_readOr 3 none 1 := ⟨m0_X5_readOr, tk2_in 179 rfl rfl, tk2_in 181 rfl rfl, h_in 13 (by decide +kernel) rfl⟩
theorem m0_X4_endPart : h_M0 yX4_endPart cX4_endPart 2 none 1 := ⟨tk2_in 215 rfl rfl, tk1_in 6 rfl rfl, ⟨by decide, by decide, by decide +kernel⟩, by decide⟩
theorem mv_X5_61 : h_MV RX5 61 yX4_endPart cX4_endPart 2 none 1 := ⟨m0_X4_endPart, tk2_in 212 rfl rfl, tk2_in 213 rfl rfl, tk2_in 214 rfl rfl⟩
theorem m0_X5_readAnd : h_M0 yX5_readAnd cX5_readAnd 3 none 1 := ⟨tk2_in 186 rfl rfl, tk1_in 5 rfl rfl, ⟨by decide, by decide, by decide +kernel⟩, by decide⟩
theorem mv_X5_64 : h_MV RX5 64 yX5_readAnd cX5_readAnd 3 none 1 := ⟨m0_X5_readAnd, tk2_in 183 rfl rfl, tk2_in 185 rfl rfl, h_in 14 (by decide +kernel) rfl⟩
theorem m0_X5_advance : h_M0 yX5_advance cX5_advance 1 none 0 := ⟨tk2_in 174 rfl rfl, tk1_in 5 rfl rfl, ⟨by decide, by decide, by decide +kernel⟩, by decide⟩
theorem mv_X5_67 : h_MV RX5 67 yX5_advance cX5_advance 1 none 0 := ⟨m0_X5_advance, tk2_in 171 rfl rfl, tk2_in 173 rfl rfl, h_in 11 (by decide +kernel) rfl⟩
theorem mv_X5_70 : h_MV RX5 70 yX4_add cX4_add 2 none 1 := ⟨m0_X4_add, tk2_in 191 rfl rfl, tk2_in 192 rfl rfl, tk2_in 193 rfl rfl⟩
theorem m0_X5_readNot : h_M0 yX5_readNot cX5_readNot 3 none 1 := ⟨tk2_in 190 rfl rfl, tk1_in 5 rfl rfl, ⟨by decide, by decide, by decide +kernel⟩, by decide⟩
theorem mv_X5_73 : h_MV RX5 73 yX5_readNot cX5_readNot 3 none 1 := ⟨m0_X5_readNot, tk2_in 187 rfl rfl, tk2_in 189 rfl rfl, h_in 15 (by decide +kernel) rfl⟩
theorem m0_X5_readSum : h_M0 yX5_readSum cX5_readSum 4 none 1 := ⟨tk2_in 198 rfl rfl, tk1_in 5 rfl rfl, ⟨by decide, by decide, by decide +kernel⟩, by decide⟩
theorem mv_X5_76 : h_MV RX5 76 yX5_readSum cX5_readSum 4 none 1 := ⟨m0_X5_readSum, tk2_in 195 rfl rfl, tk2_in 197 rfl rfl, h_in 16 (by decide +kernel) rfl⟩
theorem m0_X5_readTerm : h_M0 yX5_readTerm cX5_readTerm 3 none 1 := ⟨tk2_in 202 rfl rfl, tk1_in 5 rfl rfl, ⟨by decide, by decide, by decide +kernel⟩, by decide⟩
theorem mv_X5_79 : h_MV RX5 79 yX5_readTerm cX5_readTerm 3 none 1 := ⟨m0_X5_readTerm, tk2_in 199 rfl rfl, tk2_in 201 rfl rfl, h_in 17 (by decide +kernel) rfl⟩
theorem m0_X5_readOne : h_M0 yX5_readOne cX5_readOne 2 none 1 := ⟨tk2_in 206 rfl rfl, tk1_in 5 rfl rfl, ⟨by decide, by decide, by decide +kernel⟩, by decide⟩
theorem mv_X5_82 : h_MV RX5 82 yX5_readOne cX5_readOne 2 none 1 := ⟨m0_X5_readOne, tk2_in 203 rfl rfl, tk2_in 205 rfl rfl, h_in 18 (by decide +kernel) rfl⟩
theorem m0_X4_addName : h_M0 yX4_addName cX4_addName 2 none 1 := ⟨tk2_in 210 rfl rfl, tk1_in 6 rfl rfl, ⟨by decide, by decide, by decide +kernel⟩, by decide⟩
theorem mv_X5_85 : h_MV RX5 85 yX4_addName cX4_addName 2 none 1 := ⟨m0_X4_addName, tk2_in 207 rfl rfl, tk2_in 208 rfl rfl, tk2_in 209 rfl rfl⟩
theorem m0_X5_refuse : h_M0 yX5_refuse cX5_refuse 1 none 0 := ⟨tk2_in 178 rfl rfl, tk1_in 5 rfl rfl, ⟨by decide, by decide, by decide +kernel⟩, by decide⟩
theorem mv_X5_88 : h_MV RX5 88 yX5_refuse cX5_refuse 1 none 0 := ⟨m0_X5_refuse, tk2_in 175 rfl rfl, tk2_in 177 rfl rfl, h_in 12 (by decide +kernel) rfl⟩
theorem m0_X5_behindBlanks : h_M0 yX5_behindBlanks cX5_behindBlanks 4 (some .int) 1 := ⟨tk2_in 104 rfl rfl, tk1_in 5 rfl rfl, ⟨by decide, by decide, by decide +kernel⟩, by decide⟩
theorem mv_X5_91 : h_MV RX5 91 yX5_behindBlanks cX5_behindBlanks 4 (some .int) 1 := ⟨m0_X5_behindBlanks, tk2_in 101 rfl rfl, tk2_in 103 rfl rfl, h_in 1 (by decide +kernel) rfl⟩
theorem m0_X5_tokenEnd : h_M0 yX5_tokenEnd cX5_tokenEnd 5 (some .int) 1 := ⟨tk2_in 112 rfl rfl, tk1_in 5 rfl rfl, ⟨by decide, by decide, by decide +kernel⟩, by decide⟩
theorem mv_X5_95 : h_MV RX5 95 yX5_tokenEnd cX5_tokenEnd 5 (some .int) 1 := ⟨m0_X5_tokenEnd, tk2_in 109 rfl rfl, tk2_in 111 rfl rfl, h_in 3 (by decide +kernel) rfl⟩
theorem m0_X5_tokenBetween : h_M0 yX5_tokenBetween cX5_tokenBetween 4 (some .int) 2 := ⟨tk2_in 125 rfl rfl, tk1_in 5 rfl rfl, ⟨by decide, by decide, by decide +kernel⟩, by decide⟩
theorem mv_X5_98 : h_MV RX5 98 yX5_tokenBetween cX5_tokenBetween 4 (some .int) 2 := ⟨m0_X5_tokenBetween, tk2_in 122 rfl rfl, tk2_in 124 rfl rfl, h_in 4 (by decide +kernel) rfl⟩
theorem m0_X5_valueOf : h_M0 yX5_valueOf cX5_valueOf 6 (some .int) 3 := ⟨tk2_in 158 rfl rfl, tk1_in 5 rfl rfl, ⟨by decide, by decide, by decide +kernel⟩, by decide⟩
theorem mv_X5_102 : h_MV RX5 102 yX5_valueOf cX5_valueOf 6 (some .int) 3 := ⟨m0_X5_valueOf, tk2_in 155 rfl rfl, tk2_in 157 rfl rfl, h_in 8 (by decide +kernel) rfl⟩
theorem m0_X5_byteAt : h_M0 yX5_byteAt cX5_byteAt 2 (some .int) 1 := ⟨tk2_in 108 rfl rfl, tk1_in 5 rfl rfl, ⟨by decide, by decide, by decide +kernel⟩, by decide⟩
theorem mv_X5_106 : h_MV RX5 106 yX5_byteAt cX5_byteAt 2 (some .int) 1 := ⟨m0_X5_byteAt, tk2_in 105 rfl rfl, tk2_in 107 rfl rfl, h_in 2 (by decide +kernel) rfl⟩
theorem ms_X5_109 : h_MS RX5 109 yJ9_min_7cf53 cJ9_min_7cf53 2 (some .int) 2 := ⟨m0_J9_min_7cf53, tk2_in 113 rfl rfl, tk2_in 114 rfl rfl⟩
theorem m0_X5_isLetter : h_M0 yX5_isLetter cX5_isLetter 1 (some .boolean) 1 := ⟨tk2_in 118 rfl rfl, tk1_in 5 rfl rfl, ⟨by decide, by decide, by decide +kernel⟩, by decide⟩
theorem ms_X5_114 : h_MS RX5 114 yX5_isLetter cX5_isLetter 1 (some .boolean) 1 := ⟨m0_X5_isLetter, tk2_in 116 rfl rfl, tk2_in 117 rfl rfl⟩
theorem m0_X5_isDigit : h_M0 yX5_isDigit cX5_isDigit 1 (some .boolean) 1 := ⟨tk2_in 121 rfl rfl, tk1_in 5 rfl rfl, ⟨by decide, by decide, by decide +kernel⟩, by decide⟩
theorem ms_X5_118 : h_MS RX5 118 yX5_isDigit cX5_isDigit 1 (some .boolean) 1 := ⟨m0_X5_isDigit, tk2_in 119 rfl rfl, tk2_in 120 rfl rfl⟩
theorem m0_X5_nameBetween : h_M0 yX5_nameBetween cX5_nameBetween 3 (some .int) 2 := ⟨tk2_in 129 rfl rfl, tk1_in 5 rfl rfl, ⟨by decide, by decide, by decide +kernel⟩, by decide⟩
theorem mv_X5_121 : h_MV RX5 121 yX5_nameBetween cX5_nameBetween 3 (some .int) 2 := ⟨m0_X5_nameBetween, tk2_in 126 rfl rfl, tk2_in 128 rfl rfl, h_in 5 (by decide +kernel) rfl⟩
theorem m0_X5_keyBetween : h_M0 yX5_keyBetween cX5_keyBetween 3 (some .int) 2 := ⟨tk2_in 145 rfl rfl, tk1_in 5 rfl rfl, ⟨by decide, by decide, by decide +kernel⟩, by decide⟩
theorem mv_X5_124 : h_MV RX5 124 yX5_keyBetween cX5_keyBetween 3 (some .int) 2 := ⟨m0_X5_keyBetween, tk2_in 142 rfl rfl, tk2_in 144 rfl rfl, h_in 7 (by decide +kernel) rfl⟩
theorem m0_X5_isSign : h_M0 yX5_isSign cX5_isSign 1 (some .boolean) 1 := ⟨tk2_in 154 rfl rfl, tk1_in 5 rfl rfl, ⟨by decide, by decide, by decide +kernel⟩, by decide⟩
theorem ms_X5_127 : h_MS RX5 127 yX5_isSign cX5_isSign 1 (some .boolean) 1 := ⟨m0_X5_isSign, tk2_in 152 rfl rfl, tk2_in 153 rfl rfl⟩
theorem m0_X5_isWord : h_M0 yX5_isWord cX5_isWord 5 (some .boolean) 3 := ⟨tk2_in 134 rfl rfl, tk1_in 5 rfl rfl, ⟨by decide, by decide, by decide +kernel⟩, by decide⟩
theorem mv_X5_132 : h_MV RX5 132 yX5_isWord cX5_isWord 5 (some .boolean) 3 := ⟨m0_X5_isWord, tk2_in 131 rfl rfl, tk2_in 133 rfl rfl, h_in 6 (by decide +kernel) rfl⟩
theorem mv_X5_158 : h_MV RX5 158 yJ0_length_8abf5 cJ0_length_8abf5 1 (some .int) 0 := ⟨m0_J0_length_8abf5, tk2_in 135 rfl rfl, tk2_in 42 rfl rfl, tk2_in 43 rfl rfl⟩
theorem mv_X5_164 : h_MV RX5 164 yJ0_charAt_5068e cJ0_charAt_5068e 2 (some .char) 1 := ⟨m0_J0_charAt_5068e, tk2_in 136 rfl rfl, tk2_in 52 rfl rfl, tk2_in 53 rfl rfl⟩
theorem fl_X6_9 : h_FL RX6 9 5 0 := ⟨RX6, TX6, tyX6, rfl, by decide, by decide, tk2_in 25 rfl rfl, uw_X6, tyX6_ok, nmX6⟩
theorem fp_X6_9 : h_FP RX6 9 5 0 .int := ⟨RX6, TX6, tyX6, rfl, by decide, by decide, tk2_in 25 rfl rfl, uw_X6, tyX6_ok, nmX6, rfl, by decide +kernel⟩
theorem fl_X6_15 : h_FL RX6 15 5 1 := ⟨RX6, TX6, tyX6, rfl, by decide, by decide, tk2_in 27 rfl rfl, uw_X6, tyX6_ok, nmX6⟩
theorem fp_X6_15 : h_FP RX6 15 5 1 .int := ⟨RX6, TX6, tyX6, rfl, by decide, by decide, tk2_in 27 rfl rfl, uw_X6, tyX6_ok, nmX6, rfl, by decide +kernel⟩
theorem fl_X6_18 : h_FL RX6 18 5 2 := ⟨RX6, TX6, tyX6, rfl, by decide, by decide, tk2_in 30 rfl rfl, uw_X6, tyX6_ok, nmX6⟩
theorem fl_X7_9 : h_FL RX7 9 6 0 := ⟨RX7, TX7, tyX7, rfl, by decide, by decide, tk1_in 84 rfl rfl, uw_X7, tyX7_ok, nmX7⟩
theorem fl_X7_15 : h_FL RX7 15 6 1 := ⟨RX7, TX7, tyX7, rfl, by decide, by decide, tk1_in 87 rfl rfl, uw_X7, tyX7_ok, nmX7⟩
theorem fl_X7_18 : h_FL RX7 18 6 2 := ⟨RX7, TX7, tyX7, rfl, by decide, by decide, tk1_in 90 rfl rfl, uw_X7, tyX7_ok, nmX7⟩
theorem fl_X7_23 : h_FL RX7 23 6 3 := ⟨RX7, TX7, tyX7, rfl, by decide, by decide, tk1_in 93 rfl rfl, uw_X7, tyX7_ok, nmX7⟩
theorem fl_X7_29 : h_FL RX7 29 6 4 := ⟨RX7, TX7, tyX7, rfl, by decide, by decide, tk1_in 95 rfl rfl, uw_X7, tyX7_ok, nmX7⟩
theorem ac_X7_35 : Cond.methodLink RX7 35 arraycopyName ∈ h_tbl := tk4_in 197 rfl rfl
theorem m0_X2_become : h_M0 yX2_become cX2_become 2 none 1 := ⟨tk4_in 92 rfl rfl, tk1_in 3 rfl rfl, ⟨by decide, by decide, by decide +kernel⟩, by decide⟩
theorem mv_X7_41 : h_MV RX7 41 yX2_become cX2_become 2 none 1 := ⟨m0_X2_become, tk4_in 89 rfl rfl, tk4_in 90 rfl rfl, tk4_in 91 rfl rfl⟩
theorem m0_X0_become : h_M0 yX0_become cX0_become 2 none 1 := ⟨tk4_in 201 rfl rfl, tk1_in 4 rfl rfl, ⟨by decide, by decide, by decide +kernel⟩, by decide⟩
theorem mv_X7_45 : h_MV RX7 45 yX0_become cX0_become 2 none 1 := ⟨m0_X0_become, tk4_in 198 rfl rfl, tk4_in 199 rfl rfl, tk4_in 200 rfl rfl⟩
theorem fl_X7_48 : h_FL RX7 48 6 5 := ⟨RX7, TX7, tyX7, rfl, by decide, by decide, tk1_in 97 rfl rfl, uw_X7, tyX7_ok, nmX7⟩
theorem fp_X7_48 : h_FP RX7 48 6 5 .int := ⟨RX7, TX7, tyX7, rfl, by decide, by decide, tk1_in 97 rfl rfl, uw_X7, tyX7_ok, nmX7, rfl, by decide +kernel⟩
theorem fl_X7_52 : h_FL RX7 52 6 6 := ⟨RX7, TX7, tyX7, rfl, by decide, by decide, tk1_in 99 rfl rfl, uw_X7, tyX7_ok, nmX7⟩
theorem fp_X7_52 : h_FP RX7 52 6 6 .int := ⟨RX7, TX7, tyX7, rfl, by decide, by decide, tk1_in 99 rfl rfl, uw_X7, tyX7_ok, nmX7, rfl, by decide +kernel⟩
theorem fl_X7_55 : h_FL RX7 55 6 7 := ⟨RX7, TX7, tyX7, rfl, by decide, by decide, tk1_in 101 rfl rfl, uw_X7, tyX7_ok, nmX7⟩
theorem fp_X7_55 : h_FP RX7 55 6 7 .int := ⟨RX7, TX7, tyX7, rfl, by decide, by decide, tk1_in 101 rfl rfl, uw_X7, tyX7_ok, nmX7, rfl, by decide +kernel⟩
theorem fl_X7_58 : h_FL RX7 58 2 2 := ⟨RX2, TX2, tyX2, rfl, by decide, by decide, tk1_in 49 rfl rfl, uw_X2, tyX2_ok, nmX2⟩
theorem mn_X7_61 : h_MN RX7 61 yX9_squareOf cX9_squareOf 1 (some .int) 1 "HatDownTheStreet" := ⟨m0_X9_squareOf, by decide +kernel, tk3_in 20 rfl rfl⟩
theorem fl_X7_65 : h_FL RX7 65 0 0 := ⟨RX0, TX0, tyX0, rfl, by decide, by decide, tk1_in 66 rfl rfl, uw_X0, tyX0_ok, nmX0⟩
theorem fl_X8_12 : h_FL RX8 12 7 6 := ⟨RX8, TX8, tyX8, rfl, by decide, by decide, tk1_in 197 rfl rfl, uw_X8, tyX8_ok, nmX8⟩
theorem fp_X8_12 : h_FP RX8 12 7 6 (.object "HatDownTheStreet$Law") := ⟨RX8, TX8, tyX8, rfl, by decide, by decide, tk1_in 197 rfl rfl, uw_X8, tyX8_ok, nmX8, rfl, by decide +kernel⟩
theorem fl_X8_18 : h_FL RX8 18 7 7 := ⟨RX8, TX8, tyX8, rfl, by decide, by decide, tk1_in 199 rfl rfl, uw_X8, tyX8_ok, nmX8⟩
theorem fl_X8_22 : h_FL RX8 22 7 8 := ⟨RX8, TX8, tyX8, rfl, by decide, by decide, tk1_in 201 rfl rfl, uw_X8, tyX8_ok, nmX8⟩
theorem fl_X8_25 : h_FL RX8 25 7 9 := ⟨RX8, TX8, tyX8, rfl, by decide, by decide, tk1_in 202 rfl rfl, uw_X8, tyX8_ok, nmX8⟩
theorem fl_X8_28 : h_FL RX8 28 7 10 := ⟨RX8, TX8, tyX8, rfl, by decide, by decide, tk1_in 204 rfl rfl, uw_X8, tyX8_ok, nmX8⟩
theorem fl_X8_31 : h_FL RX8 31 6 0 := ⟨RX7, TX7, tyX7, rfl, by decide, by decide, tk1_in 85 rfl rfl, uw_X7, tyX7_ok, nmX7⟩
theorem fl_X8_36 : h_FL RX8 36 7 0 := ⟨RX8, TX8, tyX8, rfl, by decide, by decide, tk1_in 186 rfl rfl, uw_X8, tyX8_ok, nmX8⟩
theorem fp_X8_36 : h_FP RX8 36 7 0 .int := ⟨RX8, TX8, tyX8, rfl, by decide, by decide, tk1_in 186 rfl rfl, uw_X8, tyX8_ok, nmX8, rfl, by decide +kernel⟩
theorem fl_X8_40 : h_FL RX8 40 7 1 := ⟨RX8, TX8, tyX8, rfl, by decide, by decide, tk1_in 188 rfl rfl, uw_X8, tyX8_ok, nmX8⟩
theorem fp_X8_40 : h_FP RX8 40 7 1 .int := ⟨RX8, TX8, tyX8, rfl, by decide, by decide, tk1_in 188 rfl rfl, uw_X8, tyX8_ok, nmX8, rfl, by decide +kernel⟩
theorem fl_X8_43 : h_FL RX8 43 7 2 := ⟨RX8, TX8, tyX8, rfl, by decide, by decide, tk1_in 190 rfl rfl, uw_X8, tyX8_ok, nmX8⟩
theorem fp_X8_43 : h_FP RX8 43 7 2 .int := ⟨RX8, TX8, tyX8, rfl, by decide, by decide, tk1_in 190 rfl rfl, uw_X8, tyX8_ok, nmX8, rfl, by decide +kernel⟩
theorem fl_X8_46 : h_FL RX8 46 6 1 := ⟨RX7, TX7, tyX7, rfl, by decide, by decide, tk1_in 88 rfl rfl, uw_X7, tyX7_ok, nmX7⟩
theorem ac_X8_47 : Cond.methodLink RX8 47 arraycopyName ∈ h_tbl := tk3_in 155 rfl rfl
theorem fl_X8_53 : h_FL RX8 53 6 2 := ⟨RX7, TX7, tyX7, rfl, by decide, by decide, tk1_in 91 rfl rfl, uw_X7, tyX7_ok, nmX7⟩
theorem fl_X8_54 : h_FL RX8 54 2 0 := ⟨RX2, TX2, tyX2, rfl, by decide, by decide, tk1_in 42 rfl rfl, uw_X2, tyX2_ok, nmX2⟩
theorem fl_X8_59 : h_FL RX8 59 7 3 := ⟨RX8, TX8, tyX8, rfl, by decide, by decide, tk1_in 191 rfl rfl, uw_X8, tyX8_ok, nmX8⟩
theorem fp_X8_59 : h_FP RX8 59 7 3 .int := ⟨RX8, TX8, tyX8, rfl, by decide, by decide, tk1_in 191 rfl rfl, uw_X8, tyX8_ok, nmX8, rfl, by decide +kernel⟩
theorem fl_X8_60 : h_FL RX8 60 2 1 := ⟨RX2, TX2, tyX2, rfl, by decide, by decide, tk1_in 45 rfl rfl, uw_X2, tyX2_ok, nmX2⟩
theorem fl_X8_63 : h_FL RX8 63 7 4 := ⟨RX8, TX8, tyX8, rfl, by decide, by decide, tk1_in 193 rfl rfl, uw_X8, tyX8_ok, nmX8⟩
theorem fp_X8_63 : h_FP RX8 63 7 4 .int := ⟨RX8, TX8, tyX8, rfl, by decide, by decide, tk1_in 193 rfl rfl, uw_X8, tyX8_ok, nmX8, rfl, by decide +kernel⟩
theorem fl_X8_64 : h_FL RX8 64 2 2 := ⟨RX2, TX2, tyX2, rfl, by decide, by decide, tk1_in 48 rfl rfl, uw_X2, tyX2_ok, nmX2⟩
theorem fl_X8_67 : h_FL RX8 67 7 5 := ⟨RX8, TX8, tyX8, rfl, by decide, by decide, tk1_in 195 rfl rfl, uw_X8, tyX8_ok, nmX8⟩
theorem fp_X8_67 : h_FP RX8 67 7 5 .int := ⟨RX8, TX8, tyX8, rfl, by decide, by decide, tk1_in 195 rfl rfl, uw_X8, tyX8_ok, nmX8, rfl, by decide +kernel⟩
theorem kc_X8_70 : Cond.constantLong RX8 70 (48271) ∈ h_tbl := tk4_in 174 rfl rfl
theorem kc_X8_72 : Cond.constantLong RX8 72 (2147483647) ∈ h_tbl := tk4_in 175 rfl rfl
theorem kc_X8_74 : Cond.constantLong RX8 74 (5) ∈ h_tbl := tk4_in 176 rfl rfl
theorem kc_X8_76 : Cond.constantLong RX8 76 (10) ∈ h_tbl := tk4_in 177 rfl rfl
theorem mn_X8_78 : h_MN RX8 78 yX9_lieOf cX9_lieOf 1 (some .int) 1 "HatDownTheStreet" := ⟨m0_X9_lieOf, by decide +kernel, tk3_in 75 rfl rfl⟩
theorem mn_X8_82 : h_MN RX8 82 yX9_squareOf cX9_squareOf 1 (some .int) 1 "HatDownTheStreet" := ⟨m0_X9_squareOf, by decide +kernel, tk3_in 20 rfl rfl⟩
theorem m0_X8_next : h_M0 yX8_next cX8_next 8 (some .int) 2 := ⟨tk3_in 165 rfl rfl, tk1_in 7 rfl rfl, ⟨by decide, by decide, by decide +kernel⟩, by decide⟩
theorem mv_X8_85 : h_MV RX8 85 yX8_next cX8_next 8 (some .int) 2 := ⟨m0_X8_next, tk3_in 162 rfl rfl, tk3_in 164 rfl rfl, h_in 23 (by decide +kernel) rfl⟩
theorem mn_X8_89 : h_MN RX8 89 yX9_isSecond cX9_isSecond 1 (some .boolean) 1 "HatDownTheStreet" := ⟨m0_X9_isSecond, by decide +kernel, tk3_in 31 rfl rfl⟩
theorem mv_X8_93 : h_MV RX8 93 yX8_isWet cX8_isWet 2 (some .boolean) 1 := ⟨m0_X8_isWet, tk3_in 167 rfl rfl, tk3_in 168 rfl rfl, tk3_in 169 rfl rfl⟩
theorem mv_X8_96 : h_MV RX8 96 yX8_tell cX8_tell 4 none 3 := ⟨m0_X8_tell, tk3_in 171 rfl rfl, tk3_in 71 rfl rfl, tk3_in 72 rfl rfl⟩
theorem mv_X8_100 : h_MV RX8 100 yX4_says cX4_says 6 (some .int) 2 := ⟨m0_X4_says, tk3_in 172 rfl rfl, tk3_in 79 rfl rfl, tk3_in 80 rfl rfl⟩
theorem m0_X3_far : h_M0 yX3_far cX3_far 4 (some .int) 4 := ⟨tk3_in 175 rfl rfl, tk1_in 17 rfl rfl, ⟨by decide, by decide, by decide +kernel⟩, by decide⟩
theorem ms_X8_104 : h_MS RX8 104 yX3_far cX3_far 4 (some .int) 4 := ⟨m0_X3_far, tk3_in 173 rfl rfl, tk3_in 174 rfl rfl⟩
theorem m0_X3_eddyWay : h_M0 yX3_eddyWay cX3_eddyWay 3 (some .int) 3 := ⟨tk3_in 188 rfl rfl, tk1_in 17 rfl rfl, ⟨by decide, by decide, by decide +kernel⟩, by decide⟩
theorem ms_X8_110 : h_MS RX8 110 yX3_eddyWay cX3_eddyWay 3 (some .int) 3 := ⟨m0_X3_eddyWay, tk3_in 186 rfl rfl, tk3_in 187 rfl rfl⟩
theorem m0_X8_slide : h_M0 yX8_slide cX8_slide 7 (some .int) 3 := ⟨tk3_in 192 rfl rfl, tk1_in 7 rfl rfl, ⟨by decide, by decide, by decide +kernel⟩, by decide⟩
theorem mv_X8_114 : h_MV RX8 114 yX8_slide cX8_slide 7 (some .int) 3 := ⟨m0_X8_slide, tk3_in 189 rfl rfl, tk3_in 191 rfl rfl, h_in 24 (by decide +kernel) rfl⟩
theorem m0_X3_turnsOver : h_M0 yX3_turnsOver cX3_turnsOver 1 (some .boolean) 1 := ⟨tk3_in 200 rfl rfl, tk1_in 17 rfl rfl, ⟨by decide, by decide, by decide +kernel⟩, by decide⟩
theorem ms_X8_117 : h_MS RX8 117 yX3_turnsOver cX3_turnsOver 1 (some .boolean) 1 := ⟨m0_X3_turnsOver, tk3_in 198 rfl rfl, tk3_in 199 rfl rfl⟩
theorem mn_X8_120 : h_MN RX8 120 yX9_stateOf cX9_stateOf 2 (some .int) 2 "HatDownTheStreet" := ⟨m0_X9_stateOf, by decide +kernel, tk3_in 68 rfl rfl⟩
theorem m0_X8_beside : h_M0 yX8_beside cX8_beside 4 (some .int) 2 := ⟨tk3_in 196 rfl rfl, tk1_in 7 rfl rfl, ⟨by decide, by decide, by decide +kernel⟩, by decide⟩
theorem mv_X8_123 : h_MV RX8 123 yX8_beside cX8_beside 4 (some .int) 2 := ⟨m0_X8_beside, tk3_in 193 rfl rfl, tk3_in 195 rfl rfl, h_in 25 (by decide +kernel) rfl⟩
theorem mn_X8_126 : h_MN RX8 126 yX9_isSquare cX9_isSquare 1 (some .boolean) 1 "HatDownTheStreet" := ⟨m0_X9_isSquare, by decide +kernel, tk3_in 13 rfl rfl⟩
theorem mv_X8_129 : h_MV RX8 129 yX8_follow cX8_follow 3 none 1 := ⟨m0_X8_follow, tk3_in 223 rfl rfl, tk3_in 224 rfl rfl, tk3_in 225 rfl rfl⟩
theorem fl_X8_133 : h_FL RX8 133 0 0 := ⟨RX0, TX0, tyX0, rfl, by decide, by decide, tk1_in 67 rfl rfl, uw_X0, tyX0_ok, nmX0⟩
theorem fl_X8_138 : h_FL RX8 138 0 1 := ⟨RX0, TX0, tyX0, rfl, by decide, by decide, tk1_in 71 rfl rfl, uw_X0, tyX0_ok, nmX0⟩
theorem fl_X8_141 : h_FL RX8 141 0 2 := ⟨RX0, TX0, tyX0, rfl, by decide, by decide, tk1_in 75 rfl rfl, uw_X0, tyX0_ok, nmX0⟩
theorem mv_X8_144 : h_MV RX8 144 yX8_had cX8_had 8 (some .int) 5 := ⟨m0_X8_had, tk4_in 20 rfl rfl, tk4_in 21 rfl rfl, tk4_in 22 rfl rfl⟩
theorem m0_X8_spread : h_M0 yX8_spread cX8_spread 6 (some .int) 2 := ⟨tk4_in 27 rfl rfl, tk1_in 7 rfl rfl, ⟨by decide, by decide, by decide +kernel⟩, by decide⟩
theorem mv_X8_148 : h_MV RX8 148 yX8_spread cX8_spread 6 (some .int) 2 := ⟨m0_X8_spread, tk4_in 24 rfl rfl, tk4_in 26 rfl rfl, h_in 28 (by decide +kernel) rfl⟩
theorem kc_X8_151 : Cond.constant RX8 151 (2139062143) ∈ h_tbl := tk4_in 28 rfl rfl
theorem kc_X8_152 : Cond.constant RX8 152 (-16843010) ∈ h_tbl := tk4_in 29 rfl rfl
theorem fl_X8_153 : h_FL RX8 153 5 1 := ⟨RX6, TX6, tyX6, rfl, by decide, by decide, tk2_in 28 rfl rfl, uw_X6, tyX6_ok, nmX6⟩
theorem fl_X8_158 : h_FL RX8 158 5 2 := ⟨RX6, TX6, tyX6, rfl, by decide, by decide, tk2_in 31 rfl rfl, uw_X6, tyX6_ok, nmX6⟩
theorem m0_X9_street : h_M0 yX9_street cX9_street 5 (some .int) 3 := ⟨tk3_in 11 rfl rfl, tk1_in 1 rfl rfl, ⟨by decide, by decide, by decide +kernel⟩, by decide⟩
theorem mv_L_13 : h_MV RL 13 yX9_street cX9_street 5 (some .int) 3 := ⟨m0_X9_street, tk3_in 8 rfl rfl, tk3_in 9 rfl rfl, tk3_in 10 rfl rfl⟩
theorem m0_X10_street : h_M0 yX10_street cX10_street 5 (some .int) 3 := ⟨tk5_in 181 rfl rfl, tk1_in 15 rfl rfl, ⟨by decide, by decide, by decide +kernel⟩, by decide⟩
theorem mv_L_17 : h_MV RL 17 yX10_street cX10_street 5 (some .int) 3 := ⟨m0_X10_street, tk5_in 178 rfl rfl, tk5_in 179 rfl rfl, tk5_in 180 rfl rfl⟩
theorem mv_L_18 : h_MV RL 18 yX9_blow cX9_blow 5 (some .int) 3 := ⟨m0_X9_blow, tk3_in 26 rfl rfl, tk3_in 27 rfl rfl, tk3_in 28 rfl rfl⟩
theorem m0_X10_blow : h_M0 yX10_blow cX10_blow 5 (some .int) 3 := ⟨tk5_in 196 rfl rfl, tk1_in 15 rfl rfl, ⟨by decide, by decide, by decide +kernel⟩, by decide⟩
theorem mv_L_21 : h_MV RL 21 yX10_blow cX10_blow 5 (some .int) 3 := ⟨m0_X10_blow, tk5_in 193 rfl rfl, tk5_in 194 rfl rfl, tk5_in 195 rfl rfl⟩
theorem m0_X9_wind : h_M0 yX9_wind cX9_wind 2 (some .int) 1 := ⟨tk3_in 40 rfl rfl, tk1_in 1 rfl rfl, ⟨by decide, by decide, by decide +kernel⟩, by decide⟩
theorem mv_L_22 : h_MV RL 22 yX9_wind cX9_wind 2 (some .int) 1 := ⟨m0_X9_wind, tk3_in 37 rfl rfl, tk3_in 38 rfl rfl, tk3_in 39 rfl rfl⟩
theorem m0_X10_wind : h_M0 yX10_wind cX10_wind 2 (some .int) 1 := ⟨tk5_in 200 rfl rfl, tk1_in 15 rfl rfl, ⟨by decide, by decide, by decide +kernel⟩, by decide⟩
theorem mv_L_26 : h_MV RL 26 yX10_wind cX10_wind 2 (some .int) 1 := ⟨m0_X10_wind, tk5_in 197 rfl rfl, tk5_in 198 rfl rfl, tk5_in 199 rfl rfl⟩
theorem m0_X9_count : h_M0 yX9_count cX9_count 2 (some .int) 1 := ⟨tk3_in 44 rfl rfl, tk1_in 1 rfl rfl, ⟨by decide, by decide, by decide +kernel⟩, by decide⟩
theorem mv_L_27 : h_MV RL 27 yX9_count cX9_count 2 (some .int) 1 := ⟨m0_X9_count, tk3_in 41 rfl rfl, tk3_in 42 rfl rfl, tk3_in 43 rfl rfl⟩
theorem m0_X10_count : h_M0 yX10_count cX10_count 2 (some .int) 1 := ⟨tk5_in 204 rfl rfl, tk1_in 15 rfl rfl, ⟨by decide, by decide, by decide +kernel⟩, by decide⟩
theorem mv_L_30 : h_MV RL 30 yX10_count cX10_count 2 (some .int) 1 := ⟨m0_X10_count, tk5_in 201 rfl rfl, tk5_in 202 rfl rfl, tk5_in 203 rfl rfl⟩
theorem m0_X9_feed : h_M0 yX9_feed cX9_feed 8 (some .int) 6 := ⟨tk3_in 48 rfl rfl, tk1_in 1 rfl rfl, ⟨by decide, by decide, by decide +kernel⟩, by decide⟩
theorem mv_L_31 : h_MV RL 31 yX9_feed cX9_feed 8 (some .int) 6 := ⟨m0_X9_feed, tk3_in 45 rfl rfl, tk3_in 46 rfl rfl, tk3_in 47 rfl rfl⟩
theorem m0_X10_feed : h_M0 yX10_feed cX10_feed 8 (some .int) 6 := ⟨tk5_in 208 rfl rfl, tk1_in 15 rfl rfl, ⟨by decide, by decide, by decide +kernel⟩, by decide⟩
theorem mv_L_35 : h_MV RL 35 yX10_feed cX10_feed 8 (some .int) 6 := ⟨m0_X10_feed, tk5_in 205 rfl rfl, tk5_in 206 rfl rfl, tk5_in 207 rfl rfl⟩
theorem m0_X9_text : h_M0 yX9_text cX9_text 2 (some .int) 0 := ⟨tk3_in 55 rfl rfl, tk1_in 1 rfl rfl, ⟨by decide, by decide, by decide +kernel⟩, by decide⟩
theorem mv_L_36 : h_MV RL 36 yX9_text cX9_text 2 (some .int) 0 := ⟨m0_X9_text, tk3_in 52 rfl rfl, tk3_in 53 rfl rfl, tk3_in 54 rfl rfl⟩
theorem m0_X10_text : h_M0 yX10_text cX10_text 3 (some .int) 0 := ⟨tk4_in 238 rfl rfl, tk1_in 15 rfl rfl, ⟨by decide, by decide, by decide +kernel⟩, by decide⟩
theorem mv_L_40 : h_MV RL 40 yX10_text cX10_text 3 (some .int) 0 := ⟨m0_X10_text, tk5_in 212 rfl rfl, tk4_in 236 rfl rfl, tk4_in 237 rfl rfl⟩
theorem m0_X9_force : h_M0 yX9_force cX9_force 3 (some .int) 1 := ⟨tk3_in 59 rfl rfl, tk1_in 1 rfl rfl, ⟨by decide, by decide, by decide +kernel⟩, by decide⟩
theorem mv_L_41 : h_MV RL 41 yX9_force cX9_force 3 (some .int) 1 := ⟨m0_X9_force, tk3_in 56 rfl rfl, tk3_in 57 rfl rfl, tk3_in 58 rfl rfl⟩
theorem m0_X10_force : h_M0 yX10_force cX10_force 3 (some .int) 1 := ⟨tk5_in 216 rfl rfl, tk1_in 15 rfl rfl, ⟨by decide, by decide, by decide +kernel⟩, by decide⟩
theorem mv_L_44 : h_MV RL 44 yX10_force cX10_force 3 (some .int) 1 := ⟨m0_X10_force, tk5_in 213 rfl rfl, tk5_in 214 rfl rfl, tk5_in 215 rfl rfl⟩
theorem m0_X9_asks : h_M0 yX9_asks cX9_asks 6 (some .int) 5 := ⟨tk3_in 63 rfl rfl, tk1_in 1 rfl rfl, ⟨by decide, by decide, by decide +kernel⟩, by decide⟩
theorem mv_L_45 : h_MV RL 45 yX9_asks cX9_asks 6 (some .int) 5 := ⟨m0_X9_asks, tk3_in 60 rfl rfl, tk3_in 61 rfl rfl, tk3_in 62 rfl rfl⟩
theorem m0_X10_asks : h_M0 yX10_asks cX10_asks 7 (some .int) 5 := ⟨tk5_in 220 rfl rfl, tk1_in 15 rfl rfl, ⟨by decide, by decide, by decide +kernel⟩, by decide⟩
theorem mv_L_49 : h_MV RL 49 yX10_asks cX10_asks 7 (some .int) 5 := ⟨m0_X10_asks, tk5_in 217 rfl rfl, tk5_in 218 rfl rfl, tk5_in 219 rfl rfl⟩
theorem m0_X9_hat : h_M0 yX9_hat cX9_hat 5 (some .int) 3 := ⟨tk3_in 100 rfl rfl, tk1_in 1 rfl rfl, ⟨by decide, by decide, by decide +kernel⟩, by decide⟩
theorem mv_L_50 : h_MV RL 50 yX9_hat cX9_hat 5 (some .int) 3 := ⟨m0_X9_hat, tk3_in 97 rfl rfl, tk3_in 98 rfl rfl, tk3_in 99 rfl rfl⟩
theorem m0_X10_hat : h_M0 yX10_hat cX10_hat 4 (some .int) 3 := ⟨tk6_in 1 rfl rfl, tk1_in 15 rfl rfl, ⟨by decide, by decide, by decide +kernel⟩, by decide⟩
theorem mv_L_53 : h_MV RL 53 yX10_hat cX10_hat 4 (some .int) 3 := ⟨m0_X10_hat, tk5_in 238 rfl rfl, tk5_in 239 rfl rfl, tk6_in 0 rfl rfl⟩
theorem m0_X9_set : h_M0 yX9_set cX9_set 7 (some .int) 3 := ⟨tk3_in 111 rfl rfl, tk1_in 1 rfl rfl, ⟨by decide, by decide, by decide +kernel⟩, by decide⟩
theorem mv_L_54 : h_MV RL 54 yX9_set cX9_set 7 (some .int) 3 := ⟨m0_X9_set, tk3_in 108 rfl rfl, tk3_in 109 rfl rfl, tk3_in 110 rfl rfl⟩
theorem m0_X10_set : h_M0 yX10_set cX10_set 5 (some .int) 3 := ⟨tk6_in 9 rfl rfl, tk1_in 15 rfl rfl, ⟨by decide, by decide, by decide +kernel⟩, by decide⟩
theorem mv_L_57 : h_MV RL 57 yX10_set cX10_set 5 (some .int) 3 := ⟨m0_X10_set, tk6_in 6 rfl rfl, tk6_in 7 rfl rfl, tk6_in 8 rfl rfl⟩
theorem m0_X9_told : h_M0 yX9_told cX9_told 3 (some .int) 2 := ⟨tk3_in 121 rfl rfl, tk1_in 1 rfl rfl, ⟨by decide, by decide, by decide +kernel⟩, by decide⟩
theorem mv_L_58 : h_MV RL 58 yX9_told cX9_told 3 (some .int) 2 := ⟨m0_X9_told, tk3_in 118 rfl rfl, tk3_in 119 rfl rfl, tk3_in 120 rfl rfl⟩
theorem m0_X10_told : h_M0 yX10_told cX10_told 3 (some .int) 2 := ⟨tk6_in 17 rfl rfl, tk1_in 15 rfl rfl, ⟨by decide, by decide, by decide +kernel⟩, by decide⟩
theorem mv_L_62 : h_MV RL 62 yX10_told cX10_told 3 (some .int) 2 := ⟨m0_X10_told, tk6_in 14 rfl rfl, tk6_in 15 rfl rfl, tk6_in 16 rfl rfl⟩
theorem m0_X9_come : h_M0 yX9_come cX9_come 5 (some .int) 3 := ⟨tk3_in 125 rfl rfl, tk1_in 1 rfl rfl, ⟨by decide, by decide, by decide +kernel⟩, by decide⟩
theorem mv_L_63 : h_MV RL 63 yX9_come cX9_come 5 (some .int) 3 := ⟨m0_X9_come, tk3_in 122 rfl rfl, tk3_in 123 rfl rfl, tk3_in 124 rfl rfl⟩
theorem m0_X10_come : h_M0 yX10_come cX10_come 4 (some .int) 3 := ⟨tk6_in 21 rfl rfl, tk1_in 15 rfl rfl, ⟨by decide, by decide, by decide +kernel⟩, by decide⟩
theorem mv_L_66 : h_MV RL 66 yX10_come cX10_come 4 (some .int) 3 := ⟨m0_X10_come, tk6_in 18 rfl rfl, tk6_in 19 rfl rfl, tk6_in 20 rfl rfl⟩
theorem m0_X9_does : h_M0 yX9_does cX9_does 6 (some .int) 3 := ⟨tk3_in 135 rfl rfl, tk1_in 1 rfl rfl, ⟨by decide, by decide, by decide +kernel⟩, by decide⟩
theorem mv_L_67 : h_MV RL 67 yX9_does cX9_does 6 (some .int) 3 := ⟨m0_X9_does, tk3_in 132 rfl rfl, tk3_in 133 rfl rfl, tk3_in 134 rfl rfl⟩
theorem m0_X10_does : h_M0 yX10_does cX10_does 5 (some .int) 3 := ⟨tk6_in 25 rfl rfl, tk1_in 15 rfl rfl, ⟨by decide, by decide, by decide +kernel⟩, by decide⟩
theorem mv_L_70 : h_MV RL 70 yX10_does cX10_does 5 (some .int) 3 := ⟨m0_X10_does, tk6_in 22 rfl rfl, tk6_in 23 rfl rfl, tk6_in 24 rfl rfl⟩
theorem m0_X9_at : h_M0 yX9_at cX9_at 5 (some .int) 3 := ⟨tk3_in 143 rfl rfl, tk1_in 1 rfl rfl, ⟨by decide, by decide, by decide +kernel⟩, by decide⟩
theorem mv_L_71 : h_MV RL 71 yX9_at cX9_at 5 (some .int) 3 := ⟨m0_X9_at, tk3_in 140 rfl rfl, tk3_in 141 rfl rfl, tk3_in 142 rfl rfl⟩
theorem m0_X10_at : h_M0 yX10_at cX10_at 5 (some .int) 3 := ⟨tk6_in 33 rfl rfl, tk1_in 15 rfl rfl, ⟨by decide, by decide, by decide +kernel⟩, by decide⟩
theorem mv_L_74 : h_MV RL 74 yX10_at cX10_at 5 (some .int) 3 := ⟨m0_X10_at, tk6_in 30 rfl rfl, tk6_in 31 rfl rfl, tk6_in 32 rfl rfl⟩
theorem m0_X9_pass : h_M0 yX9_pass cX9_pass 4 (some .int) 1 := ⟨tk3_in 210 rfl rfl, tk1_in 1 rfl rfl, ⟨by decide, by decide, by decide +kernel⟩, by decide⟩
theorem mv_L_75 : h_MV RL 75 yX9_pass cX9_pass 4 (some .int) 1 := ⟨m0_X9_pass, tk3_in 207 rfl rfl, tk3_in 208 rfl rfl, tk3_in 209 rfl rfl⟩
theorem m0_X10_pass : h_M0 yX10_pass cX10_pass 4 (some .int) 1 := ⟨tk6_in 68 rfl rfl, tk1_in 15 rfl rfl, ⟨by decide, by decide, by decide +kernel⟩, by decide⟩
theorem mv_L_78 : h_MV RL 78 yX10_pass cX10_pass 4 (some .int) 1 := ⟨m0_X10_pass, tk6_in 65 rfl rfl, tk6_in 66 rfl rfl, tk6_in 67 rfl rfl⟩
theorem m0_X9_when : h_M0 yX9_when cX9_when 3 (some .int) 2 := ⟨tk3_in 218 rfl rfl, tk1_in 1 rfl rfl, ⟨by decide, by decide, by decide +kernel⟩, by decide⟩
theorem mv_L_79 : h_MV RL 79 yX9_when cX9_when 3 (some .int) 2 := ⟨m0_X9_when, tk3_in 215 rfl rfl, tk3_in 216 rfl rfl, tk3_in 217 rfl rfl⟩
theorem m0_X10_when : h_M0 yX10_when cX10_when 4 (some .int) 2 := ⟨tk6_in 76 rfl rfl, tk1_in 15 rfl rfl, ⟨by decide, by decide, by decide +kernel⟩, by decide⟩
theorem mv_L_82 : h_MV RL 82 yX10_when cX10_when 4 (some .int) 2 := ⟨m0_X10_when, tk6_in 73 rfl rfl, tk6_in 74 rfl rfl, tk6_in 75 rfl rfl⟩
theorem m0_X9_track : h_M0 yX9_track cX9_track 5 (some .int) 2 := ⟨tk3_in 230 rfl rfl, tk1_in 1 rfl rfl, ⟨by decide, by decide, by decide +kernel⟩, by decide⟩
theorem mv_L_83 : h_MV RL 83 yX9_track cX9_track 5 (some .int) 2 := ⟨m0_X9_track, tk3_in 227 rfl rfl, tk3_in 228 rfl rfl, tk3_in 229 rfl rfl⟩
theorem m0_X10_track : h_M0 yX10_track cX10_track 5 (some .int) 2 := ⟨tk6_in 80 rfl rfl, tk1_in 15 rfl rfl, ⟨by decide, by decide, by decide +kernel⟩, by decide⟩
theorem mv_L_86 : h_MV RL 86 yX10_track cX10_track 5 (some .int) 2 := ⟨m0_X10_track, tk6_in 77 rfl rfl, tk6_in 78 rfl rfl, tk6_in 79 rfl rfl⟩
theorem m0_X9_over : h_M0 yX9_over cX9_over 2 (some .int) 1 := ⟨tk3_in 235 rfl rfl, tk1_in 1 rfl rfl, ⟨by decide, by decide, by decide +kernel⟩, by decide⟩
theorem mv_L_87 : h_MV RL 87 yX9_over cX9_over 2 (some .int) 1 := ⟨m0_X9_over, tk3_in 232 rfl rfl, tk3_in 233 rfl rfl, tk3_in 234 rfl rfl⟩
theorem m0_X10_over : h_M0 yX10_over cX10_over 3 (some .int) 1 := ⟨tk6_in 84 rfl rfl, tk1_in 15 rfl rfl, ⟨by decide, by decide, by decide +kernel⟩, by decide⟩
theorem mv_L_90 : h_MV RL 90 yX10_over cX10_over 3 (some .int) 1 := ⟨m0_X10_over, tk6_in 81 rfl rfl, tk6_in 82 rfl rfl, tk6_in 83 rfl rfl⟩
theorem m0_X9_round : h_M0 yX9_round cX9_round 5 (some .int) 2 := ⟨tk3_in 239 rfl rfl, tk1_in 1 rfl rfl, ⟨by decide, by decide, by decide +kernel⟩, by decide⟩
theorem mv_L_91 : h_MV RL 91 yX9_round cX9_round 5 (some .int) 2 := ⟨m0_X9_round, tk3_in 236 rfl rfl, tk3_in 237 rfl rfl, tk3_in 238 rfl rfl⟩
theorem m0_X10_round : h_M0 yX10_round cX10_round 4 (some .int) 2 := ⟨tk6_in 88 rfl rfl, tk1_in 15 rfl rfl, ⟨by decide, by decide, by decide +kernel⟩, by decide⟩
theorem mv_L_94 : h_MV RL 94 yX10_round cX10_round 4 (some .int) 2 := ⟨m0_X10_round, tk6_in 85 rfl rfl, tk6_in 86 rfl rfl, tk6_in 87 rfl rfl⟩
theorem m0_X9_from : h_M0 yX9_from cX9_from 6 (some .int) 3 := ⟨tk4_in 3 rfl rfl, tk1_in 1 rfl rfl, ⟨by decide, by decide, by decide +kernel⟩, by decide⟩
theorem mv_L_95 : h_MV RL 95 yX9_from cX9_from 6 (some .int) 3 := ⟨m0_X9_from, tk4_in 0 rfl rfl, tk4_in 1 rfl rfl, tk4_in 2 rfl rfl⟩
theorem m0_X10_from : h_M0 yX10_from cX10_from 6 (some .int) 3 := ⟨tk6_in 92 rfl rfl, tk1_in 15 rfl rfl, ⟨by decide, by decide, by decide +kernel⟩, by decide⟩
theorem mv_L_98 : h_MV RL 98 yX10_from cX10_from 6 (some .int) 3 := ⟨m0_X10_from, tk6_in 89 rfl rfl, tk6_in 90 rfl rfl, tk6_in 91 rfl rfl⟩
theorem m0_X9_keeps : h_M0 yX9_keeps cX9_keeps 7 (some .int) 3 := ⟨tk4_in 7 rfl rfl, tk1_in 1 rfl rfl, ⟨by decide, by decide, by decide +kernel⟩, by decide⟩
theorem mv_L_99 : h_MV RL 99 yX9_keeps cX9_keeps 7 (some .int) 3 := ⟨m0_X9_keeps, tk4_in 4 rfl rfl, tk4_in 5 rfl rfl, tk4_in 6 rfl rfl⟩
theorem m0_X10_keeps : h_M0 yX10_keeps cX10_keeps 9 (some .int) 3 := ⟨tk6_in 100 rfl rfl, tk1_in 15 rfl rfl, ⟨by decide, by decide, by decide +kernel⟩, by decide⟩
theorem mv_L_102 : h_MV RL 102 yX10_keeps cX10_keeps 9 (some .int) 3 := ⟨m0_X10_keeps, tk6_in 97 rfl rfl, tk6_in 98 rfl rfl, tk6_in 99 rfl rfl⟩
theorem m0_X9_caught : h_M0 yX9_caught cX9_caught 3 (some .int) 2 := ⟨tk4_in 11 rfl rfl, tk1_in 1 rfl rfl, ⟨by decide, by decide, by decide +kernel⟩, by decide⟩
theorem mv_L_103 : h_MV RL 103 yX9_caught cX9_caught 3 (some .int) 2 := ⟨m0_X9_caught, tk4_in 8 rfl rfl, tk4_in 9 rfl rfl, tk4_in 10 rfl rfl⟩
theorem m0_X10_caught : h_M0 yX10_caught cX10_caught 3 (some .int) 2 := ⟨tk6_in 104 rfl rfl, tk1_in 15 rfl rfl, ⟨by decide, by decide, by decide +kernel⟩, by decide⟩
theorem mv_L_106 : h_MV RL 106 yX10_caught cX10_caught 3 (some .int) 2 := ⟨m0_X10_caught, tk6_in 101 rfl rfl, tk6_in 102 rfl rfl, tk6_in 103 rfl rfl⟩
theorem m0_X9_who : h_M0 yX9_who cX9_who 8 (some .int) 2 := ⟨tk4_in 33 rfl rfl, tk1_in 1 rfl rfl, ⟨by decide, by decide, by decide +kernel⟩, by decide⟩
theorem mv_L_107 : h_MV RL 107 yX9_who cX9_who 8 (some .int) 2 := ⟨m0_X9_who, tk4_in 30 rfl rfl, tk4_in 31 rfl rfl, tk4_in 32 rfl rfl⟩
theorem m0_X10_who : h_M0 yX10_who cX10_who 8 (some .int) 2 := ⟨tk6_in 124 rfl rfl, tk1_in 15 rfl rfl, ⟨by decide, by decide, by decide +kernel⟩, by decide⟩
theorem mv_L_110 : h_MV RL 110 yX10_who cX10_who 8 (some .int) 2 := ⟨m0_X10_who, tk6_in 121 rfl rfl, tk6_in 122 rfl rfl, tk6_in 123 rfl rfl⟩
theorem m0_X9_stand : h_M0 yX9_stand cX9_stand 10 (some .int) 3 := ⟨tk4_in 41 rfl rfl, tk1_in 1 rfl rfl, ⟨by decide, by decide, by decide +kernel⟩, by decide⟩
theorem mv_L_111 : h_MV RL 111 yX9_stand cX9_stand 10 (some .int) 3 := ⟨m0_X9_stand, tk4_in 38 rfl rfl, tk4_in 39 rfl rfl, tk4_in 40 rfl rfl⟩
theorem m0_X10_stand : h_M0 yX10_stand cX10_stand 9 (some .int) 3 := ⟨tk6_in 128 rfl rfl, tk1_in 15 rfl rfl, ⟨by decide, by decide, by decide +kernel⟩, by decide⟩
theorem mv_L_114 : h_MV RL 114 yX10_stand cX10_stand 9 (some .int) 3 := ⟨m0_X10_stand, tk6_in 125 rfl rfl, tk6_in 126 rfl rfl, tk6_in 127 rfl rfl⟩
theorem m0_X9_wait : h_M0 yX9_wait cX9_wait 8 (some .int) 2 := ⟨tk4_in 49 rfl rfl, tk1_in 1 rfl rfl, ⟨by decide, by decide, by decide +kernel⟩, by decide⟩
theorem mv_L_115 : h_MV RL 115 yX9_wait cX9_wait 8 (some .int) 2 := ⟨m0_X9_wait, tk4_in 46 rfl rfl, tk4_in 47 rfl rfl, tk4_in 48 rfl rfl⟩
theorem m0_X10_wait : h_M0 yX10_wait cX10_wait 7 (some .int) 2 := ⟨tk6_in 132 rfl rfl, tk1_in 15 rfl rfl, ⟨by decide, by decide, by decide +kernel⟩, by decide⟩
theorem mv_L_118 : h_MV RL 118 yX10_wait cX10_wait 7 (some .int) 2 := ⟨m0_X10_wait, tk6_in 129 rfl rfl, tk6_in 130 rfl rfl, tk6_in 131 rfl rfl⟩
theorem m0_X9_pace : h_M0 yX9_pace cX9_pace 7 (some .int) 3 := ⟨tk4_in 53 rfl rfl, tk1_in 1 rfl rfl, ⟨by decide, by decide, by decide +kernel⟩, by decide⟩
theorem mv_L_119 : h_MV RL 119 yX9_pace cX9_pace 7 (some .int) 3 := ⟨m0_X9_pace, tk4_in 50 rfl rfl, tk4_in 51 rfl rfl, tk4_in 52 rfl rfl⟩
theorem m0_X10_pace : h_M0 yX10_pace cX10_pace 6 (some .int) 3 := ⟨tk6_in 136 rfl rfl, tk1_in 15 rfl rfl, ⟨by decide, by decide, by decide +kernel⟩, by decide⟩
theorem mv_L_122 : h_MV RL 122 yX10_pace cX10_pace 6 (some .int) 3 := ⟨m0_X10_pace, tk6_in 133 rfl rfl, tk6_in 134 rfl rfl, tk6_in 135 rfl rfl⟩
theorem m0_X9_order : h_M0 yX9_order cX9_order 4 (some .int) 2 := ⟨tk4_in 57 rfl rfl, tk1_in 1 rfl rfl, ⟨by decide, by decide, by decide +kernel⟩, by decide⟩
theorem mv_L_123 : h_MV RL 123 yX9_order cX9_order 4 (some .int) 2 := ⟨m0_X9_order, tk4_in 54 rfl rfl, tk4_in 55 rfl rfl, tk4_in 56 rfl rfl⟩
theorem m0_X10_order : h_M0 yX10_order cX10_order 8 (some .int) 2 := ⟨tk6_in 140 rfl rfl, tk1_in 15 rfl rfl, ⟨by decide, by decide, by decide +kernel⟩, by decide⟩
theorem mv_L_126 : h_MV RL 126 yX10_order cX10_order 8 (some .int) 2 := ⟨m0_X10_order, tk6_in 137 rfl rfl, tk6_in 138 rfl rfl, tk6_in 139 rfl rfl⟩
theorem m0_X9_gain : h_M0 yX9_gain cX9_gain 3 (some .int) 2 := ⟨tk4_in 72 rfl rfl, tk1_in 1 rfl rfl, ⟨by decide, by decide, by decide +kernel⟩, by decide⟩
theorem mv_L_127 : h_MV RL 127 yX9_gain cX9_gain 3 (some .int) 2 := ⟨m0_X9_gain, tk4_in 69 rfl rfl, tk4_in 70 rfl rfl, tk4_in 71 rfl rfl⟩
theorem m0_X10_gain : h_M0 yX10_gain cX10_gain 3 (some .int) 2 := ⟨tk6_in 151 rfl rfl, tk1_in 15 rfl rfl, ⟨by decide, by decide, by decide +kernel⟩, by decide⟩
theorem mv_L_130 : h_MV RL 130 yX10_gain cX10_gain 3 (some .int) 2 := ⟨m0_X10_gain, tk6_in 148 rfl rfl, tk6_in 149 rfl rfl, tk6_in 150 rfl rfl⟩
theorem m0_X9_whom : h_M0 yX9_whom cX9_whom 7 (some .int) 2 := ⟨tk4_in 80 rfl rfl, tk1_in 1 rfl rfl, ⟨by decide, by decide, by decide +kernel⟩, by decide⟩
theorem mv_L_131 : h_MV RL 131 yX9_whom cX9_whom 7 (some .int) 2 := ⟨m0_X9_whom, tk4_in 77 rfl rfl, tk4_in 78 rfl rfl, tk4_in 79 rfl rfl⟩
theorem m0_X10_whom : h_M0 yX10_whom cX10_whom 7 (some .int) 2 := ⟨tk6_in 159 rfl rfl, tk1_in 15 rfl rfl, ⟨by decide, by decide, by decide +kernel⟩, by decide⟩
theorem mv_L_134 : h_MV RL 134 yX10_whom cX10_whom 7 (some .int) 2 := ⟨m0_X10_whom, tk6_in 156 rfl rfl, tk6_in 157 rfl rfl, tk6_in 158 rfl rfl⟩
theorem m0_X9_run : h_M0 yX9_run cX9_run 4 (some .int) 2 := ⟨tk4_in 84 rfl rfl, tk1_in 1 rfl rfl, ⟨by decide, by decide, by decide +kernel⟩, by decide⟩
theorem mv_L_135 : h_MV RL 135 yX9_run cX9_run 4 (some .int) 2 := ⟨m0_X9_run, tk4_in 81 rfl rfl, tk4_in 82 rfl rfl, tk4_in 83 rfl rfl⟩
theorem m0_X10_run : h_M0 yX10_run cX10_run 5 (some .int) 2 := ⟨tk6_in 163 rfl rfl, tk1_in 15 rfl rfl, ⟨by decide, by decide, by decide +kernel⟩, by decide⟩
theorem mv_L_138 : h_MV RL 138 yX10_run cX10_run 5 (some .int) 2 := ⟨m0_X10_run, tk6_in 160 rfl rfl, tk6_in 161 rfl rfl, tk6_in 162 rfl rfl⟩
theorem m0_X9_held : h_M0 yX9_held cX9_held 7 (some .int) 3 := ⟨tk4_in 96 rfl rfl, tk1_in 1 rfl rfl, ⟨by decide, by decide, by decide +kernel⟩, by decide⟩
theorem mv_L_139 : h_MV RL 139 yX9_held cX9_held 7 (some .int) 3 := ⟨m0_X9_held, tk4_in 93 rfl rfl, tk4_in 94 rfl rfl, tk4_in 95 rfl rfl⟩
theorem m0_X10_held : h_M0 yX10_held cX10_held 4 (some .int) 3 := ⟨tk6_in 167 rfl rfl, tk1_in 15 rfl rfl, ⟨by decide, by decide, by decide +kernel⟩, by decide⟩
theorem mv_L_142 : h_MV RL 142 yX10_held cX10_held 4 (some .int) 3 := ⟨m0_X10_held, tk6_in 164 rfl rfl, tk6_in 165 rfl rfl, tk6_in 166 rfl rfl⟩
theorem m0_X9_save : h_M0 yX9_save cX9_save 4 (some .int) 1 := ⟨tk4_in 101 rfl rfl, tk1_in 1 rfl rfl, ⟨by decide, by decide, by decide +kernel⟩, by decide⟩
theorem mv_L_143 : h_MV RL 143 yX9_save cX9_save 4 (some .int) 1 := ⟨m0_X9_save, tk4_in 98 rfl rfl, tk4_in 99 rfl rfl, tk4_in 100 rfl rfl⟩
theorem m0_X10_save : h_M0 yX10_save cX10_save 4 (some .int) 1 := ⟨tk6_in 175 rfl rfl, tk1_in 15 rfl rfl, ⟨by decide, by decide, by decide +kernel⟩, by decide⟩
theorem mv_L_146 : h_MV RL 146 yX10_save cX10_save 4 (some .int) 1 := ⟨m0_X10_save, tk6_in 172 rfl rfl, tk6_in 173 rfl rfl, tk6_in 174 rfl rfl⟩
theorem m0_X9_turned : h_M0 yX9_turned cX9_turned 7 (some .int) 3 := ⟨tk4_in 106 rfl rfl, tk1_in 1 rfl rfl, ⟨by decide, by decide, by decide +kernel⟩, by decide⟩
theorem mv_L_147 : h_MV RL 147 yX9_turned cX9_turned 7 (some .int) 3 := ⟨m0_X9_turned, tk4_in 103 rfl rfl, tk4_in 104 rfl rfl, tk4_in 105 rfl rfl⟩
theorem m0_X10_turned : h_M0 yX10_turned cX10_turned 7 (some .int) 3 := ⟨tk6_in 179 rfl rfl, tk1_in 15 rfl rfl, ⟨by decide, by decide, by decide +kernel⟩, by decide⟩
theorem mv_L_150 : h_MV RL 150 yX10_turned cX10_turned 7 (some .int) 3 := ⟨m0_X10_turned, tk6_in 176 rfl rfl, tk6_in 177 rfl rfl, tk6_in 178 rfl rfl⟩
theorem m0_X9_lull : h_M0 yX9_lull cX9_lull 9 (some .int) 3 := ⟨tk4_in 110 rfl rfl, tk1_in 1 rfl rfl, ⟨by decide, by decide, by decide +kernel⟩, by decide⟩
theorem mv_L_151 : h_MV RL 151 yX9_lull cX9_lull 9 (some .int) 3 := ⟨m0_X9_lull, tk4_in 107 rfl rfl, tk4_in 108 rfl rfl, tk4_in 109 rfl rfl⟩
theorem m0_X10_lull : h_M0 yX10_lull cX10_lull 10 (some .int) 3 := ⟨tk6_in 183 rfl rfl, tk1_in 15 rfl rfl, ⟨by decide, by decide, by decide +kernel⟩, by decide⟩
theorem mv_L_154 : h_MV RL 154 yX10_lull cX10_lull 10 (some .int) 3 := ⟨m0_X10_lull, tk6_in 180 rfl rfl, tk6_in 181 rfl rfl, tk6_in 182 rfl rfl⟩
theorem m0_X9_fence : h_M0 yX9_fence cX9_fence 10 (some .int) 3 := ⟨tk4_in 114 rfl rfl, tk1_in 1 rfl rfl, ⟨by decide, by decide, by decide +kernel⟩, by decide⟩
theorem mv_L_155 : h_MV RL 155 yX9_fence cX9_fence 10 (some .int) 3 := ⟨m0_X9_fence, tk4_in 111 rfl rfl, tk4_in 112 rfl rfl, tk4_in 113 rfl rfl⟩
theorem m0_X10_fence : h_M0 yX10_fence cX10_fence 10 (some .int) 3 := ⟨tk6_in 190 rfl rfl, tk1_in 15 rfl rfl, ⟨by decide, by decide, by decide +kernel⟩, by decide⟩
theorem mv_L_158 : h_MV RL 158 yX10_fence cX10_fence 10 (some .int) 3 := ⟨m0_X10_fence, tk6_in 187 rfl rfl, tk6_in 188 rfl rfl, tk6_in 189 rfl rfl⟩
theorem m0_X9_judge : h_M0 yX9_judge cX9_judge 4 (some .int) 2 := ⟨tk4_in 118 rfl rfl, tk1_in 1 rfl rfl, ⟨by decide, by decide, by decide +kernel⟩, by decide⟩
theorem mv_L_159 : h_MV RL 159 yX9_judge cX9_judge 4 (some .int) 2 := ⟨m0_X9_judge, tk4_in 115 rfl rfl, tk4_in 116 rfl rfl, tk4_in 117 rfl rfl⟩
theorem m0_X10_judge : h_M0 yX10_judge cX10_judge 4 (some .int) 2 := ⟨tk6_in 194 rfl rfl, tk1_in 15 rfl rfl, ⟨by decide, by decide, by decide +kernel⟩, by decide⟩
theorem mv_L_162 : h_MV RL 162 yX10_judge cX10_judge 4 (some .int) 2 := ⟨m0_X10_judge, tk6_in 191 rfl rfl, tk6_in 192 rfl rfl, tk6_in 193 rfl rfl⟩
theorem m0_X9_whose : h_M0 yX9_whose cX9_whose 5 (some .int) 1 := ⟨tk4_in 137 rfl rfl, tk1_in 1 rfl rfl, ⟨by decide, by decide, by decide +kernel⟩, by decide⟩
theorem mv_L_163 : h_MV RL 163 yX9_whose cX9_whose 5 (some .int) 1 := ⟨m0_X9_whose, tk4_in 134 rfl rfl, tk4_in 135 rfl rfl, tk4_in 136 rfl rfl⟩
theorem m0_X10_whose : h_M0 yX10_whose cX10_whose 5 (some .int) 1 := ⟨tk6_in 214 rfl rfl, tk1_in 15 rfl rfl, ⟨by decide, by decide, by decide +kernel⟩, by decide⟩
theorem mv_L_166 : h_MV RL 166 yX10_whose cX10_whose 5 (some .int) 1 := ⟨m0_X10_whose, tk6_in 211 rfl rfl, tk6_in 212 rfl rfl, tk6_in 213 rfl rfl⟩
theorem m0_X9_lay : h_M0 yX9_lay cX9_lay 7 (some .int) 2 := ⟨tk4_in 141 rfl rfl, tk1_in 1 rfl rfl, ⟨by decide, by decide, by decide +kernel⟩, by decide⟩
theorem mv_L_167 : h_MV RL 167 yX9_lay cX9_lay 7 (some .int) 2 := ⟨m0_X9_lay, tk4_in 138 rfl rfl, tk4_in 139 rfl rfl, tk4_in 140 rfl rfl⟩
theorem m0_X10_lay : h_M0 yX10_lay cX10_lay 6 (some .int) 2 := ⟨tk6_in 218 rfl rfl, tk1_in 15 rfl rfl, ⟨by decide, by decide, by decide +kernel⟩, by decide⟩
theorem mv_L_170 : h_MV RL 170 yX10_lay cX10_lay 6 (some .int) 2 := ⟨m0_X10_lay, tk6_in 215 rfl rfl, tk6_in 216 rfl rfl, tk6_in 217 rfl rfl⟩
theorem m0_X9_kinds : h_M0 yX9_kinds cX9_kinds 8 (some .int) 3 := ⟨tk4_in 145 rfl rfl, tk1_in 1 rfl rfl, ⟨by decide, by decide, by decide +kernel⟩, by decide⟩
theorem mv_L_171 : h_MV RL 171 yX9_kinds cX9_kinds 8 (some .int) 3 := ⟨m0_X9_kinds, tk4_in 142 rfl rfl, tk4_in 143 rfl rfl, tk4_in 144 rfl rfl⟩
theorem m0_X10_kinds : h_M0 yX10_kinds cX10_kinds 9 (some .int) 3 := ⟨tk6_in 222 rfl rfl, tk1_in 15 rfl rfl, ⟨by decide, by decide, by decide +kernel⟩, by decide⟩
theorem mv_L_174 : h_MV RL 174 yX10_kinds cX10_kinds 9 (some .int) 3 := ⟨m0_X10_kinds, tk6_in 219 rfl rfl, tk6_in 220 rfl rfl, tk6_in 221 rfl rfl⟩
theorem m0_X9_laws : h_M0 yX9_laws cX9_laws 6 (some .int) 2 := ⟨tk4_in 149 rfl rfl, tk1_in 1 rfl rfl, ⟨by decide, by decide, by decide +kernel⟩, by decide⟩
theorem mv_L_175 : h_MV RL 175 yX9_laws cX9_laws 6 (some .int) 2 := ⟨m0_X9_laws, tk4_in 146 rfl rfl, tk4_in 147 rfl rfl, tk4_in 148 rfl rfl⟩
theorem m0_X10_laws : h_M0 yX10_laws cX10_laws 7 (some .int) 2 := ⟨tk6_in 226 rfl rfl, tk1_in 15 rfl rfl, ⟨by decide, by decide, by decide +kernel⟩, by decide⟩
theorem mv_L_178 : h_MV RL 178 yX10_laws cX10_laws 7 (some .int) 2 := ⟨m0_X10_laws, tk6_in 223 rfl rfl, tk6_in 224 rfl rfl, tk6_in 225 rfl rfl⟩
theorem m0_X9_film : h_M0 yX9_film cX9_film 5 (some .int) 3 := ⟨tk4_in 153 rfl rfl, tk1_in 1 rfl rfl, ⟨by decide, by decide, by decide +kernel⟩, by decide⟩
theorem mv_L_179 : h_MV RL 179 yX9_film cX9_film 5 (some .int) 3 := ⟨m0_X9_film, tk4_in 150 rfl rfl, tk4_in 151 rfl rfl, tk4_in 152 rfl rfl⟩
theorem m0_X10_film : h_M0 yX10_film cX10_film 5 (some .int) 3 := ⟨tk6_in 230 rfl rfl, tk1_in 15 rfl rfl, ⟨by decide, by decide, by decide +kernel⟩, by decide⟩
theorem mv_L_182 : h_MV RL 182 yX10_film cX10_film 5 (some .int) 3 := ⟨m0_X10_film, tk6_in 227 rfl rfl, tk6_in 228 rfl rfl, tk6_in 229 rfl rfl⟩
theorem m0_X9_drawn : h_M0 yX9_drawn cX9_drawn 4 (some .int) 3 := ⟨tk4_in 165 rfl rfl, tk1_in 1 rfl rfl, ⟨by decide, by decide, by decide +kernel⟩, by decide⟩
theorem mv_L_183 : h_MV RL 183 yX9_drawn cX9_drawn 4 (some .int) 3 := ⟨m0_X9_drawn, tk4_in 162 rfl rfl, tk4_in 163 rfl rfl, tk4_in 164 rfl rfl⟩
theorem m0_X10_drawn : h_M0 yX10_drawn cX10_drawn 5 (some .int) 3 := ⟨tk6_in 234 rfl rfl, tk1_in 15 rfl rfl, ⟨by decide, by decide, by decide +kernel⟩, by decide⟩
theorem mv_L_186 : h_MV RL 186 yX10_drawn cX10_drawn 5 (some .int) 3 := ⟨m0_X10_drawn, tk6_in 231 rfl rfl, tk6_in 232 rfl rfl, tk6_in 233 rfl rfl⟩
theorem m0_X9_odds : h_M0 yX9_odds cX9_odds 7 (some .long) 4 := ⟨tk4_in 181 rfl rfl, tk1_in 1 rfl rfl, ⟨by decide, by decide, by decide +kernel⟩, by decide⟩
theorem mv_L_187 : h_MV RL 187 yX9_odds cX9_odds 7 (some .long) 4 := ⟨m0_X9_odds, tk4_in 178 rfl rfl, tk4_in 179 rfl rfl, tk4_in 180 rfl rfl⟩
theorem m0_X10_odds : h_M0 yX10_odds cX10_odds 9 (some .long) 4 := ⟨tk7_in 11 rfl rfl, tk1_in 15 rfl rfl, ⟨by decide, by decide, by decide +kernel⟩, by decide⟩
theorem mv_L_191 : h_MV RL 191 yX10_odds cX10_odds 9 (some .long) 4 := ⟨m0_X10_odds, tk7_in 8 rfl rfl, tk7_in 9 rfl rfl, tk7_in 10 rfl rfl⟩
theorem m0_X9_image : h_M0 yX9_image cX9_image 1 (some .int) 0 := ⟨tk4_in 192 rfl rfl, tk1_in 1 rfl rfl, ⟨by decide, by decide, by decide +kernel⟩, by decide⟩
theorem mv_L_192 : h_MV RL 192 yX9_image cX9_image 1 (some .int) 0 := ⟨m0_X9_image, tk4_in 189 rfl rfl, tk4_in 190 rfl rfl, tk4_in 191 rfl rfl⟩
theorem m0_X10_image : h_M0 yX10_image cX10_image 2 (some .int) 0 := ⟨tk7_in 19 rfl rfl, tk1_in 15 rfl rfl, ⟨by decide, by decide, by decide +kernel⟩, by decide⟩
theorem mv_L_195 : h_MV RL 195 yX10_image cX10_image 2 (some .int) 0 := ⟨m0_X10_image, tk7_in 16 rfl rfl, tk7_in 17 rfl rfl, tk7_in 18 rfl rfl⟩
theorem m0_X9_back : h_M0 yX9_back cX9_back 1 (some .int) 0 := ⟨tk4_in 205 rfl rfl, tk1_in 1 rfl rfl, ⟨by decide, by decide, by decide +kernel⟩, by decide⟩
theorem mv_L_196 : h_MV RL 196 yX9_back cX9_back 1 (some .int) 0 := ⟨m0_X9_back, tk4_in 202 rfl rfl, tk4_in 203 rfl rfl, tk4_in 204 rfl rfl⟩
theorem m0_X10_back : h_M0 yX10_back cX10_back 2 (some .int) 0 := ⟨tk7_in 23 rfl rfl, tk1_in 15 rfl rfl, ⟨by decide, by decide, by decide +kernel⟩, by decide⟩
theorem mv_L_199 : h_MV RL 199 yX10_back cX10_back 2 (some .int) 0 := ⟨m0_X10_back, tk7_in 20 rfl rfl, tk7_in 21 rfl rfl, tk7_in 22 rfl rfl⟩
theorem m0_X9_sheet : h_M0 yX9_sheet cX9_sheet 4 (some .int) 3 := ⟨tk4_in 209 rfl rfl, tk1_in 1 rfl rfl, ⟨by decide, by decide, by decide +kernel⟩, by decide⟩
theorem mv_L_200 : h_MV RL 200 yX9_sheet cX9_sheet 4 (some .int) 3 := ⟨m0_X9_sheet, tk4_in 206 rfl rfl, tk4_in 207 rfl rfl, tk4_in 208 rfl rfl⟩
theorem m0_X10_sheet : h_M0 yX10_sheet cX10_sheet 5 (some .int) 3 := ⟨tk7_in 27 rfl rfl, tk1_in 15 rfl rfl, ⟨by decide, by decide, by decide +kernel⟩, by decide⟩
theorem mv_L_203 : h_MV RL 203 yX10_sheet cX10_sheet 5 (some .int) 3 := ⟨m0_X10_sheet, tk7_in 24 rfl rfl, tk7_in 25 rfl rfl, tk7_in 26 rfl rfl⟩
theorem m0_X9_cell : h_M0 yX9_cell cX9_cell 4 (some .int) 3 := ⟨tk4_in 213 rfl rfl, tk1_in 1 rfl rfl, ⟨by decide, by decide, by decide +kernel⟩, by decide⟩
theorem mv_L_204 : h_MV RL 204 yX9_cell cX9_cell 4 (some .int) 3 := ⟨m0_X9_cell, tk4_in 210 rfl rfl, tk4_in 211 rfl rfl, tk4_in 212 rfl rfl⟩
theorem m0_X10_cell : h_M0 yX10_cell cX10_cell 4 (some .int) 3 := ⟨tk7_in 31 rfl rfl, tk1_in 15 rfl rfl, ⟨by decide, by decide, by decide +kernel⟩, by decide⟩
theorem mv_L_207 : h_MV RL 207 yX10_cell cX10_cell 4 (some .int) 3 := ⟨m0_X10_cell, tk7_in 28 rfl rfl, tk7_in 29 rfl rfl, tk7_in 30 rfl rfl⟩
theorem m0_X9_copy : h_M0 yX9_copy cX9_copy 8 (some .int) 5 := ⟨tk4_in 217 rfl rfl, tk1_in 1 rfl rfl, ⟨by decide, by decide, by decide +kernel⟩, by decide⟩
theorem mv_L_208 : h_MV RL 208 yX9_copy cX9_copy 8 (some .int) 5 := ⟨m0_X9_copy, tk4_in 214 rfl rfl, tk4_in 215 rfl rfl, tk4_in 216 rfl rfl⟩
theorem m0_X10_copy : h_M0 yX10_copy cX10_copy 10 (some .int) 5 := ⟨tk7_in 35 rfl rfl, tk1_in 15 rfl rfl, ⟨by decide, by decide, by decide +kernel⟩, by decide⟩
theorem mv_L_211 : h_MV RL 211 yX10_copy cX10_copy 10 (some .int) 5 := ⟨m0_X10_copy, tk7_in 32 rfl rfl, tk7_in 33 rfl rfl, tk7_in 34 rfl rfl⟩
theorem m0_X9_gustsBy : h_M0 yX9_gustsBy cX9_gustsBy 9 (some .int) 4 := ⟨tk4_in 222 rfl rfl, tk1_in 1 rfl rfl, ⟨by decide, by decide, by decide +kernel⟩, by decide⟩
theorem mv_L_212 : h_MV RL 212 yX9_gustsBy cX9_gustsBy 9 (some .int) 4 := ⟨m0_X9_gustsBy, tk4_in 219 rfl rfl, tk4_in 220 rfl rfl, tk4_in 221 rfl rfl⟩
theorem m0_X10_gustsBy : h_M0 yX10_gustsBy cX10_gustsBy 9 (some .int) 4 := ⟨tk7_in 39 rfl rfl, tk1_in 15 rfl rfl, ⟨by decide, by decide, by decide +kernel⟩, by decide⟩
theorem mv_L_216 : h_MV RL 216 yX10_gustsBy cX10_gustsBy 9 (some .int) 4 := ⟨m0_X10_gustsBy, tk7_in 36 rfl rfl, tk7_in 37 rfl rfl, tk7_in 38 rfl rfl⟩
theorem m0_X9_taken : h_M0 yX9_taken cX9_taken 4 (some .int) 2 := ⟨tk4_in 227 rfl rfl, tk1_in 1 rfl rfl, ⟨by decide, by decide, by decide +kernel⟩, by decide⟩
theorem mv_L_217 : h_MV RL 217 yX9_taken cX9_taken 4 (some .int) 2 := ⟨m0_X9_taken, tk4_in 224 rfl rfl, tk4_in 225 rfl rfl, tk4_in 226 rfl rfl⟩
theorem m0_X10_taken : h_M0 yX10_taken cX10_taken 3 (some .int) 2 := ⟨tk7_in 44 rfl rfl, tk1_in 15 rfl rfl, ⟨by decide, by decide, by decide +kernel⟩, by decide⟩
theorem mv_L_220 : h_MV RL 220 yX10_taken cX10_taken 3 (some .int) 2 := ⟨m0_X10_taken, tk7_in 41 rfl rfl, tk7_in 42 rfl rfl, tk7_in 43 rfl rfl⟩
theorem fl_X10_7 : h_FL RX10 7 9 0 := ⟨RX10, TX10, tyX10, rfl, by decide, by decide, tk5_in 42 rfl rfl, uw_X10, tyX10_ok, nmX10⟩
theorem fl_X10_13 : h_FL RX10 13 9 1 := ⟨RX10, TX10, tyX10, rfl, by decide, by decide, tk5_in 43 rfl rfl, uw_X10, tyX10_ok, nmX10⟩
theorem fl_X10_16 : h_FL RX10 16 9 2 := ⟨RX10, TX10, tyX10, rfl, by decide, by decide, tk5_in 44 rfl rfl, uw_X10, tyX10_ok, nmX10⟩
theorem fl_X10_19 : h_FL RX10 19 9 4 := ⟨RX10, TX10, tyX10, rfl, by decide, by decide, tk5_in 46 rfl rfl, uw_X10, tyX10_ok, nmX10⟩
theorem fl_X10_22 : h_FL RX10 22 9 5 := ⟨RX10, TX10, tyX10, rfl, by decide, by decide, tk5_in 47 rfl rfl, uw_X10, tyX10_ok, nmX10⟩
theorem fl_X10_25 : h_FL RX10 25 9 6 := ⟨RX10, TX10, tyX10, rfl, by decide, by decide, tk5_in 48 rfl rfl, uw_X10, tyX10_ok, nmX10⟩
theorem fl_X10_28 : h_FL RX10 28 9 7 := ⟨RX10, TX10, tyX10, rfl, by decide, by decide, tk5_in 49 rfl rfl, uw_X10, tyX10_ok, nmX10⟩
theorem fl_X10_31 : h_FL RX10 31 9 9 := ⟨RX10, TX10, tyX10, rfl, by decide, by decide, tk5_in 51 rfl rfl, uw_X10, tyX10_ok, nmX10⟩
theorem fl_X10_34 : h_FL RX10 34 9 10 := ⟨RX10, TX10, tyX10, rfl, by decide, by decide, tk5_in 52 rfl rfl, uw_X10, tyX10_ok, nmX10⟩
theorem fl_X10_37 : h_FL RX10 37 9 12 := ⟨RX10, TX10, tyX10, rfl, by decide, by decide, tk5_in 54 rfl rfl, uw_X10, tyX10_ok, nmX10⟩
theorem fl_X10_40 : h_FL RX10 40 9 13 := ⟨RX10, TX10, tyX10, rfl, by decide, by decide, tk5_in 55 rfl rfl, uw_X10, tyX10_ok, nmX10⟩
theorem fl_X10_43 : h_FL RX10 43 9 20 := ⟨RX10, TX10, tyX10, rfl, by decide, by decide, tk5_in 62 rfl rfl, uw_X10, tyX10_ok, nmX10⟩
theorem fl_X10_46 : h_FL RX10 46 9 21 := ⟨RX10, TX10, tyX10, rfl, by decide, by decide, tk5_in 63 rfl rfl, uw_X10, tyX10_ok, nmX10⟩
theorem fl_X10_49 : h_FL RX10 49 9 22 := ⟨RX10, TX10, tyX10, rfl, by decide, by decide, tk5_in 64 rfl rfl, uw_X10, tyX10_ok, nmX10⟩
theorem fl_X10_52 : h_FL RX10 52 9 23 := ⟨RX10, TX10, tyX10, rfl, by decide, by decide, tk5_in 65 rfl rfl, uw_X10, tyX10_ok, nmX10⟩
theorem fl_X10_55 : h_FL RX10 55 9 24 := ⟨RX10, TX10, tyX10, rfl, by decide, by decide, tk5_in 66 rfl rfl, uw_X10, tyX10_ok, nmX10⟩
theorem fl_X10_58 : h_FL RX10 58 9 29 := ⟨RX10, TX10, tyX10, rfl, by decide, by decide, tk5_in 71 rfl rfl, uw_X10, tyX10_ok, nmX10⟩
theorem fl_X10_61 : h_FL RX10 61 9 30 := ⟨RX10, TX10, tyX10, rfl, by decide, by decide, tk5_in 72 rfl rfl, uw_X10, tyX10_ok, nmX10⟩
theorem fl_X10_64 : h_FL RX10 64 9 34 := ⟨RX10, TX10, tyX10, rfl, by decide, by decide, tk5_in 76 rfl rfl, uw_X10, tyX10_ok, nmX10⟩
theorem fl_X10_67 : h_FL RX10 67 9 35 := ⟨RX10, TX10, tyX10, rfl, by decide, by decide, tk5_in 77 rfl rfl, uw_X10, tyX10_ok, nmX10⟩
theorem fl_X10_70 : h_FL RX10 70 9 40 := ⟨RX10, TX10, tyX10, rfl, by decide, by decide, tk5_in 82 rfl rfl, uw_X10, tyX10_ok, nmX10⟩
theorem fl_X10_73 : h_FL RX10 73 9 41 := ⟨RX10, TX10, tyX10, rfl, by decide, by decide, tk5_in 83 rfl rfl, uw_X10, tyX10_ok, nmX10⟩
theorem fl_X10_76 : h_FL RX10 76 9 42 := ⟨RX10, TX10, tyX10, rfl, by decide, by decide, tk5_in 84 rfl rfl, uw_X10, tyX10_ok, nmX10⟩
theorem fl_X10_79 : h_FL RX10 79 9 43 := ⟨RX10, TX10, tyX10, rfl, by decide, by decide, tk5_in 85 rfl rfl, uw_X10, tyX10_ok, nmX10⟩
theorem fl_X10_82 : h_FL RX10 82 9 44 := ⟨RX10, TX10, tyX10, rfl, by decide, by decide, tk5_in 86 rfl rfl, uw_X10, tyX10_ok, nmX10⟩
theorem fl_X10_85 : h_FL RX10 85 9 11 := ⟨RX10, TX10, tyX10, rfl, by decide, by decide, tk5_in 53 rfl rfl, uw_X10, tyX10_ok, nmX10⟩
theorem fp_X10_85 : h_FP RX10 85 9 11 .int := ⟨RX10, TX10, tyX10, rfl, by decide, by decide, tk5_in 53 rfl rfl, uw_X10, tyX10_ok, nmX10, rfl, by decide +kernel⟩
theorem mv_X10_89 : h_MV RX10 89 yX10_text cX10_text 3 (some .int) 0 := ⟨m0_X10_text, tk4_in 235 rfl rfl, tk4_in 236 rfl rfl, tk4_in 237 rfl rfl⟩
theorem m0_X10_in : h_M0 yX10_in cX10_in 3 (some .boolean) 3 := ⟨tk5_in 5 rfl rfl, tk1_in 15 rfl rfl, ⟨by decide, by decide, by decide +kernel⟩, by decide⟩
theorem ms_X10_93 : h_MS RX10 93 yX10_in cX10_in 3 (some .boolean) 3 := ⟨m0_X10_in, tk5_in 3 rfl rfl, tk5_in 4 rfl rfl⟩
theorem m0_X10_isSquare : h_M0 yX10_isSquare cX10_isSquare 1 (some .boolean) 1 := ⟨tk5_in 184 rfl rfl, tk1_in 15 rfl rfl, ⟨by decide, by decide, by decide +kernel⟩, by decide⟩
theorem ms_X10_97 : h_MS RX10 97 yX10_isSquare cX10_isSquare 1 (some .boolean) 1 := ⟨m0_X10_isSquare, tk5_in 182 rfl rfl, tk5_in 183 rfl rfl⟩
theorem m0_X10_has : h_M0 yX10_has cX10_has 3 (some .boolean) 2 := ⟨tk5_in 192 rfl rfl, tk1_in 15 rfl rfl, ⟨by decide, by decide, by decide +kernel⟩, by decide⟩
theorem mv_X10_101 : h_MV RX10 101 yX10_has cX10_has 3 (some .boolean) 2 := ⟨m0_X10_has, tk5_in 189 rfl rfl, tk5_in 191 rfl rfl, h_in 44 (by decide +kernel) rfl⟩
theorem fl_X10_105 : h_FL RX10 105 9 3 := ⟨RX10, TX10, tyX10, rfl, by decide, by decide, tk5_in 45 rfl rfl, uw_X10, tyX10_ok, nmX10⟩
theorem fp_X10_105 : h_FP RX10 105 9 3 .int := ⟨RX10, TX10, tyX10, rfl, by decide, by decide, tk5_in 45 rfl rfl, uw_X10, tyX10_ok, nmX10, rfl, by decide +kernel⟩
theorem fl_X10_108 : h_FL RX10 108 9 8 := ⟨RX10, TX10, tyX10, rfl, by decide, by decide, tk5_in 50 rfl rfl, uw_X10, tyX10_ok, nmX10⟩
theorem fp_X10_108 : h_FP RX10 108 9 8 .int := ⟨RX10, TX10, tyX10, rfl, by decide, by decide, tk5_in 50 rfl rfl, uw_X10, tyX10_ok, nmX10, rfl, by decide +kernel⟩
theorem m0_X10_isAnyIn : h_M0 yX10_isAnyIn cX10_isAnyIn 3 (some .boolean) 1 := ⟨tk5_in 188 rfl rfl, tk1_in 15 rfl rfl, ⟨by decide, by decide, by decide +kernel⟩, by decide⟩
theorem mv_X10_111 : h_MV RX10 111 yX10_isAnyIn cX10_isAnyIn 3 (some .boolean) 1 := ⟨m0_X10_isAnyIn, tk5_in 185 rfl rfl, tk5_in 187 rfl rfl, h_in 43 (by decide +kernel) rfl⟩
theorem fl_X10_114 : h_FL RX10 114 9 14 := ⟨RX10, TX10, tyX10, rfl, by decide, by decide, tk5_in 56 rfl rfl, uw_X10, tyX10_ok, nmX10⟩
theorem fp_X10_114 : h_FP RX10 114 9 14 .int := ⟨RX10, TX10, tyX10, rfl, by decide, by decide, tk5_in 56 rfl rfl, uw_X10, tyX10_ok, nmX10, rfl, by decide +kernel⟩
theorem fl_X10_117 : h_FL RX10 117 9 15 := ⟨RX10, TX10, tyX10, rfl, by decide, by decide, tk5_in 57 rfl rfl, uw_X10, tyX10_ok, nmX10⟩
theorem fp_X10_117 : h_FP RX10 117 9 15 .int := ⟨RX10, TX10, tyX10, rfl, by decide, by decide, tk5_in 57 rfl rfl, uw_X10, tyX10_ok, nmX10, rfl, by decide +kernel⟩
theorem m0_X10_isByte : h_M0 yX10_isByte cX10_isByte 1 (some .boolean) 1 := ⟨tk5_in 211 rfl rfl, tk1_in 15 rfl rfl, ⟨by decide, by decide, by decide +kernel⟩, by decide⟩
theorem ms_X10_120 : h_MS RX10 120 yX10_isByte cX10_isByte 1 (some .boolean) 1 := ⟨m0_X10_isByte, tk5_in 209 rfl rfl, tk5_in 210 rfl rfl⟩
theorem fl_X10_123 : h_FL RX10 123 9 25 := ⟨RX10, TX10, tyX10, rfl, by decide, by decide, tk5_in 67 rfl rfl, uw_X10, tyX10_ok, nmX10⟩
theorem fp_X10_123 : h_FP RX10 123 9 25 .int := ⟨RX10, TX10, tyX10, rfl, by decide, by decide, tk5_in 67 rfl rfl, uw_X10, tyX10_ok, nmX10, rfl, by decide +kernel⟩
theorem fl_X10_126 : h_FL RX10 126 9 26 := ⟨RX10, TX10, tyX10, rfl, by decide, by decide, tk5_in 68 rfl rfl, uw_X10, tyX10_ok, nmX10⟩
theorem fp_X10_126 : h_FP RX10 126 9 26 .int := ⟨RX10, TX10, tyX10, rfl, by decide, by decide, tk5_in 68 rfl rfl, uw_X10, tyX10_ok, nmX10, rfl, by decide +kernel⟩
theorem fl_X10_129 : h_FL RX10 129 9 27 := ⟨RX10, TX10, tyX10, rfl, by decide, by decide, tk5_in 69 rfl rfl, uw_X10, tyX10_ok, nmX10⟩
theorem fp_X10_129 : h_FP RX10 129 9 27 .int := ⟨RX10, TX10, tyX10, rfl, by decide, by decide, tk5_in 69 rfl rfl, uw_X10, tyX10_ok, nmX10, rfl, by decide +kernel⟩
theorem fl_X10_132 : h_FL RX10 132 9 28 := ⟨RX10, TX10, tyX10, rfl, by decide, by decide, tk5_in 70 rfl rfl, uw_X10, tyX10_ok, nmX10⟩
theorem fp_X10_132 : h_FP RX10 132 9 28 .int := ⟨RX10, TX10, tyX10, rfl, by decide, by decide, tk5_in 70 rfl rfl, uw_X10, tyX10_ok, nmX10, rfl, by decide +kernel⟩
theorem m0_X10_wordFrom : h_M0 yX10_wordFrom cX10_wordFrom 6 (some .int) 2 := ⟨tk5_in 9 rfl rfl, tk1_in 15 rfl rfl, ⟨by decide, by decide, by decide +kernel⟩, by decide⟩
theorem mv_X10_135 : h_MV RX10 135 yX10_wordFrom cX10_wordFrom 6 (some .int) 2 := ⟨m0_X10_wordFrom, tk5_in 6 rfl rfl, tk5_in 8 rfl rfl, h_in 35 (by decide +kernel) rfl⟩
theorem fl_X10_139 : h_FL RX10 139 9 33 := ⟨RX10, TX10, tyX10, rfl, by decide, by decide, tk5_in 75 rfl rfl, uw_X10, tyX10_ok, nmX10⟩
theorem fp_X10_139 : h_FP RX10 139 9 33 .int := ⟨RX10, TX10, tyX10, rfl, by decide, by decide, tk5_in 75 rfl rfl, uw_X10, tyX10_ok, nmX10, rfl, by decide +kernel⟩
theorem fl_X10_142 : h_FL RX10 142 9 31 := ⟨RX10, TX10, tyX10, rfl, by decide, by decide, tk5_in 73 rfl rfl, uw_X10, tyX10_ok, nmX10⟩
theorem fp_X10_142 : h_FP RX10 142 9 31 .int := ⟨RX10, TX10, tyX10, rfl, by decide, by decide, tk5_in 73 rfl rfl, uw_X10, tyX10_ok, nmX10, rfl, by decide +kernel⟩
theorem m0_X10_rank : h_M0 yX10_rank cX10_rank 1 (some .int) 1 := ⟨tk5_in 25 rfl rfl, tk1_in 15 rfl rfl, ⟨by decide, by decide, by decide +kernel⟩, by decide⟩
theorem ms_X10_145 : h_MS RX10 145 yX10_rank cX10_rank 1 (some .int) 1 := ⟨m0_X10_rank, tk5_in 23 rfl rfl, tk5_in 24 rfl rfl⟩
theorem fl_X10_149 : h_FL RX10 149 9 32 := ⟨RX10, TX10, tyX10, rfl, by decide, by decide, tk5_in 74 rfl rfl, uw_X10, tyX10_ok, nmX10⟩
theorem fp_X10_149 : h_FP RX10 149 9 32 .int := ⟨RX10, TX10, tyX10, rfl, by decide, by decide, tk5_in 74 rfl rfl, uw_X10, tyX10_ok, nmX10, rfl, by decide +kernel⟩
theorem m0_X10_puts : h_M0 yX10_puts cX10_puts 2 none 1 := ⟨tk5_in 18 rfl rfl, tk1_in 15 rfl rfl, ⟨by decide, by decide, by decide +kernel⟩, by decide⟩
theorem mv_X10_152 : h_MV RX10 152 yX10_puts cX10_puts 2 none 1 := ⟨m0_X10_puts, tk5_in 15 rfl rfl, tk5_in 17 rfl rfl, h_in 37 (by decide +kernel) rfl⟩
theorem m0_X10_holds : h_M0 yX10_holds cX10_holds 2 none 1 := ⟨tk5_in 33 rfl rfl, tk1_in 15 rfl rfl, ⟨by decide, by decide, by decide +kernel⟩, by decide⟩
theorem mv_X10_156 : h_MV RX10 156 yX10_holds cX10_holds 2 none 1 := ⟨m0_X10_holds, tk5_in 30 rfl rfl, tk5_in 32 rfl rfl, h_in 40 (by decide +kernel) rfl⟩
theorem m0_X10_unwinds : h_M0 yX10_unwinds cX10_unwinds 3 none 1 := ⟨tk5_in 22 rfl rfl, tk1_in 15 rfl rfl, ⟨by decide, by decide, by decide +kernel⟩, by decide⟩
theorem mv_X10_159 : h_MV RX10 159 yX10_unwinds cX10_unwinds 3 none 1 := ⟨m0_X10_unwinds, tk5_in 19 rfl rfl, tk5_in 21 rfl rfl, h_in 38 (by decide +kernel) rfl⟩
theorem m0_X10_next : h_M0 yX10_next cX10_next 3 none 0 := ⟨tk5_in 2 rfl rfl, tk1_in 15 rfl rfl, ⟨by decide, by decide, by decide +kernel⟩, by decide⟩
theorem mv_X10_162 : h_MV RX10 162 yX10_next cX10_next 3 none 0 := ⟨m0_X10_next, tk4_in 239 rfl rfl, tk5_in 1 rfl rfl, h_in 34 (by decide +kernel) rfl⟩
theorem kc_X10_165 : Cond.constant RX10 165 (100000) ∈ h_tbl := tk5_in 14 rfl rfl
theorem m0_X10_opensOne : h_M0 yX10_opensOne cX10_opensOne 2 (some .boolean) 1 := ⟨tk5_in 29 rfl rfl, tk1_in 15 rfl rfl, ⟨by decide, by decide, by decide +kernel⟩, by decide⟩
theorem mv_X10_166 : h_MV RX10 166 yX10_opensOne cX10_opensOne 2 (some .boolean) 1 := ⟨m0_X10_opensOne, tk5_in 26 rfl rfl, tk5_in 28 rfl rfl, h_in 39 (by decide +kernel) rfl⟩
theorem m0_X10_signOf : h_M0 yX10_signOf cX10_signOf 1 (some .int) 0 := ⟨tk5_in 37 rfl rfl, tk1_in 15 rfl rfl, ⟨by decide, by decide, by decide +kernel⟩, by decide⟩
theorem mv_X10_169 : h_MV RX10 169 yX10_signOf cX10_signOf 1 (some .int) 0 := ⟨m0_X10_signOf, tk5_in 34 rfl rfl, tk5_in 36 rfl rfl, h_in 41 (by decide +kernel) rfl⟩
theorem m0_X10_between : h_M0 yX10_between cX10_between 2 (some .boolean) 1 := ⟨tk5_in 41 rfl rfl, tk1_in 15 rfl rfl, ⟨by decide, by decide, by decide +kernel⟩, by decide⟩
theorem mv_X10_172 : h_MV RX10 172 yX10_between cX10_between 2 (some .boolean) 1 := ⟨m0_X10_between, tk5_in 38 rfl rfl, tk5_in 40 rfl rfl, h_in 42 (by decide +kernel) rfl⟩
theorem m0_X10_eRead : h_M0 yX10_eRead cX10_eRead 4 (some .boolean) 0 := ⟨tk5_in 13 rfl rfl, tk1_in 15 rfl rfl, ⟨by decide, by decide, by decide +kernel⟩, by decide⟩
theorem mv_X10_175 : h_MV RX10 175 yX10_eRead cX10_eRead 4 (some .boolean) 0 := ⟨m0_X10_eRead, tk5_in 10 rfl rfl, tk5_in 12 rfl rfl, h_in 36 (by decide +kernel) rfl⟩
theorem m0_X10_two : h_M0 yX10_two cX10_two 3 (some .int) 3 := ⟨tk5_in 234 rfl rfl, tk1_in 15 rfl rfl, ⟨by decide, by decide, by decide +kernel⟩, by decide⟩
theorem ms_X10_179 : h_MS RX10 179 yX10_two cX10_two 3 (some .int) 3 := ⟨m0_X10_two, tk5_in 232 rfl rfl, tk5_in 233 rfl rfl⟩
theorem m0_X10_says : h_M0 yX10_says cX10_says 5 (some .int) 1 := ⟨tk5_in 231 rfl rfl, tk1_in 15 rfl rfl, ⟨by decide, by decide, by decide +kernel⟩, by decide⟩
theorem mv_X10_183 : h_MV RX10 183 yX10_says cX10_says 5 (some .int) 1 := ⟨m0_X10_says, tk5_in 228 rfl rfl, tk5_in 230 rfl rfl, h_in 46 (by decide +kernel) rfl⟩
theorem m0_X10_within : h_M0 yX10_within cX10_within 3 (some .int) 3 := ⟨tk5_in 237 rfl rfl, tk1_in 15 rfl rfl, ⟨by decide, by decide, by decide +kernel⟩, by decide⟩
theorem ms_X10_186 : h_MS RX10 186 yX10_within cX10_within 3 (some .int) 3 := ⟨m0_X10_within, tk5_in 235 rfl rfl, tk5_in 236 rfl rfl⟩
theorem m0_X10_areSeconds : h_M0 yX10_areSeconds cX10_areSeconds 1 (some .boolean) 1 := ⟨tk5_in 223 rfl rfl, tk1_in 15 rfl rfl, ⟨by decide, by decide, by decide +kernel⟩, by decide⟩
theorem ms_X10_189 : h_MS RX10 189 yX10_areSeconds cX10_areSeconds 1 (some .boolean) 1 := ⟨m0_X10_areSeconds, tk5_in 221 rfl rfl, tk5_in 222 rfl rfl⟩
theorem m0_X10_asksOf : h_M0 yX10_asksOf cX10_asksOf 9 (some .int) 7 := ⟨tk5_in 227 rfl rfl, tk1_in 15 rfl rfl, ⟨by decide, by decide, by decide +kernel⟩, by decide⟩
theorem mv_X10_192 : h_MV RX10 192 yX10_asksOf cX10_asksOf 9 (some .int) 7 := ⟨m0_X10_asksOf, tk5_in 224 rfl rfl, tk5_in 226 rfl rfl, h_in 45 (by decide +kernel) rfl⟩
theorem m0_X10_isFree : h_M0 yX10_isFree cX10_isFree 2 (some .boolean) 1 := ⟨tk6_in 5 rfl rfl, tk1_in 15 rfl rfl, ⟨by decide, by decide, by decide +kernel⟩, by decide⟩
theorem mv_X10_196 : h_MV RX10 196 yX10_isFree cX10_isFree 2 (some .boolean) 1 := ⟨m0_X10_isFree, tk6_in 2 rfl rfl, tk6_in 4 rfl rfl, h_in 47 (by decide +kernel) rfl⟩
theorem m0_X10_isHat : h_M0 yX10_isHat cX10_isHat 2 (some .boolean) 1 := ⟨tk6_in 13 rfl rfl, tk1_in 15 rfl rfl, ⟨by decide, by decide, by decide +kernel⟩, by decide⟩
theorem mv_X10_199 : h_MV RX10 199 yX10_isHat cX10_isHat 2 (some .boolean) 1 := ⟨m0_X10_isHat, tk6_in 10 rfl rfl, tk6_in 12 rfl rfl, h_in 48 (by decide +kernel) rfl⟩
theorem m0_X10_isCatcher : h_M0 yX10_isCatcher cX10_isCatcher 2 (some .boolean) 1 := ⟨tk6_in 29 rfl rfl, tk1_in 15 rfl rfl, ⟨by decide, by decide, by decide +kernel⟩, by decide⟩
theorem mv_X10_202 : h_MV RX10 202 yX10_isCatcher cX10_isCatcher 2 (some .boolean) 1 := ⟨m0_X10_isCatcher, tk6_in 26 rfl rfl, tk6_in 28 rfl rfl, h_in 49 (by decide +kernel) rfl⟩
theorem m0_X10_next0 : h_M0 yX10_next0 cX10_next0 4 (some .int) 2 := ⟨tk6_in 64 rfl rfl, tk1_in 15 rfl rfl, ⟨by decide, by decide, by decide +kernel⟩, by decide⟩
theorem ms_X10_205 : h_MS RX10 205 yX10_next0 cX10_next0 4 (some .int) 2 := ⟨m0_X10_next0, tk6_in 62 rfl rfl, tk6_in 63 rfl rfl⟩
theorem fl_X10_208 : h_FL RX10 208 9 37 := ⟨RX10, TX10, tyX10, rfl, by decide, by decide, tk5_in 79 rfl rfl, uw_X10, tyX10_ok, nmX10⟩
theorem fp_X10_208 : h_FP RX10 208 9 37 .int := ⟨RX10, TX10, tyX10, rfl, by decide, by decide, tk5_in 79 rfl rfl, uw_X10, tyX10_ok, nmX10, rfl, by decide +kernel⟩
theorem fl_X10_211 : h_FL RX10 211 9 36 := ⟨RX10, TX10, tyX10, rfl, by decide, by decide, tk5_in 78 rfl rfl, uw_X10, tyX10_ok, nmX10⟩
theorem fp_X10_211 : h_FP RX10 211 9 36 .int := ⟨RX10, TX10, tyX10, rfl, by decide, by decide, tk5_in 78 rfl rfl, uw_X10, tyX10_ok, nmX10, rfl, by decide +kernel⟩
theorem fl_X10_214 : h_FL RX10 214 9 38 := ⟨RX10, TX10, tyX10, rfl, by decide, by decide, tk5_in 80 rfl rfl, uw_X10, tyX10_ok, nmX10⟩
theorem fp_X10_214 : h_FP RX10 214 9 38 .int := ⟨RX10, TX10, tyX10, rfl, by decide, by decide, tk5_in 80 rfl rfl, uw_X10, tyX10_ok, nmX10, rfl, by decide +kernel⟩
theorem fl_X10_217 : h_FL RX10 217 9 39 := ⟨RX10, TX10, tyX10, rfl, by decide, by decide, tk5_in 81 rfl rfl, uw_X10, tyX10_ok, nmX10⟩
theorem fp_X10_217 : h_FP RX10 217 9 39 .int := ⟨RX10, TX10, tyX10, rfl, by decide, by decide, tk5_in 81 rfl rfl, uw_X10, tyX10_ok, nmX10, rfl, by decide +kernel⟩
theorem m0_X10_goesBy : h_M0 yX10_goesBy cX10_goesBy 8 (some .int) 2 := ⟨tk6_in 53 rfl rfl, tk1_in 15 rfl rfl, ⟨by decide, by decide, by decide +kernel⟩, by decide⟩
theorem mv_X10_220 : h_MV RX10 220 yX10_goesBy cX10_goesBy 8 (some .int) 2 := ⟨m0_X10_goesBy, tk6_in 50 rfl rfl, tk6_in 52 rfl rfl, h_in 54 (by decide +kernel) rfl⟩
theorem m0_X10_wayIn : h_M0 yX10_wayIn cX10_wayIn 3 (some .int) 2 := ⟨tk6_in 57 rfl rfl, tk1_in 15 rfl rfl, ⟨by decide, by decide, by decide +kernel⟩, by decide⟩
theorem mv_X10_223 : h_MV RX10 223 yX10_wayIn cX10_wayIn 3 (some .int) 2 := ⟨m0_X10_wayIn, tk6_in 54 rfl rfl, tk6_in 56 rfl rfl, h_in 55 (by decide +kernel) rfl⟩
theorem m0_X10_beside : h_M0 yX10_beside cX10_beside 4 (some .int) 2 := ⟨tk6_in 61 rfl rfl, tk1_in 15 rfl rfl, ⟨by decide, by decide, by decide +kernel⟩, by decide⟩
theorem mv_X10_226 : h_MV RX10 226 yX10_beside cX10_beside 4 (some .int) 2 := ⟨m0_X10_beside, tk6_in 58 rfl rfl, tk6_in 60 rfl rfl, h_in 56 (by decide +kernel) rfl⟩
theorem m0_X10_seconds : h_M0 yX10_seconds cX10_seconds 10 none 2 := ⟨tk6_in 49 rfl rfl, tk1_in 15 rfl rfl, ⟨by decide, by decide, by decide +kernel⟩, by decide⟩
theorem mv_X10_229 : h_MV RX10 229 yX10_seconds cX10_seconds 10 none 2 := ⟨m0_X10_seconds, tk6_in 46 rfl rfl, tk6_in 48 rfl rfl, h_in 53 (by decide +kernel) rfl⟩
theorem m0_X10_begins : h_M0 yX10_begins cX10_begins 2 none 1 := ⟨tk6_in 41 rfl rfl, tk1_in 15 rfl rfl, ⟨by decide, by decide, by decide +kernel⟩, by decide⟩
theorem mv_X10_233 : h_MV RX10 233 yX10_begins cX10_begins 2 none 1 := ⟨m0_X10_begins, tk6_in 38 rfl rfl, tk6_in 40 rfl rfl, h_in 51 (by decide +kernel) rfl⟩
theorem m0_X10_goesOn : h_M0 yX10_goesOn cX10_goesOn 4 none 2 := ⟨tk6_in 45 rfl rfl, tk1_in 15 rfl rfl, ⟨by decide, by decide, by decide +kernel⟩, by decide⟩
theorem mv_X10_236 : h_MV RX10 236 yX10_goesOn cX10_goesOn 4 none 2 := ⟨m0_X10_goesOn, tk6_in 42 rfl rfl, tk6_in 44 rfl rfl, h_in 52 (by decide +kernel) rfl⟩
theorem m0_X10_squareBehind : h_M0 yX10_squareBehind cX10_squareBehind 3 (some .int) 2 := ⟨tk6_in 37 rfl rfl, tk1_in 15 rfl rfl, ⟨by decide, by decide, by decide +kernel⟩, by decide⟩
theorem mv_X10_239 : h_MV RX10 239 yX10_squareBehind cX10_squareBehind 3 (some .int) 2 := ⟨m0_X10_squareBehind, tk6_in 34 rfl rfl, tk6_in 36 rfl rfl, h_in 50 (by decide +kernel) rfl⟩
theorem m0_X10_passes : h_M0 yX10_passes cX10_passes 3 none 1 := ⟨tk6_in 72 rfl rfl, tk1_in 15 rfl rfl, ⟨by decide, by decide, by decide +kernel⟩, by decide⟩
theorem mv_X10_242 : h_MV RX10 242 yX10_passes cX10_passes 3 none 1 := ⟨m0_X10_passes, tk6_in 69 rfl rfl, tk6_in 71 rfl rfl, h_in 57 (by decide +kernel) rfl⟩
theorem m0_X10_comesFromAll : h_M0 yX10_comesFromAll cX10_comesFromAll 4 none 2 := ⟨tk6_in 96 rfl rfl, tk1_in 15 rfl rfl, ⟨by decide, by decide, by decide +kernel⟩, by decide⟩
theorem mv_X10_245 : h_MV RX10 245 yX10_comesFromAll cX10_comesFromAll 4 none 2 := ⟨m0_X10_comesFromAll, tk6_in 93 rfl rfl, tk6_in 95 rfl rfl, h_in 58 (by decide +kernel) rfl⟩
theorem m0_X10_spreads : h_M0 yX10_spreads cX10_spreads 5 none 1 := ⟨tk6_in 120 rfl rfl, tk1_in 15 rfl rfl, ⟨by decide, by decide, by decide +kernel⟩, by decide⟩
theorem mv_X10_248 : h_MV RX10 248 yX10_spreads cX10_spreads 5 none 1 := ⟨m0_X10_spreads, tk6_in 117 rfl rfl, tk6_in 119 rfl rfl, h_in 62 (by decide +kernel) rfl⟩
theorem m0_X10_had : h_M0 yX10_had cX10_had 7 (some .int) 5 := ⟨tk6_in 116 rfl rfl, tk1_in 15 rfl rfl, ⟨by decide, by decide, by decide +kernel⟩, by decide⟩
theorem mv_X10_251 : h_MV RX10 251 yX10_had cX10_had 7 (some .int) 5 := ⟨m0_X10_had, tk6_in 113 rfl rfl, tk6_in 115 rfl rfl, h_in 61 (by decide +kernel) rfl⟩
theorem m0_X10_areThere : h_M0 yX10_areThere cX10_areThere 3 (some .boolean) 2 := ⟨tk6_in 108 rfl rfl, tk1_in 15 rfl rfl, ⟨by decide, by decide, by decide +kernel⟩, by decide⟩
theorem mv_X10_255 : h_MV RX10 255 yX10_areThere cX10_areThere 3 (some .boolean) 2 := ⟨m0_X10_areThere, tk6_in 105 rfl rfl, tk6_in 107 rfl rfl, h_in 59 (by decide +kernel) rfl⟩
theorem m0_X10_hadBy : h_M0 yX10_hadBy cX10_hadBy 3 (some .int) 2 := ⟨tk6_in 112 rfl rfl, tk1_in 15 rfl rfl, ⟨by decide, by decide, by decide +kernel⟩, by decide⟩
theorem mv_X10_258 : h_MV RX10 258 yX10_hadBy cX10_hadBy 3 (some .int) 2 := ⟨m0_X10_hadBy, tk6_in 109 rfl rfl, tk6_in 111 rfl rfl, h_in 60 (by decide +kernel) rfl⟩
theorem m0_X10_isInOrder : h_M0 yX10_isInOrder cX10_isInOrder 6 (some .boolean) 2 := ⟨tk6_in 143 rfl rfl, tk1_in 15 rfl rfl, ⟨by decide, by decide, by decide +kernel⟩, by decide⟩
theorem ms_X10_261 : h_MS RX10 261 yX10_isInOrder cX10_isInOrder 6 (some .boolean) 2 := ⟨m0_X10_isInOrder, tk6_in 141 rfl rfl, tk6_in 142 rfl rfl⟩
theorem m0_X10_lastBy : h_M0 yX10_lastBy cX10_lastBy 7 (some .int) 2 := ⟨tk6_in 147 rfl rfl, tk1_in 15 rfl rfl, ⟨by decide, by decide, by decide +kernel⟩, by decide⟩
theorem mv_X10_264 : h_MV RX10 264 yX10_lastBy cX10_lastBy 7 (some .int) 2 := ⟨m0_X10_lastBy, tk6_in 144 rfl rfl, tk6_in 146 rfl rfl, h_in 63 (by decide +kernel) rfl⟩
theorem m0_X10_gainOf : h_M0 yX10_gainOf cX10_gainOf 4 (some .int) 2 := ⟨tk6_in 155 rfl rfl, tk1_in 15 rfl rfl, ⟨by decide, by decide, by decide +kernel⟩, by decide⟩
theorem mv_X10_267 : h_MV RX10 267 yX10_gainOf cX10_gainOf 4 (some .int) 2 := ⟨m0_X10_gainOf, tk6_in 152 rfl rfl, tk6_in 154 rfl rfl, h_in 64 (by decide +kernel) rfl⟩
theorem m0_X10_squareHeld : h_M0 yX10_squareHeld cX10_squareHeld 6 (some .int) 4 := ⟨tk6_in 171 rfl rfl, tk1_in 15 rfl rfl, ⟨by decide, by decide, by decide +kernel⟩, by decide⟩
theorem mv_X10_270 : h_MV RX10 270 yX10_squareHeld cX10_squareHeld 6 (some .int) 4 := ⟨m0_X10_squareHeld, tk6_in 168 rfl rfl, tk6_in 170 rfl rfl, h_in 65 (by decide +kernel) rfl⟩
theorem m0_X10_isSooner : h_M0 yX10_isSooner cX10_isSooner 2 (some .boolean) 2 := ⟨tk6_in 186 rfl rfl, tk1_in 15 rfl rfl, ⟨by decide, by decide, by decide +kernel⟩, by decide⟩
theorem ms_X10_274 : h_MS RX10 274 yX10_isSooner cX10_isSooner 2 (some .boolean) 2 := ⟨m0_X10_isSooner, tk6_in 184 rfl rfl, tk6_in 185 rfl rfl⟩
theorem m0_X10_sheetWrong : h_M0 yX10_sheetWrong cX10_sheetWrong 2 (some .int) 1 := ⟨tk6_in 202 rfl rfl, tk1_in 15 rfl rfl, ⟨by decide, by decide, by decide +kernel⟩, by decide⟩
theorem mv_X10_277 : h_MV RX10 277 yX10_sheetWrong cX10_sheetWrong 2 (some .int) 1 := ⟨m0_X10_sheetWrong, tk6_in 199 rfl rfl, tk6_in 201 rfl rfl, h_in 67 (by decide +kernel) rfl⟩
theorem m0_X10_unlike : h_M0 yX10_unlike cX10_unlike 4 (some .int) 2 := ⟨tk6_in 210 rfl rfl, tk1_in 15 rfl rfl, ⟨by decide, by decide, by decide +kernel⟩, by decide⟩
theorem mv_X10_280 : h_MV RX10 280 yX10_unlike cX10_unlike 4 (some .int) 2 := ⟨m0_X10_unlike, tk6_in 207 rfl rfl, tk6_in 209 rfl rfl, h_in 69 (by decide +kernel) rfl⟩
theorem m0_X10_toldWrong : h_M0 yX10_toldWrong cX10_toldWrong 4 (some .int) 2 := ⟨tk6_in 198 rfl rfl, tk1_in 15 rfl rfl, ⟨by decide, by decide, by decide +kernel⟩, by decide⟩
theorem mv_X10_283 : h_MV RX10 283 yX10_toldWrong cX10_toldWrong 4 (some .int) 2 := ⟨m0_X10_toldWrong, tk6_in 195 rfl rfl, tk6_in 197 rfl rfl, h_in 66 (by decide +kernel) rfl⟩
theorem m0_X10_unlikeNow : h_M0 yX10_unlikeNow cX10_unlikeNow 3 (some .int) 2 := ⟨tk6_in 206 rfl rfl, tk1_in 15 rfl rfl, ⟨by decide, by decide, by decide +kernel⟩, by decide⟩
theorem mv_X10_286 : h_MV RX10 286 yX10_unlikeNow cX10_unlikeNow 3 (some .int) 2 := ⟨m0_X10_unlikeNow, tk6_in 203 rfl rfl, tk6_in 205 rfl rfl, h_in 68 (by decide +kernel) rfl⟩
theorem kc_X10_289 : Cond.constantLong RX10 289 (48271) ∈ h_tbl := tk7_in 0 rfl rfl
theorem kc_X10_291 : Cond.constantLong RX10 291 (2147483647) ∈ h_tbl := tk7_in 1 rfl rfl
theorem kc_X10_293 : Cond.constantLong RX10 293 (5) ∈ h_tbl := tk7_in 2 rfl rfl
theorem kc_X10_295 : Cond.constantLong RX10 295 (10) ∈ h_tbl := tk7_in 3 rfl rfl
theorem kc_X10_297 : Cond.constant RX10 297 (99999) ∈ h_tbl := tk6_in 235 rfl rfl
theorem m0_X10_blowsBy : h_M0 yX10_blowsBy cX10_blowsBy 5 none 1 := ⟨tk6_in 239 rfl rfl, tk1_in 15 rfl rfl, ⟨by decide, by decide, by decide +kernel⟩, by decide⟩
theorem mv_X10_298 : h_MV RX10 298 yX10_blowsBy cX10_blowsBy 5 none 1 := ⟨m0_X10_blowsBy, tk6_in 236 rfl rfl, tk6_in 238 rfl rfl, h_in 70 (by decide +kernel) rfl⟩
theorem m0_X10_laysGusts : h_M0 yX10_laysGusts cX10_laysGusts 2 none 0 := ⟨tk7_in 7 rfl rfl, tk1_in 15 rfl rfl, ⟨by decide, by decide, by decide +kernel⟩, by decide⟩
theorem mv_X10_301 : h_MV RX10 301 yX10_laysGusts cX10_laysGusts 2 none 0 := ⟨m0_X10_laysGusts, tk7_in 4 rfl rfl, tk7_in 6 rfl rfl, h_in 71 (by decide +kernel) rfl⟩
theorem kc_X10_304 : Cond.constantLong RX10 304 (-4611686018427387904) ∈ h_tbl := tk7_in 12 rfl rfl
theorem m0_X10_lowest : h_M0 yX10_lowest cX10_lowest 11 (some .long) 3 := ⟨tk7_in 15 rfl rfl, tk1_in 15 rfl rfl, ⟨by decide, by decide, by decide +kernel⟩, by decide⟩
theorem ms_X10_306 : h_MS RX10 306 yX10_lowest cX10_lowest 11 (some .long) 3 := ⟨m0_X10_lowest, tk7_in 13 rfl rfl, tk7_in 14 rfl rfl⟩
theorem fl_X10_310 : h_FL RX10 310 9 16 := ⟨RX10, TX10, tyX10, rfl, by decide, by decide, tk5_in 58 rfl rfl, uw_X10, tyX10_ok, nmX10⟩
theorem fp_X10_310 : h_FP RX10 310 9 16 .boolean := ⟨RX10, TX10, tyX10, rfl, by decide, by decide, tk5_in 58 rfl rfl, uw_X10, tyX10_ok, nmX10, rfl, by decide +kernel⟩
theorem fl_X10_314 : h_FL RX10 314 9 17 := ⟨RX10, TX10, tyX10, rfl, by decide, by decide, tk5_in 59 rfl rfl, uw_X10, tyX10_ok, nmX10⟩
theorem fp_X10_314 : h_FP RX10 314 9 17 .int := ⟨RX10, TX10, tyX10, rfl, by decide, by decide, tk5_in 59 rfl rfl, uw_X10, tyX10_ok, nmX10, rfl, by decide +kernel⟩
theorem fl_X10_317 : h_FL RX10 317 9 18 := ⟨RX10, TX10, tyX10, rfl, by decide, by decide, tk5_in 60 rfl rfl, uw_X10, tyX10_ok, nmX10⟩
theorem fp_X10_317 : h_FP RX10 317 9 18 .int := ⟨RX10, TX10, tyX10, rfl, by decide, by decide, tk5_in 60 rfl rfl, uw_X10, tyX10_ok, nmX10, rfl, by decide +kernel⟩
theorem fl_X10_320 : h_FL RX10 320 9 19 := ⟨RX10, TX10, tyX10, rfl, by decide, by decide, tk5_in 61 rfl rfl, uw_X10, tyX10_ok, nmX10⟩
theorem fp_X10_320 : h_FP RX10 320 9 19 .int := ⟨RX10, TX10, tyX10, rfl, by decide, by decide, tk5_in 61 rfl rfl, uw_X10, tyX10_ok, nmX10, rfl, by decide +kernel⟩
theorem mv_X10_323 : h_MV RX10 323 yX10_blow cX10_blow 5 (some .int) 3 := ⟨m0_X10_blow, tk7_in 40 rfl rfl, tk5_in 194 rfl rfl, tk5_in 195 rfl rfl⟩
theorem m0_X10_isUnder : h_M0 yX10_isUnder cX10_isUnder 2 (some .boolean) 2 := ⟨tk7_in 47 rfl rfl, tk1_in 15 rfl rfl, ⟨by decide, by decide, by decide +kernel⟩, by decide⟩
theorem ms_X10_326 : h_MS RX10 326 yX10_isUnder cX10_isUnder 2 (some .boolean) 2 := ⟨m0_X10_isUnder, tk7_in 45 rfl rfl, tk7_in 46 rfl rfl⟩
theorem m0_J0_coder_7d493 : h_M0 yJ0_coder_7d493 cJ0_coder_7d493 1 (some .byte) 0 := ⟨tk2_in 48 rfl rfl, tk1_in 10 rfl rfl, ⟨by decide, by decide, by decide +kernel⟩, by decide⟩
theorem mv_J0_335 : h_MV RJ0 335 yJ0_coder_7d493 cJ0_coder_7d493 1 (some .byte) 0 := ⟨m0_J0_coder_7d493, tk2_in 45 rfl rfl, tk2_in 46 rfl rfl, tk2_in 47 rfl rfl⟩
theorem m0_J0_isLatin1_aae02 : h_M0 yJ0_isLatin1_aae02 cJ0_isLatin1_aae02 1 (some .boolean) 0 := ⟨tk2_in 58 rfl rfl, tk1_in 10 rfl rfl, ⟨by decide, by decide, by decide +kernel⟩, by decide⟩
theorem mv_J0_492 : h_MV RJ0 492 yJ0_isLatin1_aae02 cJ0_isLatin1_aae02 1 (some .boolean) 0 := ⟨m0_J0_isLatin1_aae02, tk2_in 55 rfl rfl, tk2_in 56 rfl rfl, tk2_in 57 rfl rfl⟩
theorem m0_J1_charAt_3b067 : h_M0 yJ1_charAt_3b067 cJ1_charAt_3b067 2 (some .char) 2 := ⟨tk2_in 61 rfl rfl, tk1_in 11 rfl rfl, ⟨by decide, by decide, by decide +kernel⟩, by decide⟩
theorem ms_J0_495 : h_MS RJ0 495 yJ1_charAt_3b067 cJ1_charAt_3b067 2 (some .char) 2 := ⟨m0_J1_charAt_3b067, tk2_in 59 rfl rfl, tk2_in 60 rfl rfl⟩
theorem m0_J3_checkIndex_8e157 : h_M0 yJ3_checkIndex_8e157 cJ3_checkIndex_8e157 3 (some .int) 3 := ⟨tk2_in 69 rfl rfl, tk1_in 12 rfl rfl, ⟨by decide, by decide, by decide +kernel⟩, by decide⟩
theorem ms_J0_1059 : h_MS RJ0 1059 yJ3_checkIndex_8e157 cJ3_checkIndex_8e157 3 (some .int) 3 := ⟨m0_J3_checkIndex_8e157, tk2_in 67 rfl rfl, tk2_in 68 rfl rfl⟩
theorem m0_J0_checkIndex_df160 : h_M0 yJ0_checkIndex_df160 cJ0_checkIndex_df160 2 none 2 := ⟨tk2_in 64 rfl rfl, tk1_in 10 rfl rfl, ⟨by decide, by decide, by decide +kernel⟩, by decide⟩
theorem ms_J1_9 : h_MS RJ1 9 yJ0_checkIndex_df160 cJ0_checkIndex_df160 2 none 2 := ⟨m0_J0_checkIndex_df160, tk2_in 62 rfl rfl, tk2_in 63 rfl rfl⟩
theorem fs_above : Cond.fieldLink RX3 30 "HatDownTheStreet$Kinds" "ABOVE" "[I" ∈ h_tbl := tk3_in 204 rfl rfl
theorem fs_sval : Cond.fieldLink RJ0 9 "java/lang/String" "value" "[B" ∈ h_tbl := tk7_in 48 rfl rfl
theorem fs_scod : Cond.fieldLink RJ0 15 "java/lang/String" "coder" "B" ∈ h_tbl := tk7_in 49 rfl rfl
theorem fs_scmp : Cond.fieldLink RJ0 38 "java/lang/String" "COMPACT_STRINGS" "Z" ∈ h_tbl := tk2_in 49 rfl rfl
theorem fs_sioo : Cond.fieldLink RJ0 1053 "jdk/internal/util/Preconditions" "SIOOBE_FORMATTER" "Ljava/util/function/BiFunction;" ∈ h_tbl := tk2_in 65 rfl rfl
theorem fs_acn : Cond.native arraycopyName ∈ h_tbl := tk3_in 157 rfl rfl
theorem fs_acs : Cond.static arraycopyName ∈ h_tbl := tk3_in 156 rfl rfl
theorem fs_aci : Cond.initialized "java/lang/System" ∈ h_tbl := tk1_in 16 rfl rfl
theorem sx_0 : h_is hYx 0 8 0 := ⟨by decide, rfl⟩
theorem rx_0_0 : hYx.2.1 0 0 = 1 := rfl
theorem rx_0_1 : hYx.2.1 0 1 = 15 := rfl
theorem rx_0_3 : hYx.2.1 0 3 = 29 := rfl
theorem rx_0_5 : hYx.2.1 0 5 = 30 := rfl
theorem rx_0_6 : hYx.2.1 0 6 = 39 := rfl
theorem rx_0_7 : hYx.2.1 0 7 = 40 := rfl
theorem rx_0_8 : hYx.2.1 0 8 = 49 := rfl
theorem rx_0_9 : hYx.2.1 0 9 = 55 := rfl
theorem sx_1 : h_is hYx 1 6 0 := ⟨by decide, rfl⟩
theorem rx_1_0 : hYx.2.1 1 0 = 2 := rfl
theorem rx_1_1 : hYx.2.1 1 1 = 3 := rfl
theorem rx_1_2 : hYx.2.1 1 2 = 4 := rfl
theorem rx_1_3 : hYx.2.1 1 3 = 5 := rfl
theorem rx_1_4 : hYx.2.1 1 4 = 6 := rfl
theorem sx_2 : h_is hYx 2 10 3 := ⟨by decide, rfl⟩
theorem sx_3 : h_is hYx 3 10 24 := ⟨by decide, rfl⟩
theorem sx_4 : h_is hYx 4 10 24 := ⟨by decide, rfl⟩
theorem sx_5 : h_is hYx 5 11 4 := ⟨by decide, rfl⟩
theorem sx_6 : h_is hYx 6 12 4 := ⟨by decide, rfl⟩
theorem sx_7 : h_is hYx 7 2 0 := ⟨by decide, rfl⟩
theorem sx_8 : h_is hYx 8 2 0 := ⟨by decide, rfl⟩
theorem sx_9 : h_is hYx 9 2 0 := ⟨by decide, rfl⟩
theorem sx_10 : h_is hYx 10 2 0 := ⟨by decide, rfl⟩
theorem sx_11 : h_is hYx 11 0 0 := ⟨by decide, rfl⟩
theorem sx_12 : h_is hYx 12 0 0 := ⟨by decide, rfl⟩
theorem sx_13 : h_is hYx 13 0 0 := ⟨by decide, rfl⟩
theorem sx_14 : h_is hYx 14 0 0 := ⟨by decide, rfl⟩
theorem sx_15 : h_is hYx 15 6 0 := ⟨by decide, rfl⟩
theorem rx_15_0 : hYx.2.1 15 0 = 16 := rfl
theorem rx_15_1 : hYx.2.1 15 1 = 17 := rfl
theorem rx_15_2 : hYx.2.1 15 2 = 18 := rfl
theorem rx_15_3 : hYx.2.1 15 3 = 19 := rfl
theorem rx_15_4 : hYx.2.1 15 4 = 20 := rfl
theorem sx_16 : h_is hYx 16 10 3 := ⟨by decide, rfl⟩
theorem sx_17 : h_is hYx 17 10 24 := ⟨by decide, rfl⟩
theorem sx_18 : h_is hYx 18 10 24 := ⟨by decide, rfl⟩
theorem sx_19 : h_is hYx 19 11 4 := ⟨by decide, rfl⟩
theorem sx_20 : h_is hYx 20 12 4 := ⟨by decide, rfl⟩
theorem sx_21 : h_is hYx 21 2 0 := ⟨by decide, rfl⟩
theorem sx_22 : h_is hYx 22 2 0 := ⟨by decide, rfl⟩
theorem sx_23 : h_is hYx 23 2 0 := ⟨by decide, rfl⟩
theorem sx_24 : h_is hYx 24 2 0 := ⟨by decide, rfl⟩
theorem sx_25 : h_is hYx 25 0 0 := ⟨by decide, rfl⟩
theorem sx_26 : h_is hYx 26 0 0 := ⟨by decide, rfl⟩
theorem sx_27 : h_is hYx 27 0 0 := ⟨by decide, rfl⟩
theorem sx_28 : h_is hYx 28 0 0 := ⟨by decide, rfl⟩
theorem sx_29 : h_is hYx 29 13 6 := ⟨by decide, rfl⟩
theorem sx_30 : h_is hYx 30 4 0 := ⟨by decide, rfl⟩
theorem rx_30_1 : hYx.2.1 30 1 = 31 := rfl
theorem rx_30_2 : hYx.2.1 30 2 = 32 := rfl
theorem rx_30_3 : hYx.2.1 30 3 = 33 := rfl
theorem rx_30_4 : hYx.2.1 30 4 = 34 := rfl
theorem sx_31 : h_is hYx 31 10 160 := ⟨by decide, rfl⟩
theorem sx_32 : h_is hYx 32 10 161 := ⟨by decide, rfl⟩
theorem sx_33 : h_is hYx 33 10 161 := ⟨by decide, rfl⟩
theorem sx_34 : h_is hYx 34 10 161 := ⟨by decide, rfl⟩
theorem sx_35 : h_is hYx 35 3 0 := ⟨by decide, rfl⟩
theorem rx_35_0 : hYx.2.1 35 0 = 36 := rfl
theorem rx_35_1 : hYx.2.1 35 1 = 37 := rfl
theorem rx_35_2 : hYx.2.1 35 2 = 38 := rfl
theorem sx_36 : h_is hYx 36 10 160 := ⟨by decide, rfl⟩
theorem sx_37 : h_is hYx 37 10 3 := ⟨by decide, rfl⟩
theorem sx_38 : h_is hYx 38 10 40 := ⟨by decide, rfl⟩
theorem sx_39 : h_is hYx 39 14 4 := ⟨by decide, rfl⟩
theorem sx_40 : h_is hYx 40 7 0 := ⟨by decide, rfl⟩
theorem rx_40_7 : hYx.2.1 40 7 = 45 := rfl
theorem rx_40_8 : hYx.2.1 40 8 = 46 := rfl
theorem rx_40_9 : hYx.2.1 40 9 = 47 := rfl
theorem rx_40_10 : hYx.2.1 40 10 = 48 := rfl
theorem sx_41 : h_is hYx 41 3 0 := ⟨by decide, rfl⟩
theorem rx_41_0 : hYx.2.1 41 0 = 42 := rfl
theorem rx_41_1 : hYx.2.1 41 1 = 43 := rfl
theorem rx_41_2 : hYx.2.1 41 2 = 44 := rfl
theorem sx_42 : h_is hYx 42 10 160 := ⟨by decide, rfl⟩
theorem sx_43 : h_is hYx 43 10 3 := ⟨by decide, rfl⟩
theorem sx_44 : h_is hYx 44 10 40 := ⟨by decide, rfl⟩
theorem sx_45 : h_is hYx 45 10 24 := ⟨by decide, rfl⟩
theorem sx_46 : h_is hYx 46 10 24 := ⟨by decide, rfl⟩
theorem sx_47 : h_is hYx 47 10 25 := ⟨by decide, rfl⟩
theorem sx_48 : h_is hYx 48 10 6 := ⟨by decide, rfl⟩
theorem sx_49 : h_is hYx 49 1 0 := ⟨by decide, rfl⟩
theorem rx_49_0 : hYx.2.1 49 0 = 50 := rfl
theorem sx_50 : h_is hYx 50 15 4 := ⟨by decide, rfl⟩
theorem sx_51 : h_is hYx 51 10 25 := ⟨by decide, rfl⟩
theorem sx_52 : h_is hYx 52 10 25 := ⟨by decide, rfl⟩
theorem sx_53 : h_is hYx 53 10 25 := ⟨by decide, rfl⟩
theorem sx_54 : h_is hYx 54 10 25 := ⟨by decide, rfl⟩
theorem sx_55 : h_is hYx 55 10 96 := ⟨by decide, rfl⟩
theorem sx_56 : h_is hYx 56 3 0 := ⟨by decide, rfl⟩
theorem rx_56_0 : hYx.2.1 56 0 = 57 := rfl
theorem rx_56_1 : hYx.2.1 56 1 = 58 := rfl
theorem rx_56_2 : hYx.2.1 56 2 = 59 := rfl
theorem sx_57 : h_is hYx 57 10 160 := ⟨by decide, rfl⟩
theorem sx_58 : h_is hYx 58 10 3 := ⟨by decide, rfl⟩
theorem sx_59 : h_is hYx 59 10 40 := ⟨by decide, rfl⟩
theorem sx_60 : h_is hYx 60 3 0 := ⟨by decide, rfl⟩
theorem rx_60_0 : hYx.2.1 60 0 = 61 := rfl
theorem rx_60_1 : hYx.2.1 60 1 = 62 := rfl
theorem rx_60_2 : hYx.2.1 60 2 = 63 := rfl
theorem sx_61 : h_is hYx 61 10 160 := ⟨by decide, rfl⟩
theorem sx_62 : h_is hYx 62 10 3 := ⟨by decide, rfl⟩
theorem sx_63 : h_is hYx 63 10 40 := ⟨by decide, rfl⟩
theorem sx_64 : h_is hYx 64 3 0 := ⟨by decide, rfl⟩
theorem rx_64_0 : hYx.2.1 64 0 = 65 := rfl
theorem rx_64_1 : hYx.2.1 64 1 = 66 := rfl
theorem rx_64_2 : hYx.2.1 64 2 = 67 := rfl
theorem sx_65 : h_is hYx 65 10 160 := ⟨by decide, rfl⟩
theorem sx_66 : h_is hYx 66 10 3 := ⟨by decide, rfl⟩
theorem sx_67 : h_is hYx 67 10 40 := ⟨by decide, rfl⟩
theorem sx_68 : h_is hYx 68 3 0 := ⟨by decide, rfl⟩
theorem rx_68_0 : hYx.2.1 68 0 = 69 := rfl
theorem rx_68_1 : hYx.2.1 68 1 = 70 := rfl
theorem rx_68_2 : hYx.2.1 68 2 = 71 := rfl
theorem sx_69 : h_is hYx 69 10 160 := ⟨by decide, rfl⟩
theorem sx_70 : h_is hYx 70 10 3 := ⟨by decide, rfl⟩
theorem sx_71 : h_is hYx 71 10 40 := ⟨by decide, rfl⟩
theorem sx_72 : h_is hYx 72 3 0 := ⟨by decide, rfl⟩
theorem rx_72_0 : hYx.2.1 72 0 = 73 := rfl
theorem rx_72_1 : hYx.2.1 72 1 = 74 := rfl
theorem rx_72_2 : hYx.2.1 72 2 = 75 := rfl
theorem sx_73 : h_is hYx 73 10 160 := ⟨by decide, rfl⟩
theorem sx_74 : h_is hYx 74 10 3 := ⟨by decide, rfl⟩
theorem sx_75 : h_is hYx 75 10 40 := ⟨by decide, rfl⟩
theorem sx_76 : h_is hYx 76 3 0 := ⟨by decide, rfl⟩
theorem rx_76_0 : hYx.2.1 76 0 = 77 := rfl
theorem rx_76_1 : hYx.2.1 76 1 = 78 := rfl
theorem rx_76_2 : hYx.2.1 76 2 = 79 := rfl
theorem sx_77 : h_is hYx 77 10 160 := ⟨by decide, rfl⟩
theorem sx_78 : h_is hYx 78 10 3 := ⟨by decide, rfl⟩
theorem sx_79 : h_is hYx 79 10 40 := ⟨by decide, rfl⟩
theorem sx_80 : h_is hYx 80 5 0 := ⟨by decide, rfl⟩
theorem rx_80_2 : hYx.2.1 80 2 = 81 := rfl
theorem sx_81 : h_is hYx 81 10 40 := ⟨by decide, rfl⟩
theorem sx_82 : h_is hYx 82 5 0 := ⟨by decide, rfl⟩
theorem rx_82_2 : hYx.2.1 82 2 = 83 := rfl
theorem sx_83 : h_is hYx 83 10 40 := ⟨by decide, rfl⟩
theorem sx_84 : h_is hYx 84 5 0 := ⟨by decide, rfl⟩
theorem rx_84_2 : hYx.2.1 84 2 = 85 := rfl
theorem sx_85 : h_is hYx 85 10 40 := ⟨by decide, rfl⟩
theorem sx_86 : h_is hYx 86 5 0 := ⟨by decide, rfl⟩
theorem rx_86_2 : hYx.2.1 86 2 = 87 := rfl
theorem sx_87 : h_is hYx 87 10 40 := ⟨by decide, rfl⟩
theorem sm_0 : h_is hYm 0 9 0 := ⟨by decide, rfl⟩
theorem rm_0_0 : hYm.2.1 0 0 = 1 := rfl
theorem rm_0_1 : hYm.2.1 0 1 = 2 := rfl
theorem rm_0_2 : hYm.2.1 0 2 = 3 := rfl
theorem rm_0_4 : hYm.2.1 0 4 = 4 := rfl
theorem rm_0_5 : hYm.2.1 0 5 = 5 := rfl
theorem rm_0_6 : hYm.2.1 0 6 = 6 := rfl
theorem rm_0_7 : hYm.2.1 0 7 = 7 := rfl
theorem rm_0_9 : hYm.2.1 0 9 = 8 := rfl
theorem rm_0_10 : hYm.2.1 0 10 = 9 := rfl
theorem rm_0_12 : hYm.2.1 0 12 = 10 := rfl
theorem rm_0_13 : hYm.2.1 0 13 = 11 := rfl
theorem rm_0_20 : hYm.2.1 0 20 = 12 := rfl
theorem rm_0_21 : hYm.2.1 0 21 = 13 := rfl
theorem rm_0_22 : hYm.2.1 0 22 = 14 := rfl
theorem rm_0_23 : hYm.2.1 0 23 = 15 := rfl
theorem rm_0_24 : hYm.2.1 0 24 = 16 := rfl
theorem rm_0_29 : hYm.2.1 0 29 = 17 := rfl
theorem rm_0_30 : hYm.2.1 0 30 = 18 := rfl
theorem rm_0_34 : hYm.2.1 0 34 = 19 := rfl
theorem rm_0_35 : hYm.2.1 0 35 = 20 := rfl
theorem rm_0_40 : hYm.2.1 0 40 = 21 := rfl
theorem rm_0_41 : hYm.2.1 0 41 = 22 := rfl
theorem rm_0_42 : hYm.2.1 0 42 = 23 := rfl
theorem rm_0_43 : hYm.2.1 0 43 = 24 := rfl
theorem rm_0_44 : hYm.2.1 0 44 = 25 := rfl
theorem sm_1 : h_is hYm 1 10 3 := ⟨by decide, rfl⟩
theorem sm_2 : h_is hYm 2 10 24 := ⟨by decide, rfl⟩
theorem sm_3 : h_is hYm 3 10 24 := ⟨by decide, rfl⟩
theorem sm_4 : h_is hYm 4 10 4 := ⟨by decide, rfl⟩
theorem sm_5 : h_is hYm 5 10 4 := ⟨by decide, rfl⟩
theorem sm_6 : h_is hYm 6 10 4 := ⟨by decide, rfl⟩
theorem sm_7 : h_is hYm 7 10 4 := ⟨by decide, rfl⟩
theorem sm_8 : h_is hYm 8 10 12 := ⟨by decide, rfl⟩
theorem sm_9 : h_is hYm 9 10 160 := ⟨by decide, rfl⟩
theorem sm_10 : h_is hYm 10 10 1200 := ⟨by decide, rfl⟩
theorem sm_11 : h_is hYm 11 10 24 := ⟨by decide, rfl⟩
theorem sm_12 : h_is hYm 12 10 79 := ⟨by decide, rfl⟩
theorem sm_13 : h_is hYm 13 10 4 := ⟨by decide, rfl⟩
theorem sm_14 : h_is hYm 14 10 4 := ⟨by decide, rfl⟩
theorem sm_15 : h_is hYm 15 10 160 := ⟨by decide, rfl⟩
theorem sm_16 : h_is hYm 16 10 45 := ⟨by decide, rfl⟩
theorem sm_17 : h_is hYm 17 10 96 := ⟨by decide, rfl⟩
theorem sm_18 : h_is hYm 18 10 200 := ⟨by decide, rfl⟩
theorem sm_19 : h_is hYm 19 10 200 := ⟨by decide, rfl⟩
theorem sm_20 : h_is hYm 20 10 6 := ⟨by decide, rfl⟩
theorem sm_21 : h_is hYm 21 10 96 := ⟨by decide, rfl⟩
theorem sm_22 : h_is hYm 22 10 32 := ⟨by decide, rfl⟩
theorem sm_23 : h_is hYm 23 10 32 := ⟨by decide, rfl⟩
theorem sm_24 : h_is hYm 24 10 24 := ⟨by decide, rfl⟩
theorem sm_25 : h_is hYm 25 10 24 := ⟨by decide, rfl⟩
