/-! links of constructors -/
theorem ac_int : Cond.arrayClass .int ∈ h_tbl := tk1_in 58 rfl rfl
theorem ob_in : Cond.instanceMethod Lib.objectInit ∈ h_tbl := tk1_in 24 rfl rfl
theorem ob_co : Cond.code Lib.objectInit ⟨#[0xb1]⟩ 1 none ∈ h_tbl := tk1_in 25 rfl rfl
theorem it_X0 : Cond.instantiable RX0 (h_nf 0) ∈ h_tbl := tk1_in 59 rfl rfl
theorem ii_X0 : Cond.initialized RX0 ∈ h_tbl := tk1_in 4 rfl rfl
theorem df_X0 : ∀ j, j < h_nf 0 → defaultValue (tyX0 j) = if h_kd 0 j = 0 then .int 0 else .null := by
  intro j hj
  have hj2 : j < 3 := hj
  rcases (by omega : j = 0 ∨ j = 1 ∨ j = 2) with rfl | rfl | rfl <;> rfl
theorem it_X1 : Cond.instantiable RX1 (h_nf 1) ∈ h_tbl := tk1_in 230 rfl rfl
theorem ii_X1 : Cond.initialized RX1 ∈ h_tbl := tk1_in 8 rfl rfl
theorem df_X1 : ∀ j, j < h_nf 1 → defaultValue (tyX1 j) = if h_kd 1 j = 0 then .int 0 else .null := by
  intro j hj
  have hj2 : j < 6 := hj
  rcases (by omega : j = 0 ∨ j = 1 ∨ j = 2 ∨ j = 3 ∨ j = 4 ∨ j = 5) with rfl | rfl | rfl | rfl | rfl | rfl <;> rfl
theorem it_X2 : Cond.instantiable RX2 (h_nf 2) ∈ h_tbl := tk1_in 36 rfl rfl
theorem ii_X2 : Cond.initialized RX2 ∈ h_tbl := tk1_in 3 rfl rfl
theorem df_X2 : ∀ j, j < h_nf 2 → defaultValue (tyX2 j) = if h_kd 2 j = 0 then .int 0 else .null := by
  intro j hj
  have hj2 : j < 3 := hj
  rcases (by omega : j = 0 ∨ j = 1 ∨ j = 2) with rfl | rfl | rfl <;> rfl
theorem it_X4 : Cond.instantiable RX4 (h_nf 3) ∈ h_tbl := tk1_in 129 rfl rfl
theorem ii_X4 : Cond.initialized RX4 ∈ h_tbl := tk1_in 6 rfl rfl
theorem df_X4 : ∀ j, j < h_nf 3 → defaultValue (tyX4 j) = if h_kd 3 j = 0 then .int 0 else .null := by
  intro j hj
  have hj2 : j < 4 := hj
  rcases (by omega : j = 0 ∨ j = 1 ∨ j = 2 ∨ j = 3) with rfl | rfl | rfl | rfl <;> rfl
theorem it_X5 : Cond.instantiable RX5 (h_nf 4) ∈ h_tbl := tk1_in 123 rfl rfl
theorem ii_X5 : Cond.initialized RX5 ∈ h_tbl := tk1_in 5 rfl rfl
theorem df_X5 : ∀ j, j < h_nf 4 → defaultValue (tyX5 j) = if h_kd 4 j = 0 then .int 0 else .null := by
  intro j hj
  have hj2 : j < 9 := hj
  rcases (by omega : j = 0 ∨ j = 1 ∨ j = 2 ∨ j = 3 ∨ j = 4 ∨ j = 5 ∨ j = 6 ∨ j = 7 ∨ j = 8) with rfl | rfl | rfl | rfl | rfl | rfl | rfl | rfl | rfl <;> rfl
theorem it_X6 : Cond.instantiable RX6 (h_nf 5) ∈ h_tbl := tk2_in 20 rfl rfl
theorem ii_X6 : Cond.initialized RX6 ∈ h_tbl := tk1_in 9 rfl rfl
theorem df_X6 : ∀ j, j < h_nf 5 → defaultValue (tyX6 j) = if h_kd 5 j = 0 then .int 0 else .null := by
  intro j hj
  have hj2 : j < 3 := hj
  rcases (by omega : j = 0 ∨ j = 1 ∨ j = 2) with rfl | rfl | rfl <;> rfl
theorem it_X7 : Cond.instantiable RX7 (h_nf 6) ∈ h_tbl := tk1_in 27 rfl rfl
theorem ii_X7 : Cond.initialized RX7 ∈ h_tbl := tk1_in 2 rfl rfl
theorem df_X7 : ∀ j, j < h_nf 6 → defaultValue (tyX7 j) = if h_kd 6 j = 0 then .int 0 else .null := by
  intro j hj
  have hj2 : j < 8 := hj
  rcases (by omega : j = 0 ∨ j = 1 ∨ j = 2 ∨ j = 3 ∨ j = 4 ∨ j = 5 ∨ j = 6 ∨ j = 7) with rfl | rfl | rfl | rfl | rfl | rfl | rfl | rfl <;> rfl
theorem it_X8 : Cond.instantiable RX8 (h_nf 7) ∈ h_tbl := tk1_in 179 rfl rfl
theorem ii_X8 : Cond.initialized RX8 ∈ h_tbl := tk1_in 7 rfl rfl
theorem df_X8 : ∀ j, j < h_nf 7 → defaultValue (tyX8 j) = if h_kd 7 j = 0 then .int 0 else .null := by
  intro j hj
  have hj2 : j < 11 := hj
  rcases (by omega : j = 0 ∨ j = 1 ∨ j = 2 ∨ j = 3 ∨ j = 4 ∨ j = 5 ∨ j = 6 ∨ j = 7 ∨ j = 8 ∨ j = 9 ∨ j = 10) with rfl | rfl | rfl | rfl | rfl | rfl | rfl | rfl | rfl | rfl | rfl <;> rfl
theorem it_X9 : Cond.instantiable RX9 (h_nf 8) ∈ h_tbl := tk1_in 19 rfl rfl
theorem ii_X9 : Cond.initialized RX9 ∈ h_tbl := tk1_in 1 rfl rfl
theorem df_X9 : ∀ j, j < h_nf 8 → defaultValue (tyX9 j) = if h_kd 8 j = 0 then .int 0 else .null := by
  intro j hj
  have hj2 : j < 10 := hj
  rcases (by omega : j = 0 ∨ j = 1 ∨ j = 2 ∨ j = 3 ∨ j = 4 ∨ j = 5 ∨ j = 6 ∨ j = 7 ∨ j = 8 ∨ j = 9) with rfl | rfl | rfl | rfl | rfl | rfl | rfl | rfl | rfl | rfl <;> rfl
theorem it_X10 : Cond.instantiable RX10 (h_nf 9) ∈ h_tbl := tk4_in 230 rfl rfl
theorem ii_X10 : Cond.initialized RX10 ∈ h_tbl := tk1_in 15 rfl rfl
theorem df_X10 : ∀ j, j < h_nf 9 → defaultValue (tyX10 j) = if h_kd 9 j = 0 then .int 0 else .null := by
  intro j hj
  have hj2 : j < 45 := hj
  rcases (by omega : j = 0 ∨ j = 1 ∨ j = 2 ∨ j = 3 ∨ j = 4 ∨ j = 5 ∨ j = 6 ∨ j = 7 ∨ j = 8 ∨ j = 9 ∨ j = 10 ∨ j = 11 ∨ j = 12 ∨ j = 13 ∨ j = 14 ∨ j = 15 ∨ j = 16 ∨ j = 17 ∨ j = 18 ∨ j = 19 ∨ j = 20 ∨ j = 21 ∨ j = 22 ∨ j = 23 ∨ j = 24 ∨ j = 25 ∨ j = 26 ∨ j = 27 ∨ j = 28 ∨ j = 29 ∨ j = 30 ∨ j = 31 ∨ j = 32 ∨ j = 33 ∨ j = 34 ∨ j = 35 ∨ j = 36 ∨ j = 37 ∨ j = 38 ∨ j = 39 ∨ j = 40 ∨ j = 41 ∨ j = 42 ∨ j = 43 ∨ j = 44) with rfl | rfl | rfl | rfl | rfl | rfl | rfl | rfl | rfl | rfl | rfl | rfl | rfl | rfl | rfl | rfl | rfl | rfl | rfl | rfl | rfl | rfl | rfl | rfl | rfl | rfl | rfl | rfl | rfl | rfl | rfl | rfl | rfl | rfl | rfl | rfl | rfl | rfl | rfl | rfl | rfl | rfl | rfl | rfl | rfl <;> rfl
theorem cl_L_7 : Cond.classLink RL 7 RX9 ∈ h_tbl := tk1_in 18 rfl rfl
theorem cl_X9_9 : Cond.classLink RX9 9 RX7 ∈ h_tbl := tk1_in 26 rfl rfl
theorem cl_X7_21 : Cond.classLink RX7 21 RX2 ∈ h_tbl := tk1_in 32 rfl rfl
theorem cl_X7_27 : Cond.classLink RX7 27 RX0 ∈ h_tbl := tk1_in 34 rfl rfl
theorem cl_X9_23 : Cond.classLink RX9 23 RX4 ∈ h_tbl := tk1_in 120 rfl rfl
theorem cl_X9_33 : Cond.classLink RX9 33 RX5 ∈ h_tbl := tk1_in 122 rfl rfl
theorem cl_X5_28 : Cond.classLink RX5 28 RX4 ∈ h_tbl := tk1_in 128 rfl rfl
theorem cl_X9_40 : Cond.classLink RX9 40 RX6 ∈ h_tbl := tk1_in 176 rfl rfl
theorem cl_X9_46 : Cond.classLink RX9 46 RX8 ∈ h_tbl := tk1_in 178 rfl rfl
theorem cl_X8_9 : Cond.classLink RX8 9 RX4 ∈ h_tbl := tk1_in 184 rfl rfl
theorem cl_X9_53 : Cond.classLink RX9 53 RX1 ∈ h_tbl := tk1_in 229 rfl rfl
theorem cl_X1_9 : Cond.classLink RX1 9 "[[I" ∈ h_tbl := tk1_in 235 rfl rfl
theorem cl_L_10 : Cond.classLink RL 10 RX10 ∈ h_tbl := tk4_in 229 rfl rfl
theorem ob_X9_3 : Cond.methodLink RX9 3 Lib.objectInit ∈ h_tbl := tk1_in 23 rfl rfl
theorem ob_X7_3 : Cond.methodLink RX7 3 Lib.objectInit ∈ h_tbl := tk1_in 31 rfl rfl
theorem ob_X2_1 : Cond.methodLink RX2 1 Lib.objectInit ∈ h_tbl := tk1_in 40 rfl rfl
theorem ob_X0_1 : Cond.methodLink RX0 1 Lib.objectInit ∈ h_tbl := tk1_in 63 rfl rfl
theorem ob_X5_3 : Cond.methodLink RX5 3 Lib.objectInit ∈ h_tbl := tk1_in 127 rfl rfl
theorem ob_X4_3 : Cond.methodLink RX4 3 Lib.objectInit ∈ h_tbl := tk1_in 133 rfl rfl
theorem ob_X8_3 : Cond.methodLink RX8 3 Lib.objectInit ∈ h_tbl := tk1_in 183 rfl rfl
theorem ob_X1_3 : Cond.methodLink RX1 3 Lib.objectInit ∈ h_tbl := tk1_in 234 rfl rfl
theorem ob_X6_3 : Cond.methodLink RX6 3 Lib.objectInit ∈ h_tbl := tk2_in 24 rfl rfl
theorem ob_X10_1 : Cond.methodLink RX10 1 Lib.objectInit ∈ h_tbl := tk4_in 234 rfl rfl
theorem m0_X9_init : h_M0 yX9_init cX9_init 2 none 0 := ⟨tk1_in 22 rfl rfl, tk1_in 1 rfl rfl, ⟨by decide, by decide, by decide +kernel⟩, by decide⟩
theorem mi_L_9 : h_MI RL 9 yX9_init cX9_init 2 := ⟨m0_X9_init, tk1_in 20 rfl rfl, rfl, tk1_in 21 rfl rfl⟩
theorem m0_X7_init : h_M0 yX7_init cX7_init 2 none 0 := ⟨tk1_in 30 rfl rfl, tk1_in 2 rfl rfl, ⟨by decide, by decide, by decide +kernel⟩, by decide⟩
theorem mi_X9_11 : h_MI RX9 11 yX7_init cX7_init 2 := ⟨m0_X7_init, tk1_in 28 rfl rfl, rfl, tk1_in 29 rfl rfl⟩
theorem m0_X10_init : h_M0 yX10_init cX10_init 2 none 0 := ⟨tk4_in 233 rfl rfl, tk1_in 15 rfl rfl, ⟨by decide, by decide, by decide +kernel⟩, by decide⟩
theorem mi_L_12 : h_MI RL 12 yX10_init cX10_init 2 := ⟨m0_X10_init, tk4_in 231 rfl rfl, rfl, tk4_in 232 rfl rfl⟩
theorem m0_X2_init : h_M0 yX2_init cX2_init 1 none 0 := ⟨tk1_in 39 rfl rfl, tk1_in 3 rfl rfl, ⟨by decide, by decide, by decide +kernel⟩, by decide⟩
theorem mi_X7_33 : h_MIN RX7 33 yX2_init cX2_init 1 "HatDownTheStreet" := ⟨m0_X2_init, by decide +kernel, rfl, tk1_in 38 rfl rfl⟩
theorem m0_X0_init : h_M0 yX0_init cX0_init 1 none 0 := ⟨tk1_in 62 rfl rfl, tk1_in 4 rfl rfl, ⟨by decide, by decide, by decide +kernel⟩, by decide⟩
theorem mi_X7_34 : h_MIN RX7 34 yX0_init cX0_init 1 "HatDownTheStreet" := ⟨m0_X0_init, by decide +kernel, rfl, tk1_in 61 rfl rfl⟩
theorem m0_X5_init : h_M0 yX5_init cX5_init 1 none 0 := ⟨tk1_in 126 rfl rfl, tk1_in 5 rfl rfl, ⟨by decide, by decide, by decide +kernel⟩, by decide⟩
theorem mi_X9_35 : h_MIN RX9 35 yX5_init cX5_init 1 "HatDownTheStreet" := ⟨m0_X5_init, by decide +kernel, rfl, tk1_in 125 rfl rfl⟩
theorem m0_X4_init : h_M0 yX4_init cX4_init 1 none 0 := ⟨tk1_in 132 rfl rfl, tk1_in 6 rfl rfl, ⟨by decide, by decide, by decide +kernel⟩, by decide⟩
theorem mi_X5_30 : h_MIN RX5 30 yX4_init cX4_init 1 "HatDownTheStreet" := ⟨m0_X4_init, by decide +kernel, rfl, tk1_in 131 rfl rfl⟩
theorem m0_X8_init : h_M0 yX8_init cX8_init 1 none 0 := ⟨tk1_in 182 rfl rfl, tk1_in 7 rfl rfl, ⟨by decide, by decide, by decide +kernel⟩, by decide⟩
theorem mi_X9_48 : h_MIN RX9 48 yX8_init cX8_init 1 "HatDownTheStreet" := ⟨m0_X8_init, by decide +kernel, rfl, tk1_in 181 rfl rfl⟩
theorem mi_X8_11 : h_MIN RX8 11 yX4_init cX4_init 1 "HatDownTheStreet" := ⟨m0_X4_init, by decide +kernel, rfl, tk1_in 131 rfl rfl⟩
theorem m0_X1_init : h_M0 yX1_init cX1_init 1 none 0 := ⟨tk1_in 233 rfl rfl, tk1_in 8 rfl rfl, ⟨by decide, by decide, by decide +kernel⟩, by decide⟩
theorem mi_X9_55 : h_MIN RX9 55 yX1_init cX1_init 1 "HatDownTheStreet" := ⟨m0_X1_init, by decide +kernel, rfl, tk1_in 232 rfl rfl⟩
theorem mi_X9_64 : h_MIN RX9 64 yX4_init cX4_init 1 "HatDownTheStreet" := ⟨m0_X4_init, by decide +kernel, rfl, tk1_in 131 rfl rfl⟩
theorem m0_X6_init : h_M0 yX6_init cX6_init 1 none 0 := ⟨tk2_in 23 rfl rfl, tk1_in 9 rfl rfl, ⟨by decide, by decide, by decide +kernel⟩, by decide⟩
theorem mi_X9_65 : h_MIN RX9 65 yX6_init cX6_init 1 "HatDownTheStreet" := ⟨m0_X6_init, by decide +kernel, rfl, tk2_in 22 rfl rfl⟩
theorem ff_X1_11 : h_FF RX1 11 1 0 (.array (.array .int)) := ⟨RX1, TX1, tyX1, rfl, by decide, by decide, tk1_in 237 rfl rfl, uw_X1, tyX1_ok, nmX1, rfl, rfl, by decide +kernel⟩
theorem ff_X4_9 : h_FF RX4 9 3 0 (.array .int) := ⟨RX4, TX4, tyX4, rfl, by decide, by decide, tk1_in 134 rfl rfl, uw_X4, tyX4_ok, nmX4, rfl, rfl, by decide +kernel⟩
theorem ff_X4_15 : h_FF RX4 15 3 1 (.array .int) := ⟨RX4, TX4, tyX4, rfl, by decide, by decide, tk1_in 135 rfl rfl, uw_X4, tyX4_ok, nmX4, rfl, rfl, by decide +kernel⟩
theorem ff_X4_18 : h_FF RX4 18 3 2 (.array .int) := ⟨RX4, TX4, tyX4, rfl, by decide, by decide, tk1_in 136 rfl rfl, uw_X4, tyX4_ok, nmX4, rfl, rfl, by decide +kernel⟩
theorem ff_X5_15 : h_FF RX5 15 4 1 (.array .int) := ⟨RX5, TX5, tyX5, rfl, by decide, by decide, tk1_in 149 rfl rfl, uw_X5, tyX5_ok, nmX5, rfl, rfl, by decide +kernel⟩
theorem ff_X5_19 : h_FF RX5 19 4 2 (.array .int) := ⟨RX5, TX5, tyX5, rfl, by decide, by decide, tk1_in 150 rfl rfl, uw_X5, tyX5_ok, nmX5, rfl, rfl, by decide +kernel⟩
theorem ff_X5_22 : h_FF RX5 22 4 3 (.array .int) := ⟨RX5, TX5, tyX5, rfl, by decide, by decide, tk1_in 151 rfl rfl, uw_X5, tyX5_ok, nmX5, rfl, rfl, by decide +kernel⟩
theorem ff_X5_25 : h_FF RX5 25 4 4 (.array .int) := ⟨RX5, TX5, tyX5, rfl, by decide, by decide, tk1_in 152 rfl rfl, uw_X5, tyX5_ok, nmX5, rfl, rfl, by decide +kernel⟩
theorem ff_X6_18 : h_FF RX6 18 5 2 (.array .int) := ⟨RX6, TX6, tyX6, rfl, by decide, by decide, tk2_in 30 rfl rfl, uw_X6, tyX6_ok, nmX6, rfl, rfl, by decide +kernel⟩
theorem ff_X7_9 : h_FF RX7 9 6 0 (.array .int) := ⟨RX7, TX7, tyX7, rfl, by decide, by decide, tk1_in 84 rfl rfl, uw_X7, tyX7_ok, nmX7, rfl, rfl, by decide +kernel⟩
theorem ff_X7_15 : h_FF RX7 15 6 1 (.array .int) := ⟨RX7, TX7, tyX7, rfl, by decide, by decide, tk1_in 87 rfl rfl, uw_X7, tyX7_ok, nmX7, rfl, rfl, by decide +kernel⟩
theorem ff_X7_18 : h_FF RX7 18 6 2 (.array .int) := ⟨RX7, TX7, tyX7, rfl, by decide, by decide, tk1_in 90 rfl rfl, uw_X7, tyX7_ok, nmX7, rfl, rfl, by decide +kernel⟩
theorem ff_X7_23 : h_FF RX7 23 6 3 (.array (.object "HatDownTheStreet$Hat")) := ⟨RX7, TX7, tyX7, rfl, by decide, by decide, tk1_in 93 rfl rfl, uw_X7, tyX7_ok, nmX7, rfl, rfl, by decide +kernel⟩
theorem ff_X7_29 : h_FF RX7 29 6 4 (.array (.object "HatDownTheStreet$Catcher")) := ⟨RX7, TX7, tyX7, rfl, by decide, by decide, tk1_in 95 rfl rfl, uw_X7, tyX7_ok, nmX7, rfl, rfl, by decide +kernel⟩
theorem ff_X8_18 : h_FF RX8 18 7 7 (.array .int) := ⟨RX8, TX8, tyX8, rfl, by decide, by decide, tk1_in 199 rfl rfl, uw_X8, tyX8_ok, nmX8, rfl, rfl, by decide +kernel⟩
theorem ff_X8_22 : h_FF RX8 22 7 8 (.array .int) := ⟨RX8, TX8, tyX8, rfl, by decide, by decide, tk1_in 201 rfl rfl, uw_X8, tyX8_ok, nmX8, rfl, rfl, by decide +kernel⟩
theorem ff_X8_25 : h_FF RX8 25 7 9 (.array .int) := ⟨RX8, TX8, tyX8, rfl, by decide, by decide, tk1_in 202 rfl rfl, uw_X8, tyX8_ok, nmX8, rfl, rfl, by decide +kernel⟩
theorem ff_X8_28 : h_FF RX8 28 7 10 (.array .int) := ⟨RX8, TX8, tyX8, rfl, by decide, by decide, tk1_in 204 rfl rfl, uw_X8, tyX8_ok, nmX8, rfl, rfl, by decide +kernel⟩
theorem ff_X9_12 : h_FF RX9 12 8 0 (.object "HatDownTheStreet$Street") := ⟨RX9, TX9, tyX9, rfl, by decide, by decide, tk2_in 216 rfl rfl, uw_X9, tyX9_ok, nmX9, rfl, rfl, by decide +kernel⟩
theorem ff_X9_16 : h_FF RX9 16 8 1 (.object "HatDownTheStreet$Street") := ⟨RX9, TX9, tyX9, rfl, by decide, by decide, tk2_in 217 rfl rfl, uw_X9, tyX9_ok, nmX9, rfl, rfl, by decide +kernel⟩
theorem ff_X9_25 : h_FF RX9 25 8 3 (.array (.object "HatDownTheStreet$Law")) := ⟨RX9, TX9, tyX9, rfl, by decide, by decide, tk2_in 219 rfl rfl, uw_X9, tyX9_ok, nmX9, rfl, rfl, by decide +kernel⟩
theorem ff_X9_36 : h_FF RX9 36 8 5 (.object "HatDownTheStreet$Reader") := ⟨RX9, TX9, tyX9, rfl, by decide, by decide, tk2_in 221 rfl rfl, uw_X9, tyX9_ok, nmX9, rfl, rfl, by decide +kernel⟩
theorem ff_X9_42 : h_FF RX9 42 8 6 (.array (.object "HatDownTheStreet$Sheet")) := ⟨RX9, TX9, tyX9, rfl, by decide, by decide, tk2_in 222 rfl rfl, uw_X9, tyX9_ok, nmX9, rfl, rfl, by decide +kernel⟩
theorem ff_X9_49 : h_FF RX9 49 8 7 (.object "HatDownTheStreet$Thought") := ⟨RX9, TX9, tyX9, rfl, by decide, by decide, tk2_in 223 rfl rfl, uw_X9, tyX9_ok, nmX9, rfl, rfl, by decide +kernel⟩
theorem ff_X9_56 : h_FF RX9 56 8 8 (.object "HatDownTheStreet$Errand") := ⟨RX9, TX9, tyX9, rfl, by decide, by decide, tk2_in 224 rfl rfl, uw_X9, tyX9_ok, nmX9, rfl, rfl, by decide +kernel⟩
theorem ff_X9_60 : h_FF RX9 60 8 9 (.array .int) := ⟨RX9, TX9, tyX9, rfl, by decide, by decide, tk2_in 225 rfl rfl, uw_X9, tyX9_ok, nmX9, rfl, rfl, by decide +kernel⟩
theorem ff_X10_7 : h_FF RX10 7 9 0 (.array .int) := ⟨RX10, TX10, tyX10, rfl, by decide, by decide, tk5_in 42 rfl rfl, uw_X10, tyX10_ok, nmX10, rfl, rfl, by decide +kernel⟩
theorem ff_X10_13 : h_FF RX10 13 9 1 (.array .int) := ⟨RX10, TX10, tyX10, rfl, by decide, by decide, tk5_in 43 rfl rfl, uw_X10, tyX10_ok, nmX10, rfl, rfl, by decide +kernel⟩
theorem ff_X10_16 : h_FF RX10 16 9 2 (.array .int) := ⟨RX10, TX10, tyX10, rfl, by decide, by decide, tk5_in 44 rfl rfl, uw_X10, tyX10_ok, nmX10, rfl, rfl, by decide +kernel⟩
theorem ff_X10_19 : h_FF RX10 19 9 4 (.array .int) := ⟨RX10, TX10, tyX10, rfl, by decide, by decide, tk5_in 46 rfl rfl, uw_X10, tyX10_ok, nmX10, rfl, rfl, by decide +kernel⟩
theorem ff_X10_22 : h_FF RX10 22 9 5 (.array .int) := ⟨RX10, TX10, tyX10, rfl, by decide, by decide, tk5_in 47 rfl rfl, uw_X10, tyX10_ok, nmX10, rfl, rfl, by decide +kernel⟩
theorem ff_X10_25 : h_FF RX10 25 9 6 (.array .int) := ⟨RX10, TX10, tyX10, rfl, by decide, by decide, tk5_in 48 rfl rfl, uw_X10, tyX10_ok, nmX10, rfl, rfl, by decide +kernel⟩
theorem ff_X10_28 : h_FF RX10 28 9 7 (.array .int) := ⟨RX10, TX10, tyX10, rfl, by decide, by decide, tk5_in 49 rfl rfl, uw_X10, tyX10_ok, nmX10, rfl, rfl, by decide +kernel⟩
theorem ff_X10_31 : h_FF RX10 31 9 9 (.array .int) := ⟨RX10, TX10, tyX10, rfl, by decide, by decide, tk5_in 51 rfl rfl, uw_X10, tyX10_ok, nmX10, rfl, rfl, by decide +kernel⟩
theorem ff_X10_34 : h_FF RX10 34 9 10 (.array .int) := ⟨RX10, TX10, tyX10, rfl, by decide, by decide, tk5_in 52 rfl rfl, uw_X10, tyX10_ok, nmX10, rfl, rfl, by decide +kernel⟩
theorem ff_X10_37 : h_FF RX10 37 9 12 (.array .int) := ⟨RX10, TX10, tyX10, rfl, by decide, by decide, tk5_in 54 rfl rfl, uw_X10, tyX10_ok, nmX10, rfl, rfl, by decide +kernel⟩
theorem ff_X10_40 : h_FF RX10 40 9 13 (.array .int) := ⟨RX10, TX10, tyX10, rfl, by decide, by decide, tk5_in 55 rfl rfl, uw_X10, tyX10_ok, nmX10, rfl, rfl, by decide +kernel⟩
theorem ff_X10_43 : h_FF RX10 43 9 20 (.array .int) := ⟨RX10, TX10, tyX10, rfl, by decide, by decide, tk5_in 62 rfl rfl, uw_X10, tyX10_ok, nmX10, rfl, rfl, by decide +kernel⟩
theorem ff_X10_46 : h_FF RX10 46 9 21 (.array .int) := ⟨RX10, TX10, tyX10, rfl, by decide, by decide, tk5_in 63 rfl rfl, uw_X10, tyX10_ok, nmX10, rfl, rfl, by decide +kernel⟩
theorem ff_X10_49 : h_FF RX10 49 9 22 (.array .int) := ⟨RX10, TX10, tyX10, rfl, by decide, by decide, tk5_in 64 rfl rfl, uw_X10, tyX10_ok, nmX10, rfl, rfl, by decide +kernel⟩
theorem ff_X10_52 : h_FF RX10 52 9 23 (.array .int) := ⟨RX10, TX10, tyX10, rfl, by decide, by decide, tk5_in 65 rfl rfl, uw_X10, tyX10_ok, nmX10, rfl, rfl, by decide +kernel⟩
theorem ff_X10_55 : h_FF RX10 55 9 24 (.array .int) := ⟨RX10, TX10, tyX10, rfl, by decide, by decide, tk5_in 66 rfl rfl, uw_X10, tyX10_ok, nmX10, rfl, rfl, by decide +kernel⟩
theorem ff_X10_58 : h_FF RX10 58 9 29 (.array .int) := ⟨RX10, TX10, tyX10, rfl, by decide, by decide, tk5_in 71 rfl rfl, uw_X10, tyX10_ok, nmX10, rfl, rfl, by decide +kernel⟩
theorem ff_X10_61 : h_FF RX10 61 9 30 (.array .int) := ⟨RX10, TX10, tyX10, rfl, by decide, by decide, tk5_in 72 rfl rfl, uw_X10, tyX10_ok, nmX10, rfl, rfl, by decide +kernel⟩
theorem ff_X10_64 : h_FF RX10 64 9 34 (.array .int) := ⟨RX10, TX10, tyX10, rfl, by decide, by decide, tk5_in 76 rfl rfl, uw_X10, tyX10_ok, nmX10, rfl, rfl, by decide +kernel⟩
theorem ff_X10_67 : h_FF RX10 67 9 35 (.array .int) := ⟨RX10, TX10, tyX10, rfl, by decide, by decide, tk5_in 77 rfl rfl, uw_X10, tyX10_ok, nmX10, rfl, rfl, by decide +kernel⟩
theorem ff_X10_70 : h_FF RX10 70 9 40 (.array .int) := ⟨RX10, TX10, tyX10, rfl, by decide, by decide, tk5_in 82 rfl rfl, uw_X10, tyX10_ok, nmX10, rfl, rfl, by decide +kernel⟩
theorem ff_X10_73 : h_FF RX10 73 9 41 (.array .int) := ⟨RX10, TX10, tyX10, rfl, by decide, by decide, tk5_in 83 rfl rfl, uw_X10, tyX10_ok, nmX10, rfl, rfl, by decide +kernel⟩
theorem ff_X10_76 : h_FF RX10 76 9 42 (.array .int) := ⟨RX10, TX10, tyX10, rfl, by decide, by decide, tk5_in 84 rfl rfl, uw_X10, tyX10_ok, nmX10, rfl, rfl, by decide +kernel⟩
theorem ff_X10_79 : h_FF RX10 79 9 43 (.array .int) := ⟨RX10, TX10, tyX10, rfl, by decide, by decide, tk5_in 85 rfl rfl, uw_X10, tyX10_ok, nmX10, rfl, rfl, by decide +kernel⟩
theorem ff_X10_82 : h_FF RX10 82 9 44 (.array .int) := ⟨RX10, TX10, tyX10, rfl, by decide, by decide, tk5_in 86 rfl rfl, uw_X10, tyX10_ok, nmX10, rfl, rfl, by decide +kernel⟩
/-- x's references so far: cells under n are ready, p fields of the object itself, t texts, s sheets -/
def rfT (n p t s : Nat) : Nat → Nat → Nat := fun a j => if a = 0 then (if j < p then hYx_rf 0 j else 0) else if a = 29 then (if j < t then hYx_rf 29 j else 0) else if a = 39 then (if j < s then hYx_rf 39 j else 0) else if a < n then hYx_rf a j else 0
def rfM (n : Nat) : Nat → Nat → Nat := fun a j => if a = 0 then (if hYm_rf 0 j < n then hYm_rf 0 j else 0) else 0
def cM0 : hMem := fun _ _ => 0
theorem cM0_z : MZ 0 cM0 := fun _ _ _ => rfl
