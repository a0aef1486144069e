/-! THE LAW'S LOOP -/
theorem and63 (v : Int32) : ∃ n, n < 64 ∧ v &&& 63 = nI n := by
  refine ⟨(v &&& 63).toBitVec.toNat, ?_, ?_⟩
  · have e : (v &&& 63).toBitVec = v.toBitVec &&& 63#32 := rfl
    rw [e, BitVec.toNat_and]
    exact Nat.lt_of_le_of_lt Nat.and_le_right (by decide)
  · apply Int32.toBitVec_inj.mp
    show (v &&& 63).toBitVec = BitVec.ofNat 32 (v &&& 63).toBitVec.toNat
    rw [BitVec.ofNat_toNat, BitVec.setWidth_eq]
theorem l_more {i L0 : Nat} (hL : L0 ≤ 3584) (hi : i ≤ 4000) (h : ¬ nI L0 - 7 < nI i) : i + 7 ≤ L0 := by
  have e := pk_sub_toInt (a := L0) (b := 7) (by omega) (by decide)
  rw [Int32.lt_iff_toInt_lt, show (7 : Int32) = nI 7 from rfl, e, nI_toInt (by omega)] at h
  omega
set_option maxRecDepth 20000 in
set_option maxHeartbeats 4000000 in
theorem l_turn {Z : hZ} {Q : State → Prop} {cs ss L0 sb i : Nat} {xs : Nat → Int32} {X M : hMem} (hz : cOK Z cL_law RL 4 100 600000 7302250 0 ret) (hX : va_X sb L0 xs (h_s Z) (h_s Z).heap) (hbl : sb < (h_s Z).heap.size) (hL : L0 ≤ 3584) (hi7 : i + 7 ≤ L0) (hcs : cs ≤ 600000) (hss : ss ≤ 7302250) (R : RR X M) (kk : ∀ X' M' : hMem, RR X' M' → hB Z Q (cW Z X' M') cs ss 2111 [(3, .int (nI i)), (2, .ref (h_b Z + 88 + 0)), (1, .ref (h_b Z + 0)), (0, .ref sb)] []) : hB Z Q (cW Z X M) cs ss 27 [(3, .int (nI i)), (2, .ref (h_b Z + 88 + 0)), (1, .ref (h_b Z + 0)), (0, .ref sb)] [] := by
  refine v_aload_n hz.1 dL_law_27 rfl 3 rfl ?_
  refine v_iload_n hz.1 dL_law_28 rfl 0 rfl ?_
  refine l_sld hz hX hbl (by have h := l_in hi7 hL (k := 0) (by decide); rw [nI_add] at h; exact h) dL_law_29 ?_
  refine v_bipush hz.1 63 dL_law_30 rfl ?_
  refine v_iand hz.1 dL_law_32 ?_
  obtain ⟨n, hn, e⟩ := and63 (xs (nI i).toNatClampNeg)
  rw [e]
  by_cases h50 : n < 50
  · have key : ∀ n, n < 50 → hB Z Q (cW Z X M) cs ss 33 [(3, .int (nI i)), (2, .ref (h_b Z + 88 + 0)), (1, .ref (h_b Z + 0)), (0, .ref sb)] [.int (nI n)] := by
      intro n hn
      match n, hn with
      | 0, _ => exact v_tabIn hz.1 dL_law_33 0 (by decide) (by decide) (by decide) (off := 215) rfl rfl (l_0 hz hX hbl hL hi7 hcs hss R kk)
      | 1, _ => exact v_tabIn hz.1 dL_law_33 1 (by decide) (by decide) (by decide) (off := 258) rfl rfl (l_1 hz hX hbl hL hi7 hcs hss R kk)
      | 2, _ => exact v_tabIn hz.1 dL_law_33 2 (by decide) (by decide) (by decide) (off := 301) rfl rfl (l_2 hz hX hbl hL hi7 hcs hss R kk)
      | 3, _ => exact v_tabIn hz.1 dL_law_33 3 (by decide) (by decide) (by decide) (off := 324) rfl rfl (l_3 hz hX hbl hL hi7 hcs hss R kk)
      | 4, _ => exact v_tabIn hz.1 dL_law_33 4 (by decide) (by decide) (by decide) (off := 347) rfl rfl (l_4 hz hX hbl hL hi7 hcs hss R kk)
      | 5, _ => exact v_tabIn hz.1 dL_law_33 5 (by decide) (by decide) (by decide) (off := 422) rfl rfl (l_5 hz hX hbl hL hi7 hcs hss R kk)
      | 6, _ => exact v_tabIn hz.1 dL_law_33 6 (by decide) (by decide) (by decide) (off := 435) rfl rfl (l_6 hz hX hbl hL hi7 hcs hss R kk)
      | 7, _ => exact v_tabIn hz.1 dL_law_33 7 (by decide) (by decide) (by decide) (off := 458) rfl rfl (l_7 hz hX hbl hL hi7 hcs hss R kk)
      | 8, _ => exact v_tabIn hz.1 dL_law_33 8 (by decide) (by decide) (by decide) (off := 521) rfl rfl (l_8 hz hX hbl hL hi7 hcs hss R kk)
      | 9, _ => exact v_tabIn hz.1 dL_law_33 9 (by decide) (by decide) (by decide) (off := 564) rfl rfl (l_9 hz hX hbl hL hi7 hcs hss R kk)
      | 10, _ => exact v_tabIn hz.1 dL_law_33 10 (by decide) (by decide) (by decide) (off := 607) rfl rfl (l_10 hz hX hbl hL hi7 hcs hss R kk)
      | 11, _ => exact v_tabIn hz.1 dL_law_33 11 (by decide) (by decide) (by decide) (off := 640) rfl rfl (l_11 hz hX hbl hL hi7 hcs hss R kk)
      | 12, _ => exact v_tabIn hz.1 dL_law_33 12 (by decide) (by decide) (by decide) (off := 683) rfl rfl (l_12 hz hX hbl hL hi7 hcs hss R kk)
      | 13, _ => exact v_tabIn hz.1 dL_law_33 13 (by decide) (by decide) (by decide) (off := 726) rfl rfl (l_13 hz hX hbl hL hi7 hcs hss R kk)
      | 14, _ => exact v_tabIn hz.1 dL_law_33 14 (by decide) (by decide) (by decide) (off := 769) rfl rfl (l_14 hz hX hbl hL hi7 hcs hss R kk)
      | 15, _ => exact v_tabIn hz.1 dL_law_33 15 (by decide) (by decide) (by decide) (off := 792) rfl rfl (l_15 hz hX hbl hL hi7 hcs hss R kk)
      | 16, _ => exact v_tabIn hz.1 dL_law_33 16 (by decide) (by decide) (by decide) (off := 825) rfl rfl (l_16 hz hX hbl hL hi7 hcs hss R kk)
      | 17, _ => exact v_tabIn hz.1 dL_law_33 17 (by decide) (by decide) (by decide) (off := 858) rfl rfl (l_17 hz hX hbl hL hi7 hcs hss R kk)
      | 18, _ => exact v_tabIn hz.1 dL_law_33 18 (by decide) (by decide) (by decide) (off := 881) rfl rfl (l_18 hz hX hbl hL hi7 hcs hss R kk)
      | 19, _ => exact v_tabIn hz.1 dL_law_33 19 (by decide) (by decide) (by decide) (off := 914) rfl rfl (l_19 hz hX hbl hL hi7 hcs hss R kk)
      | 20, _ => exact v_tabIn hz.1 dL_law_33 20 (by decide) (by decide) (by decide) (off := 957) rfl rfl (l_20 hz hX hbl hL hi7 hcs hss R kk)
      | 21, _ => exact v_tabIn hz.1 dL_law_33 21 (by decide) (by decide) (by decide) (off := 1000) rfl rfl (l_21 hz hX hbl hL hi7 hcs hss R kk)
      | 22, _ => exact v_tabIn hz.1 dL_law_33 22 (by decide) (by decide) (by decide) (off := 1033) rfl rfl (l_22 hz hX hbl hL hi7 hcs hss R kk)
      | 23, _ => exact v_tabIn hz.1 dL_law_33 23 (by decide) (by decide) (by decide) (off := 1066) rfl rfl (l_23 hz hX hbl hL hi7 hcs hss R kk)
      | 24, _ => exact v_tabIn hz.1 dL_law_33 24 (by decide) (by decide) (by decide) (off := 1109) rfl rfl (l_24 hz hX hbl hL hi7 hcs hss R kk)
      | 25, _ => exact v_tabIn hz.1 dL_law_33 25 (by decide) (by decide) (by decide) (off := 1142) rfl rfl (l_25 hz hX hbl hL hi7 hcs hss R kk)
      | 26, _ => exact v_tabIn hz.1 dL_law_33 26 (by decide) (by decide) (by decide) (off := 1185) rfl rfl (l_26 hz hX hbl hL hi7 hcs hss R kk)
      | 27, _ => exact v_tabIn hz.1 dL_law_33 27 (by decide) (by decide) (by decide) (off := 1218) rfl rfl (l_27 hz hX hbl hL hi7 hcs hss R kk)
      | 28, _ => exact v_tabIn hz.1 dL_law_33 28 (by decide) (by decide) (by decide) (off := 1251) rfl rfl (l_28 hz hX hbl hL hi7 hcs hss R kk)
      | 29, _ => exact v_tabIn hz.1 dL_law_33 29 (by decide) (by decide) (by decide) (off := 1284) rfl rfl (l_29 hz hX hbl hL hi7 hcs hss R kk)
      | 30, _ => exact v_tabIn hz.1 dL_law_33 30 (by decide) (by decide) (by decide) (off := 1317) rfl rfl (l_30 hz hX hbl hL hi7 hcs hss R kk)
      | 31, _ => exact v_tabIn hz.1 dL_law_33 31 (by decide) (by decide) (by decide) (off := 1360) rfl rfl (l_31 hz hX hbl hL hi7 hcs hss R kk)
      | 32, _ => exact v_tabIn hz.1 dL_law_33 32 (by decide) (by decide) (by decide) (off := 1383) rfl rfl (l_32 hz hX hbl hL hi7 hcs hss R kk)
      | 33, _ => exact v_tabIn hz.1 dL_law_33 33 (by decide) (by decide) (by decide) (off := 1426) rfl rfl (l_33 hz hX hbl hL hi7 hcs hss R kk)
      | 34, _ => exact v_tabIn hz.1 dL_law_33 34 (by decide) (by decide) (by decide) (off := 1469) rfl rfl (l_34 hz hX hbl hL hi7 hcs hss R kk)
      | 35, _ => exact v_tabIn hz.1 dL_law_33 35 (by decide) (by decide) (by decide) (off := 1512) rfl rfl (l_35 hz hX hbl hL hi7 hcs hss R kk)
      | 36, _ => exact v_tabIn hz.1 dL_law_33 36 (by decide) (by decide) (by decide) (off := 1545) rfl rfl (l_36 hz hX hbl hL hi7 hcs hss R kk)
      | 37, _ => exact v_tabIn hz.1 dL_law_33 37 (by decide) (by decide) (by decide) (off := 1568) rfl rfl (l_37 hz hX hbl hL hi7 hcs hss R kk)
      | 38, _ => exact v_tabIn hz.1 dL_law_33 38 (by decide) (by decide) (by decide) (off := 1601) rfl rfl (l_38 hz hX hbl hL hi7 hcs hss R kk)
      | 39, _ => exact v_tabIn hz.1 dL_law_33 39 (by decide) (by decide) (by decide) (off := 1644) rfl rfl (l_39 hz hX hbl hL hi7 hcs hss R kk)
      | 40, _ => exact v_tabIn hz.1 dL_law_33 40 (by decide) (by decide) (by decide) (off := 1677) rfl rfl (l_40 hz hX hbl hL hi7 hcs hss R kk)
      | 41, _ => exact v_tabIn hz.1 dL_law_33 41 (by decide) (by decide) (by decide) (off := 1720) rfl rfl (l_41 hz hX hbl hL hi7 hcs hss R kk)
      | 42, _ => exact v_tabIn hz.1 dL_law_33 42 (by decide) (by decide) (by decide) (off := 1763) rfl rfl (l_42 hz hX hbl hL hi7 hcs hss R kk)
      | 43, _ => exact v_tabIn hz.1 dL_law_33 43 (by decide) (by decide) (by decide) (off := 1817) rfl rfl (l_43 hz hX hbl hL hi7 hcs hss R kk)
      | 44, _ => exact v_tabIn hz.1 dL_law_33 44 (by decide) (by decide) (by decide) (off := 1830) rfl rfl (l_44 hz hX hbl hL hi7 hcs hss R kk)
      | 45, _ => exact v_tabIn hz.1 dL_law_33 45 (by decide) (by decide) (by decide) (off := 1843) rfl rfl (l_45 hz hX hbl hL hi7 hcs hss R kk)
      | 46, _ => exact v_tabIn hz.1 dL_law_33 46 (by decide) (by decide) (by decide) (off := 1886) rfl rfl (l_46 hz hX hbl hL hi7 hcs hss R kk)
      | 47, _ => exact v_tabIn hz.1 dL_law_33 47 (by decide) (by decide) (by decide) (off := 1929) rfl rfl (l_47 hz hX hbl hL hi7 hcs hss R kk)
      | 48, _ => exact v_tabIn hz.1 dL_law_33 48 (by decide) (by decide) (by decide) (off := 1992) rfl rfl (l_48 hz hX hbl hL hi7 hcs hss R kk)
      | 49, _ => exact v_tabIn hz.1 dL_law_33 49 (by decide) (by decide) (by decide) (off := 2045) rfl rfl (l_49 hz hX hbl hL hi7 hcs hss R kk)
      | n + 50, h => omega
    exact key n h50
  · refine v_tabOut hz.1 dL_law_33 (tgt := 2111) (Or.inr ?_) rfl (kk X M R)
    rw [nI_toInt (by omega)]
    omega
set_option maxRecDepth 20000 in
set_option maxHeartbeats 4000000 in
theorem l_loop {Z : hZ} {Q : State → Prop} {cs ss L0 sb : Nat} {xs : Nat → Int32} (hz : cOK Z cL_law RL 4 100 600000 7302250 0 ret) (hX : va_X sb L0 xs (h_s Z) (h_s Z).heap) (hbl : sb < (h_s Z).heap.size) (hL : L0 ≤ 3584) (hcs : cs ≤ 600000) (hss : ss ≤ 7302250) (kend : ∀ (X M : hMem) (i : Nat), hB Z Q (cW Z X M) cs ss 2117 [(3, .int (nI i)), (2, .ref (h_b Z + 88 + 0)), (1, .ref (h_b Z + 0)), (0, .ref sb)] []) : ∀ (n i : Nat) (X M : hMem), i ≤ 4000 → L0 < i + 7 * n + 7 → RR X M → hB Z Q (cW Z X M) cs ss 18 [(3, .int (nI i)), (2, .ref (h_b Z + 88 + 0)), (1, .ref (h_b Z + 0)), (0, .ref sb)] [] := by
  intro n
  induction n with
  | zero =>
    intro i X M hi hn R
    refine v_iload_n hz.1 dL_law_18 rfl 0 rfl ?_
    refine v_aload_n hz.1 dL_law_19 rfl 3 rfl ?_
    refine l_slen hz hX hbl dL_law_20 ?_
    refine v_bipush hz.1 7 dL_law_21 rfl ?_
    refine v_isub hz.1 dL_law_23 ?_
    exact v_icmp_gt hz.1 dL_law_24 (fun _ => kend X M i) (fun h => absurd (l_more hL hi h) (by omega))
  | succ n ih =>
    intro i X M hi hn R
    refine v_iload_n hz.1 dL_law_18 rfl 0 rfl ?_
    refine v_aload_n hz.1 dL_law_19 rfl 3 rfl ?_
    refine l_slen hz hX hbl dL_law_20 ?_
    refine v_bipush hz.1 7 dL_law_21 rfl ?_
    refine v_isub hz.1 dL_law_23 ?_
    refine v_icmp_gt hz.1 dL_law_24 (fun _ => kend X M i) (fun h => ?_)
    have h7 := l_more hL hi h
    refine l_turn hz hX hbl hL h7 hcs hss R (fun X' M' R' => ?_)
    refine v_iinc hz.1 (nI (i + 7)) [(3, .int (nI (i + 7))), (2, .ref (h_b Z + 88 + 0)), (1, .ref (h_b Z + 0)), (0, .ref sb)] dL_law_2111 0 rfl (nI_add i 7) rfl rfl ?_
    refine v_goto hz.1 dL_law_2114 ?_
    exact ih (i + 7) X' M' (by omega) (by omega) R'
theorem cF.mono {dd : hDD} {b b' : Nat} {U : State} (h : cF dd b U) (hb : b ≤ b') : cF dd b' U := by
  obtain ⟨hK, hN, hE, hT, hA, h2⟩ := h
  exact ⟨hK, hN, hE.narrow (fun q hq => Nat.le_trans hb hq), hT, hA, h2⟩
set_option maxRecDepth 20000 in
set_option maxHeartbeats 4000000 in
/-- the second system beside the first -/
theorem l_newM {Z : hZ} {Q : State → Prop} {sb : Nat} {X0 M1 : hMem} {v1 : Int32} (hz : cOK Z cL_law RL 4 100 600000 7302250 0 ret) (r2 : fX10_text (h_up (MAi MMo 9 WM16 45) 0 11 45) = some (v1, M1)) (kk : hB Z Q (cW Z X0 M1) 114 5488 16 [(2, .ref (h_b Z + 88 + 0)), (1, .ref (h_b Z + 0)), (0, .ref sb)] []) : hB Z Q (cI Z (hYx.1, hYx_rf, 88) X0) 88 2978 8 [(1, .ref (h_b Z + 0)), (0, .ref sb)] [] := by
  intro H locs ls hI hl
  refine c_sz (N := 88) hz rfl hI (Or.inl (by decide)) (fun hsz => ?_)
  have hz0 := hz
  obtain ⟨⟨hx, hb, hml, hr0, hown, hts, hlk, hR, hnL⟩, hF, hmc, hms, hs0⟩ := hz
  have hKn := hF.1.1 9 _ rfl
  refine W.newcK hx hb hown (hts _ cl_L_10) (hts _ it_X10) (hts _ ii_X10) rfl dL_law_8.1 (by rw [hmc]; decide) (by rw [hms]; decide) hKn.2.1 hsz fun H1 kC hkC e1 z1 o1 => ?_
  have hxw : va_P (h_d Z).1 vwCl (h_pw hYx (h_d Z).2.1 (h_b Z) X0) H1 := pw_keep hI.1 (fun q hq hlt => o1 q hq.2)
  have hS1 : va_S (fun q => h_b Z ≤ q) (h_s Z).heap H1 locs := ⟨Nat.le_trans hI.2.1 (by omega), fun q h1 h2 => by rw [o1 q (by have : q < (h_s Z).heap.size := h1; have := hI.2.1; omega)]; exact hI.2.2.1 q h1 h2, hI.2.2.2⟩
  have hm : va_P (h_d Z).1 vwCl (h_pw (hYm.1, rfM 1, 1) (h_d Z).2.1 (h_b Z + 88) cM0) H1 := by
    have e : h_pw (hYm.1, rfM 1, 1) (h_d Z).2.1 (h_b Z + 88) cM0 = [(h_b Z + 88 + 0, h_cell (hYm.1, rfM 1, 1) (h_d Z).2.1 (h_b Z + 88) cM0 0)] := rfl
    rw [e]
    refine va_P.one ?_
    rw [h_cell_obj (Y := (hYm.1, rfM 1, 1)) (t := 9) rfl (by decide)]
    refine ⟨_, rfl, (u_born tyX10 hts uw_X10 hKn hkC e1 tyX10_ok).to (fun j hj => ?_)⟩
    rw [df_X10 j hj]
    show _ = ((List.range (h_nf 9)).map (fun j => h_val (h_b Z + 88) (rfM 1) 9 0 j (cM0 0 j))).getD j .null
    have hj' : j < h_nf 9 := hj
    rw [List.getD_eq_getElem?_getD, List.getElem?_map, List.getElem?_range hj']
    show _ = h_val (h_b Z + 88) (rfM 1) 9 0 j (cM0 0 j)
    unfold h_val
    have hr : rfM 1 0 j = 0 := by
      unfold rfM
      rw [if_pos rfl]
      by_cases h : hYm_rf 0 j < 1
      · rw [if_pos h]; omega
      · rw [if_neg h]
    rw [hr, show cM0 0 j = 0 from rfl]
    by_cases e0 : h_kd 9 j = 0
    · rw [if_pos e0, if_pos e0]
    · rw [if_neg e0, if_neg e0]
      by_cases e1 : h_kd 9 j = 1
      · rw [if_pos e1, if_pos rfl]
      · rw [if_neg e1, if_pos rfl]
  obtain ⟨⟨m1, m2, m3, m4⟩, m5, m6, m7⟩ := mi_L_12
  have hc : cC (h_l Z) (h_d Z) (h_b Z + 88) yX10_init cX10_init 2 99 0 (hYm.1, rfM 1, 1) cM0 hYm M1 25 2465 := c_X10 r2
  refine lv_dup hx hb dL_law_11.1 rfl ?_
  have hrun := va_runI (p := Z.2.1.1) (l := Z.2.1.2.1) (e := Z.2.1.2.2.1) (R := Z.2.1.2.2.2.1) (s := h_s Z) (m := Z.2.2.1.1) (args := Z.2.2.1.2.1) (below := Z.2.2.1.2.2.1) (meth := Z.2.2.1.2.2.2.1) (c := Z.2.2.1.2.2.2.2) (H := H1) (locs := locs) (cells := 88 + 1) (slots := 2978 + h_nf 9) (g := F0 Z.2.2.1.1 12 ls (.ref (h_b Z + 88) :: .ref (h_b Z + 88) :: [])) (b := h_b Z + 88) (As := []) (rest := [.ref (h_b Z + 88)]) (cc := cL_law) (nL := Z.2.2.2) (Ts := h_tbl) ⟨hx, hb, hml, hown, hts⟩ hc ⟨callB_of 0 hts (h_goodT m1) rfl rfl rfl (hts _ m2) (hts _ m5) m3 (c_fit (d := 100) rfl m4 hR), m6, hts _ m7⟩ ⟨cSt_blind _ _ _ _ _, fun U hU hW => ⟨rfl, by rw [hU]; exact hm, (hF.at hS1 hU hW).mono (by omega), by rw [hU]; exact z1⟩⟩ rfl rfl hl.1 rfl (lv_room (Nat.le_of_ble_eq_true rfl)) dL_law_12.1 ⟨by rw [hmc]; decide, by rw [hms]; decide⟩
  intro T hT Xs
  obtain ⟨w, st₀, t, T', L', h0, X', hL', e1', e2', ⟨hv, hp, hzz, hk⟩, sx⟩ := hrun T hT Xs
  cases hv
  rw [h0] at hzz hk
  rw [← e1'] at hp hzz hk
  have hcw : cW Z X0 M1 T'.heap (locs ++ L') := ⟨pw_keep hxw (fun q hq hlt => hk q hlt (fun h => by have a1 : q < h_b Z + 88 := hq.2; have a2 : h_b Z + 88 ≤ q := h; omega)), hp, Nat.le_trans hS1.1 hzz, fun q h1 h2 => by rw [hk q (Nat.lt_of_lt_of_le h1 hS1.1) (fun h => h2 (Nat.le_trans (Nat.le_add_right _ _) h))]; exact hS1.2.1 q h1 h2, fun q hq => by
      rcases List.mem_append.mp hq with h | h
      · exact hS1.2.2 q h
      · exact Nat.le_trans (Nat.le_add_right _ _) (hL' q h)⟩
  have kk2 : hB Z Q (cW Z X0 M1) 114 5488 15 [(1, .ref (h_b Z + 0)), (0, .ref sb)] [.ref (h_b Z + 88)] := v_astore_n hz0.1 [(2, .ref (h_b Z + 88 + 0)), (1, .ref (h_b Z + 0)), (0, .ref sb)] dL_law_15 rfl rfl rfl kk
  obtain ⟨t2, a1, b1⟩ := kk2 T'.heap (locs ++ L') ls hcw hl T' rfl X'
  exact ⟨t2, sx t2 a1, b1⟩
