/-! TAILS of both outer constructors -/
section CTail
variable {Z : hZ} {cc : ByteArray} {own : String} {nL d mc ms N0 : Nat} {ret : Option FieldType} {Q : State → Prop} {cs ss pc pc' : Nat} {L : List (Nat × Value)} {st : List Value} {M : hMem}
theorem c_afterC {Y : hLay} {M' : hMem} {v : Option Value} {H : Heap} {locs : List Loc} {ls : Array Slot} {rest : List Value}
    (hr : va_Run Z.2.1.1 Z.2.1.2.1 Z.2.1.2.2.1 Z.2.1.2.2.2.1 Z.2.1.2.2.2.2 Z.2.2.1.1 Z.2.2.1.2.1 Z.2.2.1.2.2.1 Z.2.2.1.2.2.2.1 Z.2.2.1.2.2.2.2 H locs cs ss 0 0 (F0 Z.2.2.1.1 pc ls st) rest (fun a => h_Q Y (h_d Z) (h_b Z) (v, M') #[] a) (h_A (h_b Z) Y))
    (hS : va_S (fun q => h_b Z ≤ q) (h_s Z).heap H locs)
    (kk : ∀ (H1 : Heap) (locs1 : List Loc), cI Z Y M' H1 locs1 → W Z.2.1.1 Z.2.1.2.1 Z.2.1.2.2.1 Z.2.1.2.2.2.1 Z.2.1.2.2.2.2 Z.2.2.1.1 Z.2.2.1.2.1 Z.2.2.1.2.2.1 Z.2.2.1.2.2.2.1 Z.2.2.1.2.2.2.2 H1 locs1 cs ss Q (F0 Z.2.2.1.1 (pc + 3) ls (v.toList ++ rest))) : W Z.2.1.1 Z.2.1.2.1 Z.2.1.2.2.1 Z.2.1.2.2.2.1 Z.2.1.2.2.2.2 Z.2.2.1.1 Z.2.2.1.2.1 Z.2.2.1.2.2.1 Z.2.2.1.2.2.2.1 Z.2.2.1.2.2.2.2 H locs cs ss Q (F0 Z.2.2.1.1 pc ls st) := by
  intro T hT X
  obtain ⟨w, st₀, t, T', L', h0, X', hL, e1, e2, ⟨hv, hp, hz, hk⟩, sx⟩ := hr T hT X
  cases hv
  rw [h0] at hz hk
  obtain ⟨t2, a1, b1⟩ := kk T'.heap (locs ++ L') ⟨by rw [e1]; exact hp, Nat.le_trans hS.1 (by rw [e1]; exact hz), fun q h1 h2 => by rw [e1, hk q (Nat.lt_of_lt_of_le h1 hS.1) (fun h => h2 h.1)]; exact hS.2.1 q h1 h2, fun q hq => by
      rcases List.mem_append.mp hq with h | h
      · exact hS.2.2 q h
      · exact (hL q h).1⟩ T' rfl X'
  exact ⟨t2, sx t2 a1, b1⟩
theorem c_St {Y : hLay} (hF : cF (h_d Z) (h_b Z) (h_s Z)) {H : Heap} {locs : List Loc} (hI : cI Z Y M H locs) : ∀ U : State, U.heap = H → (h_s Z).WarmedH U.vm → h_St Y (h_d Z) (h_b Z) M U := fun U hU hW => by
  obtain ⟨qK, qN, qE, qT, -⟩ := hF.at hI.2 hU hW
  exact ⟨by rw [hU]; exact hI.1, qK, qN, qE.narrow (fun q h => h.1), qT⟩
theorem c_callV {Y : hLay} (hz : cOK Z cc own nL d mc ms N0 ret) {y : MethodName} {bytes : ByteArray} {maxL idx np dc k0 ci n0 : Nat} {ry : Option FieldType} {r0 : vw_C} {av rest : List Value} {v : Option Value} {M' : hMem} (mv : h_MV own idx y bytes maxL ry np) (hs : h_is Y k0 ci n0) (hci : ci < 10) (hcl : vwCl[ci]? = some r0) (hyc : y.cls = r0.1) (hc : hC (h_l Z) Y (h_d Z) (h_b Z) y bytes maxL ry dc (.ref (h_b Z + k0) :: av) M (v, M')) (hdd : dc + 1 = d) (hst : st = av.reverse ++ .ref (h_b Z + k0) :: rest) (hn : av.length = np) (hw : (rest.map fun v => v.category).sum ≤ 8) (hd : hD cc pc (.invokevirtual idx) 3 pc') (hcs : cs ≤ mc) (hss : ss ≤ ms) (k : hB Z Q (cI Z Y M') cs ss pc' L (v.toList ++ rest)) : hB Z Q (cI Z Y M) cs ss pc L st := by
  obtain ⟨hd, rfl⟩ := hd
  obtain ⟨⟨hx, hb, hml, hr0, hown, hts, hlk, hR, hnL⟩, hF, hmc, hms, -⟩ := hz
  obtain ⟨⟨m1, m2, m3, m4⟩, m5, m6, m7⟩ := mv
  intro H locs ls hI hl
  refine c_afterC (v := v) (M' := M') (va_runV (As := av) (rest := rest) (cc := cc) (nL := Z.2.2.2) (Ts := h_tbl) (C := y.cls) ⟨hx, hb, hml, hown, hts⟩ hc ⟨callB_of np hts (h_goodT m1) rfl rfl rfl (hts _ m2) (hts _ m5) m3 (h_fit (maxL := maxL) hdd m4 hR), hts _ m6, hts _ m7⟩ ⟨h_St_blind _ _ _ _ _, by rw [hyc]; exact va_recv hF.1 hI.1 hcl (h_objAt hs hci), fun U hU hW => ⟨rfl, c_St hF hI U hU hW⟩⟩ rfl hn hl.1 hst (lv_room hw) hd ⟨by rw [hmc]; exact hcs, by rw [hms]; exact hss⟩) hI.2 (fun H1 locs1 hI1 => k H1 locs1 ls hI1 hl)
theorem c_callT {Y : hLay} (hz : cOK Z cc own nL d mc ms N0 ret) {y : MethodName} {bytes : ByteArray} {maxL idx np dc w : Nat} {ry : Option FieldType} {av rest : List Value} {v : Option Value} {M' : hMem} (hw13 : w < 13) (mv : h_MV own idx y bytes maxL ry np) (hyc : y.cls = "java/lang/String") (hc : hC (h_l Z) Y (h_d Z) (h_b Z) y bytes maxL ry dc (.ref ((h_d Z).2.2.2.1 w) :: av) M (v, M')) (hdd : dc + 1 = d) (hst : st = av.reverse ++ .ref ((h_d Z).2.2.2.1 w) :: rest) (hn : av.length = np) (hw : (rest.map fun v => v.category).sum ≤ 8) (hd : hD cc pc (.invokevirtual idx) 3 pc') (hcs : cs ≤ mc) (hss : ss ≤ ms) (k : hB Z Q (cI Z Y M') cs ss pc' L (v.toList ++ rest)) : hB Z Q (cI Z Y M) cs ss pc L st := by
  obtain ⟨hd, rfl⟩ := hd
  obtain ⟨⟨hx, hb, hml, hr0, hown, hts, hlk, hR, hnL⟩, hF, hmc, hms, -⟩ := hz
  obtain ⟨⟨m1, m2, m3, m4⟩, m5, m6, m7⟩ := mv
  intro H locs ls hI hl
  refine c_afterC (v := v) (M' := M') (va_runV (As := av) (rest := rest) (cc := cc) (nL := Z.2.2.2) (Ts := h_tbl) (C := y.cls) ⟨hx, hb, hml, hown, hts⟩ hc ⟨callB_of np hts (h_goodT m1) rfl rfl rfl (hts _ m2) (hts _ m5) m3 (h_fit (maxL := maxL) hdd m4 hR), hts _ m6, hts _ m7⟩ ⟨h_St_blind _ _ _ _ _, by rw [hyc]; exact vk_recv hF.2.2.1.2.2.1 hw13 hI.2, fun U hU hW => ⟨rfl, c_St hF hI U hU hW⟩⟩ rfl hn hl.1 hst (lv_room hw) hd ⟨by rw [hmc]; exact hcs, by rw [hms]; exact hss⟩) hI.2 (fun H1 locs1 hI1 => k H1 locs1 ls hI1 hl)
theorem c_ldcs {I : Heap → List Loc → Prop} (hz : cOK Z cc own nL d mc ms N0 ret) (i : Nat) {index : Nat} {tx : String} (hd : hD cc pc (.ldc index) 2 pc') (hi : h_txts[i]? = some (own, index, tx)) (kk : hB Z Q I cs ss pc' L (.ref ((h_d Z).2.2.2.1 i) :: st)) : hB Z Q I cs ss pc L st := by
  obtain ⟨hd, rfl⟩ := hd
  obtain ⟨⟨hx, hb, hml, hr0, hown, hts, hlk, hR, hnL⟩, hF, hmc, hms, -⟩ := hz
  intro H locs ls hI hl
  exact va_ldcS hx hb hown (hF.2.2.2.1 i _ hi) hd (kk H locs ls hI hl)
theorem c_aald {S : Nat → Nat × Nat} {rf : Nat → Nat → Nat} {N : Nat} (hz : cOK Z cc own nL d mc ms N0 ret) {k t n q : Nat} {i : Int32} {C : String} (p : Nat) (hp : ∀ cy, (h_tys cy)[p]? = some (cy t, .object C)) (hs : h_is (S, rf, N) k t n) (ht : 10 < t) (hi : h_ib i n) (hq : rf k i.toNatClampNeg = q) (h0 : q ≠ 0) (hd : hD cc pc .aaload 1 pc') (kk : hB Z Q (cI Z (S, rf, N) M) cs ss pc' L (.ref (h_b Z + q) :: st)) : hB Z Q (cI Z (S, rf, N) M) cs ss pc L (.int i :: .ref (h_b Z + k) :: st) := by
  obtain ⟨hd, rfl⟩ := hd
  obtain ⟨⟨hx, hb, hml, hr0, hown, hts, hlk, hR, hnL⟩, hF, hmc, hms, -⟩ := hz
  subst hq
  intro H locs ls hI hl
  refine va_aldq (D := (h_d Z).1) (cl := vwCl) hx hb hF.1 hI.1 k p (h_refAt hs ht) (hp _) hi.vp hd ?_
  rw [if_neg h0]
  exact kk H locs ls hI hl
end CTail
/-- x's tape while its constructor fills it -/
def PX (M : hMem) (i : Nat) : hMem := fun a => if a = 30 then (fun j => if j = 0 then nI i else M 30 j) else if a = 31 then (fun j => if j < i then h_sch 0 j else M 31 j) else M a
theorem PX_0 {M : hMem} (h : M 30 0 = 0) : PX M 0 = M := by
  funext a j
  unfold PX
  by_cases e : a = 30
  · subst e
    rw [if_pos rfl]
    show (if j = 0 then nI 0 else M 30 j) = _
    by_cases e2 : j = 0
    · subst e2; rw [if_pos rfl, h]; rfl
    · rw [if_neg e2]
  · rw [if_neg e]
    by_cases e2 : a = 31
    · subst e2; rw [if_pos rfl]; rfl
    · rw [if_neg e2]
theorem PX_s (M : hMem) {i : Nat} (hi : i < 45) : fX5_put (h_sch 0 i) (PX M i) = some (PX M (i + 1)) := by
  have e30 : PX M i 30 0 = nI i := rfl
  unfold fX5_put
  rw [e30, if_neg (show ¬ (160 : Int32) ≤ nI i from nI_ge (b := 160) (by omega) (by decide)), if_pos ⟨nI_pos' (by omega), by rw [nI_clamp (by omega)]; omega⟩, nI_clamp (by omega)]
  refine congrArg some ?_
  have e31 : h_up (PX M i) 31 i (h_sch 0 i) 30 0 = nI i := by rw [h_up_row _ 31 i _ (by decide)]; rfl
  rw [e31, nI_1]
  funext a j
  by_cases e : a = 30
  · subst e
    by_cases e2 : j = 0
    · subst e2; rw [h_up_same]; rfl
    · rw [h_up_slot _ 30 0 _ 30 e2, h_up_row _ 31 i _ (by decide)]
      show (if j = 0 then nI i else M 30 j) = (if j = 0 then nI (i + 1) else M 30 j)
      rw [if_neg e2, if_neg e2]
  · rw [h_up_row _ 30 0 _ e]
    by_cases e2 : a = 31
    · subst e2
      by_cases e3 : j = i
      · subst e3
        rw [h_up_same]
        show _ = (if j < j + 1 then h_sch 0 j else M 31 j)
        rw [if_pos (Nat.lt_succ_self _)]
      · rw [h_up_slot _ 31 i _ 31 e3]
        show (if j < i then h_sch 0 j else M 31 j) = (if j < i + 1 then h_sch 0 j else M 31 j)
        by_cases e4 : j < i
        · rw [if_pos e4, if_pos (by omega)]
        · rw [if_neg e4, if_neg (by omega)]
    · rw [h_up_row _ 31 i _ e2]
      unfold PX
      rw [if_neg e, if_neg e2, if_neg e, if_neg e2]
set_option maxRecDepth 20000 in
set_option maxHeartbeats 4000000 in
theorem x9_loop {Z : hZ} {Q : State → Prop} {M : hMem} (hz : cOK Z cX9_init RX9 2 99 87 2968 1 none) (kk : hB Z Q (cI Z hYx (PX M 45)) 87 2968 177 [(1, .int (nI 45)), (0, .ref (h_b Z + 0))] []) : ∀ m i, i + m = 45 → hB Z Q (cI Z hYx (PX M i)) 87 2968 149 [(1, .int (nI i)), (0, .ref (h_b Z + 0))] [] := by
  intro m
  induction m with
  | zero =>
    intro i hi
    have : i = 45 := hi
    subst this
    refine v_iload_n hz.1 dX9_init_149 rfl 0 rfl ?_
    refine c_ldcs hz 0 dX9_init_150 rfl ?_
    refine c_callT hz (by decide) mv_X9_68 rfl (kJ0_length (n := 97) (by decide)) rfl (av := []) (rest := [.int (nI 45)]) rfl rfl (Nat.le_of_ble_eq_true rfl) dX9_init_152 (by decide) (by decide) ?_
    exact v_icmp_ge hz.1 dX9_init_155 (fun _ => kk) (fun h => absurd (show h_slen 0 ≤ nI 45 from by decide) h)
  | succ m ih =>
    intro i hi
    have hlt : i < 45 := by omega
    refine v_iload_n hz.1 dX9_init_149 rfl 0 rfl ?_
    refine c_ldcs hz 0 dX9_init_150 rfl ?_
    refine c_callT hz (by decide) mv_X9_68 rfl (kJ0_length (n := 97) (by decide)) rfl (av := []) (rest := [.int (nI i)]) rfl rfl (Nat.le_of_ble_eq_true rfl) dX9_init_152 (by decide) (by decide) ?_
    refine v_icmp_ge hz.1 dX9_init_155 (fun h => absurd (show nI 45 ≤ nI i from h) (nI_ge hlt (by decide))) (fun _ => ?_)
    refine v_aload_n hz.1 dX9_init_158 rfl 1 rfl ?_
    refine c_getr (S := hYx.1) (rf := hYx_rf) (N := 88) (q := 30) hz ⟨Nat.le_of_ble_eq_true rfl, rfl⟩ fl_X9_36 rfl rfl (by decide) dX9_init_159 ?_
    refine c_ldcs hz 0 dX9_init_162 rfl ?_
    refine v_iload_n hz.1 dX9_init_164 rfl 0 rfl ?_
    refine c_callT (Y := hYx) hz (by decide) mv_X9_74 rfl (kJ0_charAt (n := 95) (by decide) ⟨nI_pos' (by omega), by rw [nI_clamp (by omega)]; exact hlt⟩) rfl (av := [.int (nI i)]) (rest := [.ref (h_b Z + 30)]) rfl rfl (Nat.le_of_ble_eq_true rfl) dX9_init_165 (by decide) (by decide) ?_
    rw [nI_clamp (show i < 2 ^ 31 by omega)]
    refine c_callV (Y := hYx) (k0 := 30) hz mv_X9_78 ⟨Nat.le_of_ble_eq_true rfl, rfl⟩ (by decide) rfl rfl (kX5_put (n := 98) _ _ _ (PX_s M hlt)) rfl (av := [.int (h_sch 0 i)]) (rest := []) rfl rfl (Nat.le_of_ble_eq_true rfl) dX9_init_168 (by decide) (by decide) ?_
    refine v_iinc hz.1 (nI (i + 1)) [(1, .int (nI (i + 1))), (0, .ref (h_b Z + 0))] dX9_init_171 0 rfl (nI_1 i) rfl rfl ?_
    refine v_goto hz.1 dX9_init_174 ?_
    exact ih (i + 1) (by omega)
set_option maxRecDepth 20000 in
set_option maxHeartbeats 4000000 in
theorem c_X9 {l : Launch} {dd : hDD} {b : Nat} {v : Int32} {X0 : hMem} (h : fX5_readInto 56 (PX MXc 45) = some (v, X0)) : cC l dd b yX9_init cX9_init 2 99 0 (hYx.1, rfT 1 0 0 0, 1) cM0 hYx X0 87 2968 := by
  refine c_met (by decide) (by decide) rfl (fun Z hz hi => ?_)
  refine w_X9 hz hi ?_
  refine c_rf (rf' := hYx_rf) (by decide +kernel) ?_
  refine v_iconst hz.1 0 dX9_init_147 rfl ?_
  refine v_istore_n hz.1 [(1, .int 0), (0, .ref (h_b Z + 0))] dX9_init_148 rfl rfl rfl ?_
  refine c_m0 (PX_0 (M := MXc) rfl) ?_
  refine x9_loop (M := MXc) hz ?_ 45 0 rfl
  refine v_aload_n hz.1 dX9_init_177 rfl 1 rfl ?_
  refine c_getr (S := hYx.1) (rf := hYx_rf) (N := 88) (q := 30) hz ⟨Nat.le_of_ble_eq_true rfl, rfl⟩ fl_X9_36 rfl rfl (by decide) dX9_init_178 ?_
  refine v_aload_n hz.1 dX9_init_181 rfl 1 rfl ?_
  refine c_getr (S := hYx.1) (rf := hYx_rf) (N := 88) (q := 29) hz ⟨Nat.le_of_ble_eq_true rfl, rfl⟩ fl_X9_25 rfl rfl (by decide) dX9_init_182 ?_
  refine v_iconst hz.1 0 dX9_init_185 rfl ?_
  refine c_aald (S := hYx.1) (rf := hYx_rf) (N := 88) (q := 56) hz 3 (fun _ => rfl) ⟨Nat.le_of_ble_eq_true rfl, rfl⟩ (by decide) (by decide) rfl (by decide) dX9_init_186 ?_
  refine c_callV (Y := hYx) (k0 := 30) hz mv_X9_82 ⟨Nat.le_of_ble_eq_true rfl, rfl⟩ (by decide) rfl rfl (kX5_readInto (n := 55) 56 _ _ h) rfl (av := [.ref (h_b Z + 56)]) (rest := []) rfl rfl (Nat.le_of_ble_eq_true rfl) dX9_init_187 (by decide) (by decide) ?_
  refine v_pop hz.1 dX9_init_190 rfl ?_
  exact c_vret (S := hYx.1) (rf := hYx_rf) (N := 88) hz (by decide) (by decide) dX9_init_191
theorem MMo_law : ∀ i, i < 45 → MMo 16 i = WM16.getD i 0 := by decide +kernel
set_option maxRecDepth 20000 in
set_option maxHeartbeats 4000000 in
theorem x10_loop {Z : hZ} {Q : State → Prop} (hz : cOK Z cX10_init RX10 2 99 25 2465 1 none) (kk : hB Z Q (cI Z (hYm.1, hYm_rf, 26) (MAi MMo 9 WM16 45)) 25 2465 1192 [(1, .int (nI 45)), (0, .ref (h_b Z + 0))] []) : ∀ m i, i + m = 45 → hB Z Q (cI Z (hYm.1, hYm_rf, 26) (MAi MMo 9 WM16 i)) 25 2465 1168 [(1, .int (nI i)), (0, .ref (h_b Z + 0))] [] := by
  intro m
  induction m with
  | zero =>
    intro i hi
    have : i = 45 := hi
    subst this
    refine v_iload_n hz.1 dX10_init_1168 rfl 0 rfl ?_
    refine v_bipush hz.1 45 dX10_init_1169 rfl ?_
    exact v_icmp_ge hz.1 dX10_init_1171 (fun _ => kk) (fun h => absurd (show (45 : Int32) ≤ nI 45 from by decide) h)
  | succ m ih =>
    intro i hi
    have hlt : i < 45 := by omega
    have hib : ∀ n, 45 ≤ n → h_ib (nI i) n := fun n hn => ⟨nI_pos' (by omega), by rw [nI_clamp (by omega)]; omega⟩
    refine v_iload_n hz.1 dX10_init_1168 rfl 0 rfl ?_
    refine v_bipush hz.1 45 dX10_init_1169 rfl ?_
    refine v_icmp_ge hz.1 dX10_init_1171 (fun h => absurd (show nI 45 ≤ nI i from h) (nI_ge hlt (by decide))) (fun _ => ?_)
    refine v_aload_n hz.1 dX10_init_1174 rfl 1 rfl ?_
    refine c_getr (q := 9) hz ⟨Nat.le_of_ble_eq_true rfl, rfl⟩ fl_X10_34 rfl rfl (by decide) dX10_init_1175 ?_
    refine v_iload_n hz.1 dX10_init_1178 rfl 0 rfl ?_
    refine v_aload_n hz.1 dX10_init_1179 rfl 1 rfl ?_
    refine c_getr (q := 16) hz ⟨Nat.le_of_ble_eq_true rfl, rfl⟩ fl_X10_55 rfl rfl (by decide) dX10_init_1180 ?_
    refine v_iload_n hz.1 dX10_init_1183 rfl 0 rfl ?_
    refine c_iald (v := WM16.getD i 0) hz (n := 45) ⟨Nat.le_of_ble_eq_true rfl, rfl⟩ (hib 45 (by decide)) (by rw [nI_clamp (show i < 2 ^ 31 by omega)]; exact MMo_law i hlt) dX10_init_1184 ?_
    refine c_iastA hz WM16 i (n := 160) ⟨Nat.le_of_ble_eq_true rfl, rfl⟩ (hib 160 (by decide)) (nI_clamp (by omega)) rfl (a' := i + 1) rfl dX10_init_1185 ?_
    refine v_iinc hz.1 (nI (i + 1)) [(1, .int (nI (i + 1))), (0, .ref (h_b Z + 0))] dX10_init_1186 0 rfl (nI_1 i) rfl rfl ?_
    refine v_goto hz.1 dX10_init_1189 ?_
    exact ih (i + 1) (by omega)
set_option maxRecDepth 20000 in
set_option maxHeartbeats 4000000 in
theorem c_X10 {l : Launch} {dd : hDD} {b : Nat} {v : Int32} {M1 : hMem} (h : fX10_text (h_up (MAi MMo 9 WM16 45) 0 11 45) = some (v, M1)) : cC l dd b yX10_init cX10_init 2 99 0 (hYm.1, rfM 1, 1) cM0 hYm M1 25 2465 := by
  refine c_met (by decide) (by decide) rfl (fun Z hz hi => ?_)
  refine w_X10_0 hz hi (w_X10_1 hz hi (w_X10_2 hz hi (w_X10_3 hz hi ?_)))
  refine c_rf (rf' := hYm_rf) (by decide +kernel) ?_
  refine v_iconst hz.1 0 dX10_init_1166 rfl ?_
  refine v_istore_n hz.1 [(1, .int 0), (0, .ref (h_b Z + 0))] dX10_init_1167 rfl rfl rfl ?_
  refine c_m0 (MAi_0 MMo 9 WM16) ?_
  refine x10_loop hz ?_ 45 0 rfl
  refine v_aload_n hz.1 dX10_init_1192 rfl 1 rfl ?_
  refine v_bipush hz.1 45 dX10_init_1193 rfl ?_
  refine c_puti hz ⟨Nat.le_of_ble_eq_true rfl, rfl⟩ fp_X10_85 rfl dX10_init_1195 ?_
  refine v_aload_n hz.1 dX10_init_1198 rfl 1 rfl ?_
  refine c_callV (Y := hYm) (k0 := 0) hz mv_X10_89 ⟨Nat.le_of_ble_eq_true rfl, rfl⟩ (by decide) rfl rfl (kX10_text (n := 94) _ _ h) rfl (av := []) (rest := []) rfl rfl (Nat.le_of_ble_eq_true rfl) dX10_init_1199 (by decide) (by decide) ?_
  refine v_pop hz.1 dX10_init_1202 rfl ?_
  exact c_vret (S := hYm.1) (rf := hYm_rf) (N := 26) hz (by decide) (by decide) dX10_init_1203
