abbrev rtP (M : hMem) (r : Int32) : Option Value × hMem := (some (.int r), M)
abbrev rtL (M : hMem) (r : Int64) : Option Value × hMem := (some (.long r), M)
abbrev rtM (q : Int32 × hMem) : Option Value × hMem := (some (.int q.1), q.2)
abbrev rtLM (q : Int64 × hMem) : Option Value × hMem := (some (.long q.1), q.2)
abbrev rtV (q : hMem) : Option Value × hMem := (none, q)
theorem x_pull {Z : hZ} {α : Type} {rt : α → Option Value × hMem} {M : hMem} {pc : Nat} {L : List (Nat × Value)} {st : List Value} {P : Prop} [Decidable P] {a b : α} (h : hW Z rt M pc L st (if P then some a else some b)) : hW Z rt M pc L st (some (if P then a else b)) := by
  by_cases hp : P
  · rw [if_pos hp] at h ⊢; exact h
  · rw [if_neg hp] at h ⊢; exact h
theorem h_is_B {Y : hLay} {k t n : Nat} (h : h_is Y k t n) : h_isB Y k t n = true := by
  simp only [h_isB, Bool.and_eq_true, beq_iff_eq]
  refine ⟨Nat.ble_eq_true_of_le h.1, ?_, ?_⟩
  · rw [h.2]
  · rw [h.2]
theorem ge_5 {i : Int32} (h : h_ib i 4) : h_is hYx (7 + i.toNatClampNeg) 2 0 := h_isB_is (h_forall (N := 4) (p := fun j => h_isB hYx (7 + j) 2 0) (by decide +kernel) h.2)
theorem ge_6 {i : Int32} (h : h_ib i 4) : h_is hYx (11 + i.toNatClampNeg) 0 0 := h_isB_is (h_forall (N := 4) (p := fun j => h_isB hYx (11 + j) 0 0) (by decide +kernel) h.2)
theorem ge_19 {i : Int32} (h : h_ib i 4) : h_is hYx (21 + i.toNatClampNeg) 2 0 := h_isB_is (h_forall (N := 4) (p := fun j => h_isB hYx (21 + j) 2 0) (by decide +kernel) h.2)
theorem ge_20 {i : Int32} (h : h_ib i 4) : h_is hYx (25 + i.toNatClampNeg) 0 0 := h_isB_is (h_forall (N := 4) (p := fun j => h_isB hYx (25 + j) 0 0) (by decide +kernel) h.2)
theorem ge_29 {i : Int32} (h : h_ib i 6) : h_is hYx (56 + 4 * i.toNatClampNeg) 3 0 := h_isB_is (h_forall (N := 6) (p := fun j => h_isB hYx (56 + 4 * j) 3 0) (by decide +kernel) h.2)
theorem ge_39 {i : Int32} (h : h_ib i 4) : h_is hYx (80 + 2 * i.toNatClampNeg) 5 0 := h_isB_is (h_forall (N := 4) (p := fun j => h_isB hYx (80 + 2 * j) 5 0) (by decide +kernel) h.2)
theorem ge_50 {i : Int32} (h : h_ib i 4) : h_is hYx (51 + i.toNatClampNeg) 10 25 := h_isB_is (h_forall (N := 4) (p := fun j => h_isB hYx (51 + j) 10 25) (by decide +kernel) h.2)
theorem gv_3_0 {k : Nat} (h : h_is hYx k 3 0) : hYx.2.1 k 0 = k + 1 := by
  have h1 := h_forall (N := 88) (p := fun k => !(h_isB hYx k 3 0) || (hYx.2.1 k 0 == k + 1)) (by decide +kernel) h.1
  simpa [h_is_B h] using h1
theorem gs_3_0 {k : Nat} (h : h_is hYx k 3 0) : h_is hYx (k + 1) 10 160 := by
  have h1 := h_forall (N := 88) (p := fun k => !(h_isB hYx k 3 0) || h_isB hYx (k + 1) 10 160) (by decide +kernel) h.1
  exact h_isB_is (by simpa [h_is_B h] using h1)
theorem gv_3_1 {k : Nat} (h : h_is hYx k 3 0) : hYx.2.1 k 1 = k + 2 := by
  have h1 := h_forall (N := 88) (p := fun k => !(h_isB hYx k 3 0) || (hYx.2.1 k 1 == k + 2)) (by decide +kernel) h.1
  simpa [h_is_B h] using h1
theorem gs_3_1 {k : Nat} (h : h_is hYx k 3 0) : h_is hYx (k + 2) 10 3 := by
  have h1 := h_forall (N := 88) (p := fun k => !(h_isB hYx k 3 0) || h_isB hYx (k + 2) 10 3) (by decide +kernel) h.1
  exact h_isB_is (by simpa [h_is_B h] using h1)
theorem gv_3_2 {k : Nat} (h : h_is hYx k 3 0) : hYx.2.1 k 2 = k + 3 := by
  have h1 := h_forall (N := 88) (p := fun k => !(h_isB hYx k 3 0) || (hYx.2.1 k 2 == k + 3)) (by decide +kernel) h.1
  simpa [h_is_B h] using h1
theorem gs_3_2 {k : Nat} (h : h_is hYx k 3 0) : h_is hYx (k + 3) 10 40 := by
  have h1 := h_forall (N := 88) (p := fun k => !(h_isB hYx k 3 0) || h_isB hYx (k + 3) 10 40) (by decide +kernel) h.1
  exact h_isB_is (by simpa [h_is_B h] using h1)
theorem gv_5_2 {k : Nat} (h : h_is hYx k 5 0) : hYx.2.1 k 2 = k + 1 := by
  have h1 := h_forall (N := 88) (p := fun k => !(h_isB hYx k 5 0) || (hYx.2.1 k 2 == k + 1)) (by decide +kernel) h.1
  simpa [h_is_B h] using h1
theorem gs_5_2 {k : Nat} (h : h_is hYx k 5 0) : h_is hYx (k + 1) 10 40 := by
  have h1 := h_forall (N := 88) (p := fun k => !(h_isB hYx k 5 0) || h_isB hYx (k + 1) 10 40) (by decide +kernel) h.1
  exact h_isB_is (by simpa [h_is_B h] using h1)
theorem gv_6_0 {k : Nat} (h : h_is hYx k 6 0) : hYx.2.1 k 0 = k + 1 := by
  have h1 := h_forall (N := 88) (p := fun k => !(h_isB hYx k 6 0) || (hYx.2.1 k 0 == k + 1)) (by decide +kernel) h.1
  simpa [h_is_B h] using h1
theorem gs_6_0 {k : Nat} (h : h_is hYx k 6 0) : h_is hYx (k + 1) 10 3 := by
  have h1 := h_forall (N := 88) (p := fun k => !(h_isB hYx k 6 0) || h_isB hYx (k + 1) 10 3) (by decide +kernel) h.1
  exact h_isB_is (by simpa [h_is_B h] using h1)
theorem gv_6_1 {k : Nat} (h : h_is hYx k 6 0) : hYx.2.1 k 1 = k + 2 := by
  have h1 := h_forall (N := 88) (p := fun k => !(h_isB hYx k 6 0) || (hYx.2.1 k 1 == k + 2)) (by decide +kernel) h.1
  simpa [h_is_B h] using h1
theorem gs_6_1 {k : Nat} (h : h_is hYx k 6 0) : h_is hYx (k + 2) 10 24 := by
  have h1 := h_forall (N := 88) (p := fun k => !(h_isB hYx k 6 0) || h_isB hYx (k + 2) 10 24) (by decide +kernel) h.1
  exact h_isB_is (by simpa [h_is_B h] using h1)
theorem gv_6_2 {k : Nat} (h : h_is hYx k 6 0) : hYx.2.1 k 2 = k + 3 := by
  have h1 := h_forall (N := 88) (p := fun k => !(h_isB hYx k 6 0) || (hYx.2.1 k 2 == k + 3)) (by decide +kernel) h.1
  simpa [h_is_B h] using h1
theorem gs_6_2 {k : Nat} (h : h_is hYx k 6 0) : h_is hYx (k + 3) 10 24 := by
  have h1 := h_forall (N := 88) (p := fun k => !(h_isB hYx k 6 0) || h_isB hYx (k + 3) 10 24) (by decide +kernel) h.1
  exact h_isB_is (by simpa [h_is_B h] using h1)
theorem gv_6_3 {k : Nat} (h : h_is hYx k 6 0) : hYx.2.1 k 3 = k + 4 := by
  have h1 := h_forall (N := 88) (p := fun k => !(h_isB hYx k 6 0) || (hYx.2.1 k 3 == k + 4)) (by decide +kernel) h.1
  simpa [h_is_B h] using h1
theorem gs_6_3 {k : Nat} (h : h_is hYx k 6 0) : h_is hYx (k + 4) 11 4 := by
  have h1 := h_forall (N := 88) (p := fun k => !(h_isB hYx k 6 0) || h_isB hYx (k + 4) 11 4) (by decide +kernel) h.1
  exact h_isB_is (by simpa [h_is_B h] using h1)
theorem gv_6_4 {k : Nat} (h : h_is hYx k 6 0) : hYx.2.1 k 4 = k + 5 := by
  have h1 := h_forall (N := 88) (p := fun k => !(h_isB hYx k 6 0) || (hYx.2.1 k 4 == k + 5)) (by decide +kernel) h.1
  simpa [h_is_B h] using h1
theorem gs_6_4 {k : Nat} (h : h_is hYx k 6 0) : h_is hYx (k + 5) 12 4 := by
  have h1 := h_forall (N := 88) (p := fun k => !(h_isB hYx k 6 0) || h_isB hYx (k + 5) 12 4) (by decide +kernel) h.1
  exact h_isB_is (by simpa [h_is_B h] using h1)
theorem gh_11 {k : Nat} {i : Int32} (h : h_is hYx k 6 0) (hi : h_ib i 4) : h_is hYx (k + 6 + i.toNatClampNeg) 2 0 := by
  have h1 := h_forall (N := 88) (p := fun k => !(h_isB hYx k 6 0) || (List.range 4).all (fun j => h_isB hYx (k + 6 + j) 2 0)) (by decide +kernel) h.1
  simp only [h_is_B h, Bool.not_true, Bool.false_or] at h1
  exact h_isB_is (h_forall h1 hi.2)
theorem gq_11 {k : Nat} (h : h_is hYx k 6 0) (i : Nat) : hYx.2.1 (k + 4) i = k + 6 + i := by
  have h1 := h_forall (N := 88) (p := fun k => !(h_isB hYx k 6 0) || (k == 1 || k == 15)) (by decide +kernel) h.1
  simp only [h_is_B h, Bool.not_true, Bool.false_or, Bool.or_eq_true, beq_iff_eq] at h1
  rcases h1 with rfl | rfl <;> rfl
theorem gh_12 {k : Nat} {i : Int32} (h : h_is hYx k 6 0) (hi : h_ib i 4) : h_is hYx (k + 10 + i.toNatClampNeg) 0 0 := by
  have h1 := h_forall (N := 88) (p := fun k => !(h_isB hYx k 6 0) || (List.range 4).all (fun j => h_isB hYx (k + 10 + j) 0 0)) (by decide +kernel) h.1
  simp only [h_is_B h, Bool.not_true, Bool.false_or] at h1
  exact h_isB_is (h_forall h1 hi.2)
theorem gq_12 {k : Nat} (h : h_is hYx k 6 0) (i : Nat) : hYx.2.1 (k + 5) i = k + 10 + i := by
  have h1 := h_forall (N := 88) (p := fun k => !(h_isB hYx k 6 0) || (k == 1 || k == 15)) (by decide +kernel) h.1
  simp only [h_is_B h, Bool.not_true, Bool.false_or, Bool.or_eq_true, beq_iff_eq] at h1
  rcases h1 with rfl | rfl <;> rfl
theorem gl_3 {k : Nat} (h : h_is hYx k 3 0) : k ≠ 0 ∧ k < 2 ^ 31 := ⟨fun h0 => by subst h0; exact absurd (congrArg Prod.fst h.2) (by decide), Nat.lt_trans h.1 (by decide)⟩
section HSpec
variable {Z : hZ} {Y : hLay} {cc : ByteArray} {own : String} {nL d : Nat} {ret : Option FieldType} {α : Type} {rt : α → Option Value × hMem} {M : hMem} {pc pc' : Nat} {L : List (Nat × Value)} {st rest : List Value} {F : Option α}
theorem x_above (hz : hOK Z Y cc RX3 nL d ret) (hd : hD cc pc (.getstatic 30) 3 pc') (kk : hW Z rt M pc' L (.ref (h_d Z).2.2.1 :: st) F) : hW Z rt M pc L st F := by
  obtain ⟨hd, rfl⟩ := hd
  obtain ⟨hx, hb, hml, hr0, hown, hts, hK, hN, hE, hT, hlk, hR, hY, hnL⟩ := hz
  intro r hr H locs ls hP hS hl
  exact va_gets hx hb hE.1 hS hown (hts _ fs_above) (fun _ h => h) hd (kk r hr H locs ls hP hS hl)
theorem x_iabv (hz : hOK Z Y cc own nL d ret) {i : Int32} (hd : hD cc pc .iaload 1 pc') (kk : h_ib i 6 → hW Z rt M pc' L (.int (h_abvI i.toNatClampNeg) :: st) F) : hW Z rt M pc L (.int i :: .ref (h_d Z).2.2.1 :: st) (if h_ib i 6 then F else none) := by
  obtain ⟨hd, rfl⟩ := hd
  obtain ⟨hx, hb, hml, hr0, hown, hts, hK, hN, hE, hT, hlk, hR, hY, hnL⟩ := hz
  refine x_guard (fun hi => ?_)
  intro r hr H locs ls hP hS hl
  exact va_ti hx hb hE.2.1 hS hi.vp (v := .int (h_abvI i.toNatClampNeg)) rfl hd (kk hi r hr H locs ls hP hS hl)
theorem x_ldcs (hz : hOK Z Y cc own nL d ret) (i : Nat) {index : Nat} {tx : String} (hd : hD cc pc (.ldc index) 2 pc') (hi : h_txts[i]? = some (own, index, tx)) (kk : hW Z rt M pc' L (.ref ((h_d Z).2.2.2.1 i) :: st) F) : hW Z rt M pc L st F := by
  obtain ⟨hd, rfl⟩ := hd
  obtain ⟨hx, hb, hml, hr0, hown, hts, hK, hN, hE, hT, hlk, hR, hY, hnL⟩ := hz
  intro r hr H locs ls hP hS hl
  exact va_ldcS hx hb hown (hT i _ hi) hd (kk r hr H locs ls hP hS hl)
theorem x_sval (hz : hOK Z Y cc RJ0 nL d ret) {w : Nat} (hw : w < 13) (hd : hD cc pc (.getfield 9) 3 pc') (kk : hW Z rt M pc' L (.ref ((h_d Z).2.2.2.2 w) :: st) F) : hW Z rt M pc L (.ref ((h_d Z).2.2.2.1 w) :: st) F := by
  obtain ⟨hd, rfl⟩ := hd
  obtain ⟨hx, hb, hml, hr0, hown, hts, hK, hN, hE, hT, hlk, hR, hY, hnL⟩ := hz
  intro r hr H locs ls hP hS hl
  exact vk_getf hx hb (hE.2.2.1.1 w hw).2.2.1 hS hown (hts _ fs_sval) (fun _ h => h) hd (kk r hr H locs ls hP hS hl)
theorem x_scod (hz : hOK Z Y cc RJ0 nL d ret) {w : Nat} (hw : w < 13) (hd : hD cc pc (.getfield 15) 3 pc') (kk : hW Z rt M pc' L (.int 0 :: st) F) : hW Z rt M pc L (.ref ((h_d Z).2.2.2.1 w) :: st) F := by
  obtain ⟨hd, rfl⟩ := hd
  obtain ⟨hx, hb, hml, hr0, hown, hts, hK, hN, hE, hT, hlk, hR, hY, hnL⟩ := hz
  intro r hr H locs ls hP hS hl
  exact vk_getf hx hb (hE.2.2.1.1 w hw).2.1 hS hown (hts _ fs_scod) (fun _ h => h) hd (kk r hr H locs ls hP hS hl)
theorem x_scmp (hz : hOK Z Y cc RJ0 nL d ret) (hd : hD cc pc (.getstatic 38) 3 pc') (kk : hW Z rt M pc' L (.int 1 :: st) F) : hW Z rt M pc L st F := by
  obtain ⟨hd, rfl⟩ := hd
  obtain ⟨hx, hb, hml, hr0, hown, hts, hK, hN, hE, hT, hlk, hR, hY, hnL⟩ := hz
  intro r hr H locs ls hP hS hl
  exact va_gets hx hb hE.2.2.2.1 hS hown (hts _ fs_scmp) (fun _ h => h) hd (kk r hr H locs ls hP hS hl)
theorem x_sioo (hz : hOK Z Y cc RJ0 nL d ret) (hd : hD cc pc (.getstatic 1053) 3 pc') (kk : ∀ o, hW Z rt M pc' L (va_rf o :: st) F) : hW Z rt M pc L st F := by
  obtain ⟨hd, rfl⟩ := hd
  obtain ⟨hx, hb, hml, hr0, hown, hts, hK, hN, hE, hT, hlk, hR, hY, hnL⟩ := hz
  obtain ⟨o, ho⟩ := hE.2.2.2.2
  intro r hr H locs ls hP hS hl
  exact va_gets hx hb ho hS hown (hts _ fs_sioo) (fun _ h => h) hd (kk o r hr H locs ls hP hS hl)
theorem x_salen (hz : hOK Z Y cc own nL d ret) {w : Nat} (hw : w < 13) (hd : hD cc pc .arraylength 1 pc') (kk : hW Z rt M pc' L (.int (h_slen w) :: st) F) : hW Z rt M pc L (.ref ((h_d Z).2.2.2.2 w) :: st) F := by
  obtain ⟨hd, rfl⟩ := hd
  obtain ⟨hx, hb, hml, hr0, hown, hts, hK, hN, hE, hT, hlk, hR, hY, hnL⟩ := hz
  intro r hr H locs ls hP hS hl
  exact va_tlen hx hb (hE.2.2.1.1 w hw).2.2.2 hS rfl hd (kk r hr H locs ls hP hS hl)
theorem x_sbald (hz : hOK Z Y cc own nL d ret) {w : Nat} {i : Int32} (hw : w < 13) (hi : h_ib i (h_lens.getD w 0)) (hd : hD cc pc .baload 1 pc') (kk : hW Z rt M pc' L (.int (h_sch w i.toNatClampNeg) :: st) F) : hW Z rt M pc L (.int i :: .ref ((h_d Z).2.2.2.2 w) :: st) F := by
  obtain ⟨hd, rfl⟩ := hd
  obtain ⟨hx, hb, hml, hr0, hown, hts, hK, hN, hE, hT, hlk, hR, hY, hnL⟩ := hz
  intro r hr H locs ls hP hS hl
  exact va_tb hx hb (hE.2.2.1.1 w hw).2.2.2 hS hi.vp rfl hd (kk r hr H locs ls hP hS hl)
theorem x_i2c (hz : hOK Z Y cc own nL d ret) {x : Int32} (v : Int32) (hv : (x.toUInt32 % 65536).toInt32 = v) (hd : hD cc pc .i2c 1 pc') (kk : hW Z rt M pc' L (.int v :: st) F) : hW Z rt M pc L (.int x :: st) F := by
  obtain ⟨hd, rfl⟩ := hd
  intro r hr H locs ls hP hS hl
  exact lv_i2c hz.1 hz.2.1 hd hv (kk r hr H locs ls hP hS hl)
theorem x_tret {ty : FieldType} (hz : hOK Z Y cc own nL d (some ty)) {v : Int32} {r0 : α} (hn : narrow ty (.int v) = .int v) (hv : rt r0 = (some (.int v), M)) (hd : hD cc pc .ireturn 1 pc') : hW Z rt M pc L [.int v] (some r0) := by
  obtain ⟨hd, rfl⟩ := hd
  obtain ⟨hx, hb, hml, hr0, hown, hts, hK, hN, hE, hT, hlk, hR, hY, hnL⟩ := hz
  intro r hr H locs ls hP hS hl
  cases hr
  exact W.zret hx hb hr0 hn (fun t ht hW => ⟨by rw [hv], by rw [hv, ht]; exact hP, hS.F ht⟩) hS.2.2 hd hlk
/-- a call at a constant text -/
theorem x_callT (hz : hOK Z Y cc own nL d ret) {y : MethodName} {bytes : ByteArray} {maxL idx np dc w : Nat} {ry : Option FieldType} {av rest : List Value} {v : Option Value} {M' : hMem} (hw13 : w < 13) (ms : h_MV own idx y bytes maxL ry np) (hyc : y.cls = "java/lang/String") (hc : hC (h_l Z) Y (h_d Z) (h_b Z) y bytes maxL ry dc (.ref ((h_d Z).2.2.2.1 w) :: av) M (v, M')) (hdd : dc + 1 = d) (hst : st = av.reverse ++ .ref ((h_d Z).2.2.2.1 w) :: rest) (hn : av.length = np) (hw : (rest.map fun v => v.category).sum ≤ 8) (hd : hD cc pc (.invokevirtual idx) 3 pc') (k : hW Z rt M' pc' L (v.toList ++ rest) F) : hW Z rt M pc L st F := by
  obtain ⟨hd, rfl⟩ := hd
  have hz0 := hz
  obtain ⟨hx, hb, hml, hr0, hown, hts, hK, hN, hE, hT, hlk, hR, hY, hnL⟩ := hz
  subst hY
  obtain ⟨⟨m1, m2, m3, m4⟩, m5, m6, m7⟩ := ms
  intro r hr H locs ls hP hS hl
  have hfit := h_fit (maxL := maxL) hdd m4 hR
  refine x_after (v := v) (M' := M') (va_runV (As := av) (rest := rest) (cc := cc) (nL := Z.2.2.2) (Ts := h_tbl) (C := y.cls) ⟨hx, hb, hml, hown, hts⟩ hc ⟨callB_of np hts (h_goodT m1) rfl rfl rfl (hts _ m2) (hts _ m5) m3 hfit, hts _ m6, hts _ m7⟩ ⟨h_St_blind _ _ _ _ _, by rw [hyc]; exact vk_recv hE.2.2.1 hw13 hS, fun U hU hW => ⟨rfl, h_St_at hz0 hP hS U hU hW⟩⟩ rfl hn hl.1 hst (lv_room hw) hd ⟨Nat.zero_le _, Nat.zero_le _⟩) hS (fun H1 locs1 hP1 hS1 => k r hr H1 locs1 ls hP1 hS1 hl)
/-- System.arraycopy of ints -/
theorem x_acopy (hz : hOK Z Y cc own nL d ret) {idx src dst n0 n1 d' : Nat} {sp dp n : Int32} (hw : Cond.methodLink own idx arraycopyName ∈ h_tbl) (h0 : h_is Y src 10 n0) (h1 : h_is Y dst 10 n1) (hdd : d' + 1 = d) (hrest : (st.map fun v => v.category).sum ≤ 8) (hd : hD cc pc (.invokestatic idx) 3 pc') (kk : h_cpb sp dp n n0 n1 = true → hW Z rt (h_cp M src sp dst dp n) pc' L st F) : hW Z rt M pc L (.int n :: .int dp :: .ref (h_b Z + dst) :: .int sp :: .ref (h_b Z + src) :: st) (if h_cpb sp dp n n0 n1 = true then F else none) := by
  obtain ⟨hd, rfl⟩ := hd
  obtain ⟨hx, hb, hml, hr0, hown, hts, hK, hN, hE, hT, hlk, hR, hY, hnL⟩ := hz
  subst hY
  refine x_guard (fun hg => ?_)
  have hk := kk hg
  simp only [h_cpb, Bool.and_eq_true, decide_eq_true_eq] at hg
  obtain ⟨g1, g2, g3, g4, g5⟩ := hg
  intro r hr H locs ls hP hS hl
  refine va_copyi (D := (h_d Z).1) (cl := vwCl) hx hb (hml.trans hl.1.symm) hown (hts _ hw) (hts _ fs_acn) (hts _ fs_acs) (hts _ fs_aci) hK hP (h_pw_D _ _ _ _) hS src dst 0 0 (h_intAt h0) (h_intAt h1) rfl rfl rfl (Int32.not_lt.mpr g1) (Int32.not_lt.mpr g2) (Int32.not_lt.mpr g3) (Nat.le_of_ble_eq_true g4) (Nat.le_of_ble_eq_true g5) (fun _ _ => rfl) (by omega) ?_ hd (fun H1 locs1 hP1 hD1 hS1 => ?_)
  · have hnw : nativeFrameWords "java/lang/System" "arraycopy" 5 ≤ 40 := by decide
    omega
  · refine hk r hr H1 locs1 ls ?_ hS1 hl
    rw [← h_pw_set (h_Y Z) (h_d Z).2.1 (h_b Z) M (k := dst) (M' := h_cp M src sp dst dp n) (x := (h_b Z + dst, .inl ((h_d Z).2.1 10, n1, .inl (va_cpy (M src) (M dst) sp.toNatClampNeg dp.toNatClampNeg n.toNatClampNeg)))) ?_ (fun a ha => by simp [h_cp, ha])]
    · exact hP1
    · rw [h_cell_int h1.2]
      rw [show h_cp M src sp dst dp n dst = va_cpy (M src) (M dst) sp.toNatClampNeg dp.toNatClampNeg n.toNatClampNeg from by simp [h_cp]]
end HSpec
theorem h_met2 {l : Launch} {Y : hLay} {dd : hDD} {b : Nat} {y : MethodName} {bytes : ByteArray} {maxL d : Nat} {ret : Option FieldType} {av : hDD → Nat → List Value} {M : hMem} {α : Type} {rt : α → Option Value × hMem} {F : Option α} (hy : plainName y.cls = true) (hlen : (lg_sl (av dd b)).length ≤ maxL)
    (body : ∀ Z : hZ, hOK Z Y bytes y.cls maxL d ret → hW Z rt M 0 (lv_args 0 (av (h_d Z) (h_b Z))) [] F) (r : α) (hr : F = some r) : hC l Y dd b y bytes maxL ret d (av dd b) M (rt r) := by
  refine Met.ofW (cc := bytes) (maxL := maxL) (ret := ret) hy rfl ?_
  intro p e s m args below meth c s₁ B hml hv
  obtain ⟨rfl, hP, hK, hN, hE, hT⟩ := hv
  have hts0 := atoms_spec (ws := Cond.code y bytes maxL ret :: h_tbl) B.pre
  have hl := lv_entry (av dd b) (n := maxL) hlen
  rw [lg_entry_eq]
  exact body ((Y, dd, b), (p, l, e, h_rm d, s), (m, (av dd b).toArray, below, meth, c), maxL) ⟨B.exec, B.bytes, hml, B.returns, findClass_of_methodNamed B.named, fun w hw => hts0 w (List.mem_cons_of_mem _ hw), hK, hN, hE, hT, B.notSynchronized, ⟨Nat.le_refl _, Nat.le_refl _⟩, rfl, rfl⟩ r hr s.heap [] _ hP va_S.rf hl
/-! the JDK's own: texts -/
section HJdk
variable {l : Launch} {dd : hDD} {b n w : Nat} {M : hMem}
theorem wJ0_coder {Z : hZ} (hz : hOK Z hYx cJ0_coder_7d493 RJ0 1 (n + 0) (some .byte)) (hw : w < 13) : hW Z (rtP M) M 0 [(0, .ref ((h_d Z).2.2.2.1 w))] [] (some 0) := by
  refine x_scmp hz dJ0_coder_7d493_0 ?_
  show hW Z (rtP M) M 3 _ _ (if (1 : Int32) = 0 then none else some 0)
  refine x_if_eq hz dJ0_coder_7d493_3 x_none ?_
  refine x_aload_n hz dJ0_coder_7d493_6 rfl 0 rfl ?_
  refine x_scod hz hw dJ0_coder_7d493_7 ?_
  refine x_goto hz dJ0_coder_7d493_10 ?_
  exact x_tret hz rfl rfl dJ0_coder_7d493_14
theorem kJ0_coder (hw : w < 13) : hC l hYx dd b yJ0_coder_7d493 cJ0_coder_7d493 1 (some .byte) (n + 0) [.ref (dd.2.2.2.1 w)] M (some (.int 0), M) :=
  h_met2 (av := fun dd _ => [.ref (dd.2.2.2.1 w)]) (rt := rtP M) (by decide) (Nat.le_of_ble_eq_true rfl) (fun Z hz => wJ0_coder (n := n) hz hw) 0 rfl
theorem wJ0_isLatin1 {Z : hZ} (hz : hOK Z hYx cJ0_isLatin1_aae02 RJ0 1 (n + 0) (some .boolean)) (hw : w < 13) : hW Z (rtP M) M 0 [(0, .ref ((h_d Z).2.2.2.1 w))] [] (some 1) := by
  refine x_scmp hz dJ0_isLatin1_aae02_0 ?_
  show hW Z (rtP M) M 3 _ _ (if (1 : Int32) = 0 then none else some 1)
  refine x_if_eq hz dJ0_isLatin1_aae02_3 x_none ?_
  refine x_aload_n hz dJ0_isLatin1_aae02_6 rfl 0 rfl ?_
  refine x_scod hz hw dJ0_isLatin1_aae02_7 ?_
  show hW Z (rtP M) M 10 _ _ (if (0 : Int32) = 0 then some 1 else none)
  refine x_if_ne hz dJ0_isLatin1_aae02_10 x_none ?_
  refine x_iconst hz 1 dJ0_isLatin1_aae02_13 rfl ?_
  refine x_goto hz dJ0_isLatin1_aae02_14 ?_
  exact x_tret hz rfl rfl dJ0_isLatin1_aae02_18
theorem kJ0_isLatin1 (hw : w < 13) : hC l hYx dd b yJ0_isLatin1_aae02 cJ0_isLatin1_aae02 1 (some .boolean) (n + 0) [.ref (dd.2.2.2.1 w)] M (some (.int 1), M) :=
  h_met2 (av := fun dd _ => [.ref (dd.2.2.2.1 w)]) (rt := rtP M) (by decide) (Nat.le_of_ble_eq_true rfl) (fun Z hz => wJ0_isLatin1 (n := n) hz hw) 1 rfl
theorem h_slen0 (hw : w < 13) : h_slen w >>> ((0 : Int32) &&& 31) = h_slen w := by
  have h := h_forall (N := 13) (p := fun w => h_slen w >>> ((0 : Int32) &&& 31) == h_slen w) (by decide +kernel) hw
  exact eq_of_beq h
theorem wJ0_length {Z : hZ} (hz : hOK Z hYx cJ0_length_8abf5 RJ0 1 (n + 1) (some .int)) (hw : w < 13) : hW Z (rtP M) M 0 [(0, .ref ((h_d Z).2.2.2.1 w))] [] (some (h_slen w)) := by
  refine x_aload_n hz dJ0_length_8abf5_0 rfl 0 rfl ?_
  refine x_sval hz hw dJ0_length_8abf5_1 ?_
  refine x_salen hz hw dJ0_length_8abf5_4 ?_
  refine x_aload_n hz dJ0_length_8abf5_5 rfl 0 rfl ?_
  refine x_callT hz hw mv_J0_335 rfl (kJ0_coder (n := n) hw) rfl (av := []) (rest := [.int (h_slen w)]) rfl rfl (Nat.le_of_ble_eq_true rfl) dJ0_length_8abf5_6 ?_
  refine x_ishr hz dJ0_length_8abf5_9 ?_
  rw [h_slen0 hw]
  exact x_iret hz rfl dJ0_length_8abf5_10
theorem kJ0_length (hw : w < 13) : hC l hYx dd b yJ0_length_8abf5 cJ0_length_8abf5 1 (some .int) (n + 1) [.ref (dd.2.2.2.1 w)] M (some (.int (h_slen w)), M) :=
  h_met2 (av := fun dd _ => [.ref (dd.2.2.2.1 w)]) (rt := rtP M) (by decide) (Nat.le_of_ble_eq_true rfl) (fun Z hz => wJ0_length (n := n) hz hw) _ rfl
theorem wJ3_checkIndex {Z : hZ} (hz : hOK Z hYx cJ3_checkIndex_8e157 RJ3 3 (n + 0) (some .int)) (i j : Int32) (v : Value) : hW Z (rtP M) M 0 [(0, .int i), (1, .int j), (2, v)] [] (if i < 0 then none else if i < j then some i else none) := by
  refine x_iload_n hz dJ3_checkIndex_8e157_0 rfl 0 rfl ?_
  refine x_if_lt hz dJ3_checkIndex_8e157_1 x_none ?_
  refine x_iload_n hz dJ3_checkIndex_8e157_4 rfl 0 rfl ?_
  refine x_iload_n hz dJ3_checkIndex_8e157_5 rfl 1 rfl ?_
  refine x_icmp_lt hz dJ3_checkIndex_8e157_6 ?_ x_none
  refine x_iload_n hz dJ3_checkIndex_8e157_16 rfl 0 rfl ?_
  exact x_iret hz rfl dJ3_checkIndex_8e157_17
theorem kJ3_checkIndex {i j : Int32} (o : Option Nat) (h1 : ¬ i < 0) (h2 : i < j) : hC l hYx dd b yJ3_checkIndex_8e157 cJ3_checkIndex_8e157 3 (some .int) (n + 0) [.int i, .int j, va_rf o] M (some (.int i), M) := by
  cases o with
  | none => exact h_met (av := fun _ => [.int i, .int j, .null]) (rt := rtP M) (by decide) (Nat.le_of_ble_eq_true rfl) (fun Z hz => wJ3_checkIndex (n := n) hz i j .null) i (by rw [if_neg h1, if_pos h2])
  | some a => exact h_met (av := fun _ => [.int i, .int j, .ref a]) (rt := rtP M) (by decide) (Nat.le_of_ble_eq_true rfl) (fun Z hz => wJ3_checkIndex (n := n) hz i j (.ref a)) i (by rw [if_neg h1, if_pos h2])
theorem wJ0_checkIndex {Z : hZ} (hz : hOK Z hYx cJ0_checkIndex_df160 RJ0 2 (n + 1) none) {i j : Int32} (h1 : ¬ i < 0) (h2 : i < j) : hW Z rtV M 0 [(0, .int i), (1, .int j)] [] (some M) := by
  refine x_iload_n hz dJ0_checkIndex_df160_0 rfl 0 rfl ?_
  refine x_iload_n hz dJ0_checkIndex_df160_1 rfl 1 rfl ?_
  refine x_sioo hz dJ0_checkIndex_df160_2 (fun o => ?_)
  refine x_callS hz ms_J0_1059 (kJ3_checkIndex (n := n) o h1 h2) rfl (av := [.int i, .int j, va_rf o]) (rest := []) rfl rfl (Nat.le_of_ble_eq_true rfl) dJ0_checkIndex_df160_5 ?_
  refine x_pop hz dJ0_checkIndex_df160_8 rfl ?_
  exact x_vret hz rfl dJ0_checkIndex_df160_9
theorem kJ0_checkIndex {i j : Int32} (h1 : ¬ i < 0) (h2 : i < j) : hC l hYx dd b yJ0_checkIndex_df160 cJ0_checkIndex_df160 2 none (n + 1) [.int i, .int j] M (none, M) :=
  h_met (av := fun _ => [.int i, .int j]) (rt := rtV) (by decide) (Nat.le_of_ble_eq_true rfl) (fun Z hz => wJ0_checkIndex (n := n) hz h1 h2) M rfl
theorem h_sch_ok {j : Nat} (hw : w < 13) (hj : j < h_lens.getD w 0) : ((h_sch w j &&& 255).toUInt32 % 65536).toInt32 = h_sch w j ∧ narrow .char (.int (h_sch w j)) = .int (h_sch w j) := by
  have h := h_forall (N := 13) (p := fun w => (List.range (h_lens.getD w 0)).all (fun j => ((h_sch w j &&& 255).toUInt32 % 65536).toInt32 == h_sch w j && decide (vp_nar .char (h_sch w j) = h_sch w j))) (by decide +kernel) hw
  have h2 := h_forall h hj
  simp only [Bool.and_eq_true, beq_iff_eq, decide_eq_true_eq] at h2
  refine ⟨h2.1, ?_⟩
  have h3 : narrow .char (.int (h_sch w j)) = .int (vp_nar .char (h_sch w j)) := rfl
  rw [h3, h2.2]
theorem h_lt_len {i : Int32} (hw : w < 13) (hi : h_ib i (h_lens.getD w 0)) : ¬ i < 0 ∧ i < h_slen w := by
  refine ⟨Int32.not_lt.mpr hi.1, ?_⟩
  have hb : h_lens.getD w 0 < 100 := by
    have h := h_forall (N := 13) (p := fun w => Nat.blt (h_lens.getD w 0) 100) (by decide +kernel) hw
    exact Nat.le_of_ble_eq_true h
  have e : i = nI i.toNatClampNeg := by
    apply Int32.toInt_inj.mp
    have h0 : (0 : Int) ≤ i.toInt := by simpa using Int32.le_iff_toInt_le.mp hi.1
    rw [nI_toInt (by have := hi.2; omega)]
    show i.toInt = ((i.toInt.toNat : Nat) : Int)
    omega
  rw [e]
  exact nI_lt hi.2 (by omega)
theorem wJ1_charAt {Z : hZ} (hz : hOK Z hYx cJ1_charAt_3b067 RJ1 2 (n + 2) (some .char)) {i : Int32} (hw : w < 13) (hi : h_ib i (h_lens.getD w 0)) : hW Z (rtP M) M 0 [(0, .ref ((h_d Z).2.2.2.2 w)), (1, .int i)] [] (some (h_sch w i.toNatClampNeg)) := by
  refine x_iload_n hz dJ1_charAt_3b067_0 rfl 1 rfl ?_
  refine x_aload_n hz dJ1_charAt_3b067_1 rfl 0 rfl ?_
  refine x_salen hz hw dJ1_charAt_3b067_2 ?_
  refine x_callS hz ms_J1_9 (kJ0_checkIndex (n := n) (h_lt_len hw hi).1 (h_lt_len hw hi).2) rfl (av := [.int i, .int (h_slen w)]) (rest := []) rfl rfl (Nat.le_of_ble_eq_true rfl) dJ1_charAt_3b067_3 ?_
  refine x_aload_n hz dJ1_charAt_3b067_6 rfl 0 rfl ?_
  refine x_iload_n hz dJ1_charAt_3b067_7 rfl 1 rfl ?_
  refine x_sbald hz hw hi dJ1_charAt_3b067_8 ?_
  refine x_sipush hz 255 dJ1_charAt_3b067_9 rfl ?_
  refine x_iand hz dJ1_charAt_3b067_12 ?_
  refine x_i2c hz (h_sch w i.toNatClampNeg) (h_sch_ok hw hi.2).1 dJ1_charAt_3b067_13 ?_
  exact x_tret hz (h_sch_ok hw hi.2).2 rfl dJ1_charAt_3b067_14
theorem kJ1_charAt {i : Int32} (hw : w < 13) (hi : h_ib i (h_lens.getD w 0)) : hC l hYx dd b yJ1_charAt_3b067 cJ1_charAt_3b067 2 (some .char) (n + 2) [.ref (dd.2.2.2.2 w), .int i] M (some (.int (h_sch w i.toNatClampNeg)), M) :=
  h_met2 (av := fun dd _ => [.ref (dd.2.2.2.2 w), .int i]) (rt := rtP M) (by decide) (Nat.le_of_ble_eq_true rfl) (fun Z hz => wJ1_charAt (n := n) hz hw hi) _ rfl
theorem wJ0_charAt {Z : hZ} (hz : hOK Z hYx cJ0_charAt_5068e RJ0 2 (n + 3) (some .char)) {i : Int32} (hw : w < 13) (hi : h_ib i (h_lens.getD w 0)) : hW Z (rtP M) M 0 [(0, .ref ((h_d Z).2.2.2.1 w)), (1, .int i)] [] (some (h_sch w i.toNatClampNeg)) := by
  refine x_aload_n hz dJ0_charAt_5068e_0 rfl 0 rfl ?_
  refine x_callT hz hw mv_J0_492 rfl (kJ0_isLatin1 (n := n + 2) hw) rfl (av := []) (rest := []) rfl rfl (Nat.le_of_ble_eq_true rfl) dJ0_charAt_5068e_1 ?_
  show hW Z (rtP M) M 4 _ _ (if (1 : Int32) = 0 then none else some (h_sch w i.toNatClampNeg))
  refine x_if_eq hz dJ0_charAt_5068e_4 x_none ?_
  refine x_aload_n hz dJ0_charAt_5068e_7 rfl 0 rfl ?_
  refine x_sval hz hw dJ0_charAt_5068e_8 ?_
  refine x_iload_n hz dJ0_charAt_5068e_11 rfl 1 rfl ?_
  refine x_callS hz ms_J0_495 (kJ1_charAt (n := n) hw hi) rfl (av := [.ref ((h_d Z).2.2.2.2 w), .int i]) (rest := []) rfl rfl (Nat.le_of_ble_eq_true rfl) dJ0_charAt_5068e_12 ?_
  exact x_tret hz (h_sch_ok hw hi.2).2 rfl dJ0_charAt_5068e_15
theorem kJ0_charAt {i : Int32} (hw : w < 13) (hi : h_ib i (h_lens.getD w 0)) : hC l hYx dd b yJ0_charAt_5068e cJ0_charAt_5068e 2 (some .char) (n + 3) [.ref (dd.2.2.2.1 w), .int i] M (some (.int (h_sch w i.toNatClampNeg)), M) :=
  h_met2 (av := fun dd _ => [.ref (dd.2.2.2.1 w), .int i]) (rt := rtP M) (by decide) (Nat.le_of_ble_eq_true rfl) (fun Z hz => wJ0_charAt (n := n) hz hw hi) _ rfl
variable {Z : hZ} {cc : ByteArray} {own : String} {nL d : Nat} {ret : Option FieldType} {α : Type} {rt : α → Option Value × hMem} {pc pc' : Nat} {L : List (Nat × Value)} {st : List Value} {F : Option α}
theorem x_slen {idx n : Nat} (hz : hOK Z hYx cc own nL d ret) (ms : h_MV own idx yJ0_length_8abf5 cJ0_length_8abf5 1 (some .int) 0) (hdd : n + 1 + 1 = d) (hs : (st.map fun v => v.category).sum ≤ 8) (hd : hD cc pc (.invokevirtual idx) 3 pc') (kk : w < 13 → hW Z rt M pc' L (.int (h_slen w) :: st) F) : hW Z rt M pc L (.ref ((h_d Z).2.2.2.1 w) :: st) (if w < 13 then F else none) :=
  x_guard (fun hw => x_callT hz hw ms rfl (kJ0_length (n := n) hw) hdd (av := []) (rest := st) rfl rfl hs hd (kk hw))
theorem x_schar {idx n : Nat} {i : Int32} (hz : hOK Z hYx cc own nL d ret) (ms : h_MV own idx yJ0_charAt_5068e cJ0_charAt_5068e 2 (some .char) 1) (hdd : n + 3 + 1 = d) (hs : (st.map fun v => v.category).sum ≤ 8) (hd : hD cc pc (.invokevirtual idx) 3 pc') (kk : h_scb w i = true → hW Z rt M pc' L (.int (h_sch w i.toNatClampNeg) :: st) F) : hW Z rt M pc L (.int i :: .ref ((h_d Z).2.2.2.1 w) :: st) (if h_scb w i = true then F else none) := by
  refine x_guard (fun hg => ?_)
  have hk := kk hg
  simp only [h_scb, Bool.and_eq_true, decide_eq_true_eq] at hg
  obtain ⟨g1, g2, g3⟩ := hg
  exact x_callT hz g1 ms rfl (kJ0_charAt (n := n) g1 ⟨g2, Nat.le_of_ble_eq_true g3⟩) hdd (av := [.int i]) (rest := st) rfl rfl hs hd hk
end HJdk
