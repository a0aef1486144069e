/-! ROWS of the law: both systems side by side, the script -/
def cW (Z : hZ) (X M : hMem) : Heap → List Loc → Prop := fun H locs => va_P (h_d Z).1 vwCl (h_pw hYx (h_d Z).2.1 (h_b Z) X) H ∧ va_P (h_d Z).1 vwCl (h_pw hYm (h_d Z).2.1 (h_b Z + 88) M) H ∧ va_S (fun q => h_b Z ≤ q) (h_s Z).heap H locs
theorem pw_keep {D : va_G} {Y : hLay} {cy : Nat → ClassId} {b : Nat} {M : hMem} {H H1 : Heap} (hP : va_P D vwCl (h_pw Y cy b M) H) (h : ∀ q, h_A b Y q → q < H.size → H1[q]? = H[q]?) : va_P D vwCl (h_pw Y cy b M) H1 := hP.kept (fun k q hk => by
  have hlt := (hP k q hk).lt
  obtain ⟨hk2, rfl⟩ := h_pw_at hk
  exact h _ ⟨Nat.le_add_right _ _, by show b + k < b + Y.2.2; omega⟩ hlt)
theorem l_in {i k L0 : Nat} (hi : i + 7 ≤ L0) (hL : L0 ≤ 3584) (hk : k ≤ 6) : vp_in (nI i + nI k) L0 := by
  rw [nI_add]
  rintro (h | h)
  · exact nI_pos (by omega) h
  · rw [nI_clamp (by omega)] at h; omega
theorem lg_cmp_self (v : Int64) : lg_cmp v v = 0 := by
  unfold lg_cmp
  simp
section LRows
variable {Z : hZ} {cc : ByteArray} {own : String} {nL d mc ms : Nat} {ret : Option FieldType} {Q : State → Prop} {cs ss pc pc' : Nat} {L : List (Nat × Value)} {st : List Value} {X M : hMem}
theorem l_sld (hz : cOK Z cc own nL d mc ms 0 ret) {L0 sb : Nat} {xs : Nat → Int32} (hX : va_X sb L0 xs (h_s Z) (h_s Z).heap) (hbl : sb < (h_s Z).heap.size) {i : Int32} (hin : vp_in i L0) (hd : hD cc pc .iaload 1 pc') (k : hB Z Q (cW Z X M) cs ss pc' L (.int (xs i.toNatClampNeg) :: st)) : hB Z Q (cW Z X M) cs ss pc L (.int i :: .ref sb :: st) := by
  obtain ⟨hd, rfl⟩ := hd
  obtain ⟨⟨hx, hb, hml, hr0, hown, hts, hlk, hR, hnL⟩, hF, hmc, hms, hsz⟩ := hz
  have hsz' : (h_s Z).heap.size = h_b Z + 0 := hsz
  intro H locs ls hI hl
  exact va_sld hx hb hX hbl (A := fun q => h_b Z ≤ q) (fun h => by have h' : h_b Z ≤ sb := h; omega) hI.2.2 hin hd (k H locs ls hI hl)
theorem l_slen (hz : cOK Z cc own nL d mc ms 0 ret) {L0 sb : Nat} {xs : Nat → Int32} (hX : va_X sb L0 xs (h_s Z) (h_s Z).heap) (hbl : sb < (h_s Z).heap.size) (hd : hD cc pc .arraylength 1 pc') (k : hB Z Q (cW Z X M) cs ss pc' L (.int (nI L0) :: st)) : hB Z Q (cW Z X M) cs ss pc L (.ref sb :: st) := by
  obtain ⟨hd, rfl⟩ := hd
  obtain ⟨⟨hx, hb, hml, hr0, hown, hts, hlk, hR, hnL⟩, hF, hmc, hms, hsz⟩ := hz
  have hsz' : (h_s Z).heap.size = h_b Z + 0 := hsz
  intro H locs ls hI hl
  exact va_slen hx hb hX hbl (A := fun q => h_b Z ≤ q) (fun h => by have h' : h_b Z ≤ sb := h; omega) hI.2.2 hd (k H locs ls hI hl)
/-- behind a call of either side -/
theorem l_after {b : Nat} {Y : hLay} {M' : hMem} {v : Option Value} {H : Heap} {locs : List Loc} {ls : Array Slot} {rest : List Value} {X1 M1 : hMem} (hbb : h_b Z ≤ b)
    (hr : va_Run Z.2.1.1 Z.2.1.2.1 Z.2.1.2.2.1 Z.2.1.2.2.2.1 Z.2.1.2.2.2.2 Z.2.2.1.1 Z.2.2.1.2.1 Z.2.2.1.2.2.1 Z.2.2.1.2.2.2.1 Z.2.2.1.2.2.2.2 H locs cs ss 0 0 (F0 Z.2.2.1.1 pc ls st) rest (fun a => h_Q Y (h_d Z) b (v, M') #[] a) (h_A b Y))
    (hS : va_S (fun q => h_b Z ≤ q) (h_s Z).heap H locs)
    (hw : ∀ H1 : Heap, va_P (h_d Z).1 vwCl (h_pw Y (h_d Z).2.1 b M') H1 → (∀ q, q < H.size → ¬ h_A b Y q → H1[q]? = H[q]?) → va_P (h_d Z).1 vwCl (h_pw hYx (h_d Z).2.1 (h_b Z) X1) H1 ∧ va_P (h_d Z).1 vwCl (h_pw hYm (h_d Z).2.1 (h_b Z + 88) M1) H1)
    (kk : ∀ (H1 : Heap) (locs1 : List Loc), cW Z X1 M1 H1 locs1 → W Z.2.1.1 Z.2.1.2.1 Z.2.1.2.2.1 Z.2.1.2.2.2.1 Z.2.1.2.2.2.2 Z.2.2.1.1 Z.2.2.1.2.1 Z.2.2.1.2.2.1 Z.2.2.1.2.2.2.1 Z.2.2.1.2.2.2.2 H1 locs1 cs ss Q (F0 Z.2.2.1.1 (pc + 3) ls (v.toList ++ rest))) : W Z.2.1.1 Z.2.1.2.1 Z.2.1.2.2.1 Z.2.1.2.2.2.1 Z.2.1.2.2.2.2 Z.2.2.1.1 Z.2.2.1.2.1 Z.2.2.1.2.2.1 Z.2.2.1.2.2.2.1 Z.2.2.1.2.2.2.2 H locs cs ss Q (F0 Z.2.2.1.1 pc ls st) := by
  intro T hT Xs
  obtain ⟨w, st₀, t, T', L', h0, X', hL, e1, e2, ⟨hv, hp, hz, hk⟩, sx⟩ := hr T hT Xs
  cases hv
  rw [h0] at hz hk
  rw [← e1] at hp hz hk
  obtain ⟨w1, w2⟩ := hw T'.heap hp (fun q h1 h2 => hk q h1 h2)
  obtain ⟨t2, a1, b1⟩ := kk T'.heap (locs ++ L') ⟨w1, w2, Nat.le_trans hS.1 hz, fun q h1 h2 => by rw [hk q (Nat.lt_of_lt_of_le h1 hS.1) (fun h => h2 (Nat.le_trans hbb h.1))]; exact hS.2.1 q h1 h2, fun q hq => by
      rcases List.mem_append.mp hq with h | h
      · exact hS.2.2 q h
      · exact Nat.le_trans hbb (hL q h).1⟩ T' rfl X'
  exact ⟨t2, sx t2 a1, b1⟩
theorem l_St {b : Nat} {Y : hLay} {M' : hMem} (hbb : h_b Z ≤ b) (hF : cF (h_d Z) (h_b Z) (h_s Z)) {H : Heap} {locs : List Loc} (hP : va_P (h_d Z).1 vwCl (h_pw Y (h_d Z).2.1 b M') H) (hS : va_S (fun q => h_b Z ≤ q) (h_s Z).heap H locs) : ∀ U : State, U.heap = H → (h_s Z).WarmedH U.vm → h_St Y (h_d Z) b M' U := fun U hU hW => by
  obtain ⟨qK, qN, qE, qT, -⟩ := hF.at hS hU hW
  exact ⟨by rw [hU]; exact hP, qK, qN, qE.narrow (fun q h => Nat.le_trans hbb h.1), qT⟩
theorem l_callX (hz : cOK Z cc own nL d mc ms 0 ret) {y : MethodName} {bytes : ByteArray} {maxL idx np dc : Nat} {ry : Option FieldType} {av rest : List Value} {v : Option Value} {X' : hMem} (mv : h_MV own idx y bytes maxL ry np) (hyc : y.cls = RX9) (hc : hC (h_l Z) hYx (h_d Z) (h_b Z) y bytes maxL ry dc (.ref (h_b Z + 0) :: av) X (v, X')) (hdd : dc + 1 = d) (hst : st = av.reverse ++ .ref (h_b Z + 0) :: rest) (hn : av.length = np) (hw : (rest.map fun v => v.category).sum ≤ 8) (hd : hD cc pc (.invokevirtual idx) 3 pc') (hcs : cs ≤ mc) (hss : ss ≤ ms) (k : hB Z Q (cW Z X' M) cs ss pc' L (v.toList ++ rest)) : hB Z Q (cW Z X M) cs ss pc L st := by
  obtain ⟨hd, rfl⟩ := hd
  obtain ⟨⟨hx, hb, hml, hr0, hown, hts, hlk, hR, hnL⟩, hF, hmc, hms, -⟩ := hz
  obtain ⟨⟨m1, m2, m3, m4⟩, m5, m6, m7⟩ := mv
  intro H locs ls hI hl
  refine l_after (b := h_b Z) (X1 := X') (M1 := M) (Nat.le_refl _) (v := v) (M' := X') (va_runV (As := av) (rest := rest) (cc := cc) (nL := Z.2.2.2) (Ts := h_tbl) (C := y.cls) ⟨hx, hb, hml, hown, hts⟩ hc ⟨callB_of np hts (h_goodT m1) rfl rfl rfl (hts _ m2) (hts _ m5) m3 (h_fit (maxL := maxL) hdd m4 hR), hts _ m6, hts _ m7⟩ ⟨h_St_blind _ _ _ _ _, by rw [hyc]; exact va_recv (q := (RX9, TX9, 10)) hF.1 hI.1 rfl (h_objAt (k := 0) (n := 0) (ci := 8) ⟨by decide, rfl⟩ (by decide)), fun U hU hW => ⟨rfl, l_St (Nat.le_refl _) hF hI.1 hI.2.2 U hU hW⟩⟩ rfl hn hl.1 hst (lv_room hw) hd ⟨by rw [hmc]; exact hcs, by rw [hms]; exact hss⟩) hI.2.2 (fun H1 h1 h2 => ⟨h1, pw_keep hI.2.1 (fun q hq hlt => h2 q hlt (fun h => by have a1 := hq.1; have a2 : q < h_b Z + 88 := h.2; omega))⟩) (fun H1 locs1 hI1 => k H1 locs1 ls hI1 hl)
theorem l_callM (hz : cOK Z cc own nL d mc ms 0 ret) {y : MethodName} {bytes : ByteArray} {maxL idx np dc : Nat} {ry : Option FieldType} {av rest : List Value} {v : Option Value} {M' : hMem} (mv : h_MV own idx y bytes maxL ry np) (hyc : y.cls = RX10) (hc : hC (h_l Z) hYm (h_d Z) (h_b Z + 88) y bytes maxL ry dc (.ref (h_b Z + 88 + 0) :: av) M (v, M')) (hdd : dc + 1 = d) (hst : st = av.reverse ++ .ref (h_b Z + 88 + 0) :: rest) (hn : av.length = np) (hw : (rest.map fun v => v.category).sum ≤ 8) (hd : hD cc pc (.invokevirtual idx) 3 pc') (hcs : cs ≤ mc) (hss : ss ≤ ms) (k : hB Z Q (cW Z X M') cs ss pc' L (v.toList ++ rest)) : hB Z Q (cW Z X M) cs ss pc L st := by
  obtain ⟨hd, rfl⟩ := hd
  obtain ⟨⟨hx, hb, hml, hr0, hown, hts, hlk, hR, hnL⟩, hF, hmc, hms, -⟩ := hz
  obtain ⟨⟨m1, m2, m3, m4⟩, m5, m6, m7⟩ := mv
  have hbb : h_b Z ≤ h_b Z + 88 := by omega
  intro H locs ls hI hl
  refine l_after (b := h_b Z + 88) (X1 := X) (M1 := M') hbb (v := v) (M' := M') (va_runV (As := av) (rest := rest) (cc := cc) (nL := Z.2.2.2) (Ts := h_tbl) (C := y.cls) ⟨hx, hb, hml, hown, hts⟩ hc ⟨callB_of np hts (h_goodT m1) rfl rfl rfl (hts _ m2) (hts _ m5) m3 (h_fit (maxL := maxL) hdd m4 hR), hts _ m6, hts _ m7⟩ ⟨h_St_blind _ _ _ _ _, by rw [hyc]; exact va_recv (q := (RX10, TX10, 45)) hF.1 hI.2.1 rfl (h_objAt (k := 0) (n := 0) (ci := 9) ⟨by decide, rfl⟩ (by decide)), fun U hU hW => ⟨rfl, l_St hbb hF hI.2.1 hI.2.2 U hU hW⟩⟩ rfl hn hl.1 hst (lv_room hw) hd ⟨by rw [hmc]; exact hcs, by rw [hms]; exact hss⟩) hI.2.2 (fun H1 h1 h2 => ⟨pw_keep hI.1 (fun q hq hlt => h2 q hlt (fun h => by have a1 := h.1; have a2 : q < h_b Z + 88 := hq.2; omega)), h1⟩) (fun H1 locs1 hI1 => k H1 locs1 ls hI1 hl)
end LRows
