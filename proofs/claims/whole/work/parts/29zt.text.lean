/-! TEXT: both sides are alike -/
theorem vb_t {b : Nat → Int32} {n : Nat} (hn : n ≤ 160) (hb : ∀ i, i < 160 → h_ib (b i) 256) : VB (ktF b n) (vtF b n) := fun k => by
  obtain ⟨h1, h2⟩ := tV_n hn hb (plc_le b n k)
  refine ⟨fun e => ?_, fun e => ?_⟩
  · obtain ⟨v, v1, v2⟩ := h1 e
    show -6 ≤ tV b n (plc b n k) ∧ tV b n (plc b n k) ≤ 9999
    rw [v2]
    exact ⟨Int32.le_trans (show (-6 : Int32) ≤ 0 by decide) (nI_pos' (by omega)), nI_le (b := 9999) (by omega) (by decide)⟩
  · obtain ⟨v, v1, v2⟩ := h2 e
    show -6 ≤ -1 - tV b n (plc b n k) ∧ -1 - tV b n (plc b n k) ≤ 9999
    rw [v2]
    exact (tr_nm v v1).2
theorem getD_l {a c : List Int32} {i : Nat} (h : i < a.length) : (a ++ c).getD i 0 = a.getD i 0 := by
  rw [List.getD_eq_getElem?_getD, List.getD_eq_getElem?_getD, List.getElem?_append_left h]
theorem getD_r {a c : List Int32} {i : Nat} : (a ++ c).getD (a.length + i) 0 = c.getD i 0 := by
  rw [List.getD_eq_getElem?_getD, List.getD_eq_getElem?_getD, List.getElem?_append_right (by omega), Nat.add_sub_cancel_left]
theorem text_both {X M : hMem} {T : Nat} (hT : T < 6) (h4 : X 0 4 = nI T) (h14 : M 0 14 = nI T) (tp : gTape X M) (wd : ∀ i, i < 96 → M 17 i = wdsL.getD i 0) : ∃ (n : Nat) (v : Int32) (X' M' : hMem), X 30 0 = nI n ∧ n ≤ 160 ∧ fX9_text X = some (v, X') ∧ fX10_text M = some (v, M') ∧ XEnd T X X' ∧ MEnd T M M' ∧ (((∃ kf, txt (ktF (X 31) n) (vtF (X 31) n) = .error kf) ∧ X' 0 4 = nI T ∧ M' 0 14 = nI T) ∨ ((∃ w, txt (ktF (X 31) n) (vtF (X 31) n) = .ok w) ∧ v = nI T ∧ X' 0 4 = nI (T + 1) ∧ M' 0 14 = nI (T + 1) ∧ gText (X' (57 + 4 * T)) (X' (58 + 4 * T)) (fun i => M' 10 (200 * T + i)) (fun p => M' 11 (4 * T + p)))) := by
  obtain ⟨⟨n1, n2⟩, hby⟩ := tp
  obtain ⟨n, q1, q2, q3⟩ := ib_ex n2
  have hn : n ≤ 160 := by omega
  have hXn : X 30 0 = nI n := n1.trans q3
  have hb : ∀ i, i < 160 → h_ib (X 31 i) 256 := fun i hi => by rw [(hby i hi).1]; exact (hby i hi).2
  have hTX : TXx (X 31) n X := ⟨hn, hXn, rfl⟩
  have hTM : TXm (X 31) n M := ⟨hn, q3, fun i hi => (hby i hi).1.symm, wd⟩
  obtain ⟨E, hE, hmin⟩ := ex_E (b := X 31) hn
  obtain ⟨x1, x2⟩ := x_text hT h4 hTX hb hE hmin
  obtain ⟨m1, m2⟩ := m_text hT h14 hTM hb hE (vok_t hn hb)
  have hVB := vb_t hn hb
  cases ht : txt (ktF (X 31) n) (vtF (X 31) n) with
  | error kf =>
    obtain ⟨X', a1, a2, a3⟩ := x1 kf ht
    obtain ⟨M', c1, c2, c3⟩ := m1 kf ht
    exact ⟨n, _, X', M', hXn, hn, a1, c1, a2, c2, Or.inl ⟨⟨kf, ht⟩, a3, c3⟩⟩
  | ok w =>
    obtain ⟨w1, w2, w3⟩ := w
    obtain ⟨X', a1, a2, a3, a4, a5, a6, a7, a8⟩ := x2 w1 w2 w3 ht
    obtain ⟨M', c1, c2, c3, c4, c5, c6, c7, c8⟩ := m2 w1 w2 w3 ht
    obtain ⟨f1, f2, f3⟩ := txt_wf hVB ht
    have l12 : (w1 ++ w2).length = w1.length + w2.length := List.length_append
    have l123 : (w1 ++ w2 ++ w3).length = w1.length + w2.length + w3.length := by rw [List.length_append, l12]
    refine ⟨n, _, X', M', hXn, hn, a1, c1, a2, c2, Or.inr ⟨⟨_, ht⟩, rfl, a3, c3, w1.length, (w1 ++ w2).length, (w1 ++ w2 ++ w3).length, a5, a6, a7, by omega, by omega, a8, ?_, ?_, ?_, ?_, c5, c6, c7, c8⟩⟩
    · exact wfG_R w1 0 1 0 f1 (Nat.le_refl _) (fun j hj => by rw [Nat.zero_add, a4 j (by omega), List.append_assoc, getD_l hj])
    · rw [show (w1 ++ w2).length - w1.length = w2.length from by omega]
      exact wfG_R w2 0 1 _ f2 (Nat.le_refl _) (fun j hj => by rw [a4 _ (by omega), List.append_assoc, getD_r, getD_l hj])
    · rw [show (w1 ++ w2 ++ w3).length - (w1 ++ w2).length = w3.length from by omega]
      exact wfG_R w3 0 1 _ f3 (Nat.le_refl _) (fun j hj => by rw [a4 _ (by omega), getD_r])
    · intro i hi
      show M' 10 (200 * T + i) = _
      rw [c4 i hi, a4 i hi]
theorem eq_text {X M : hMem} (R : RR X M) : EqC (fX9_text X) (fX10_text M) := by
  obtain ⟨T, t1, t2, t3, t4, n, k, f1, f2, tp, sh, tx, wd⟩ := id R
  by_cases e6 : T = 6
  · subst e6
    unfold fX9_text fX10_text
    rw [t3, t4, if_neg (show ¬ nI 6 < 6 by decide), if_pos (show nI 6 = 6 from rfl)]
    exact EqC.now R
  · obtain ⟨n', v, X', M', -, -, a1, a2, ⟨x1, x2, x3⟩, ⟨m1, m2, m3, m4, m5⟩, a3⟩ := text_both (by omega) t3 t4 tp wd
    refine ⟨v, X', M', a1, a2, ?_⟩
    have hN : gNow T X' M' := by
      refine gNow_n n (fun a h1 h2 => x1 a (by omega) (by omega) (by omega) (by omega) (by omega) (by omega) (by omega) (by omega)) (fun a h1 h2 => m1 a (by omega) (by omega) (by omega) (by omega)) ?_ ?_ ?_
      · rw [x1 1 (by omega) (by omega) (by omega) (by omega) (by omega) (by omega) (by omega) (by omega), m2 3 (by unfold kY; omega) (by omega) (by omega)]; exact n.2.2.2.2.1
      · rw [x1 1 (by omega) (by omega) (by omega) (by omega) (by omega) (by omega) (by omega) (by omega), m2 8 (by unfold kY; omega) (by omega) (by omega)]; exact n.2.2.2.2.2.1
      · rw [x1 1 (by omega) (by omega) (by omega) (by omega) (by omega) (by omega) (by omega) (by omega), m2 15 (by unfold kY; omega) (by omega) (by omega)]; exact n.2.2.2.2.2.2
    have hK : gKept T X' M' := gKept_c k (fun a h1 h2 => x1 a (by omega) (by omega) (by omega) (by omega) (by omega) (by omega) (by omega) (by omega)) (m1 12 (by omega) (by omega) (by omega) (by omega)) (fun j h1 h2 => m2 j (by unfold kY; omega) (by omega) (by omega))
    have hF : X' 0 2 = M' 0 16 := by rw [x2 2 (by omega), m2 16 (by unfold kY; omega) (by omega) (by omega)]; exact f1
    have h39 : M' 0 39 = 0 := by rw [m2 39 (by unfold kY; omega) (by omega) (by omega)]; exact f2
    have hTp : gTape X' M' := by
      refine ⟨⟨by rw [x3, m5], by rw [m5]; exact ib_mk (j := 0) (by omega) (by omega)⟩, fun i hi => ?_⟩
      rw [x1 31 (by omega) (by omega) (by omega) (by omega) (by omega) (by omega) (by omega) (by omega), m1 9 (by omega) (by omega) (by omega) (by omega)]
      exact tp.2 i hi
    have hSh : gSheets X' M' := gSheets_c sh (fun a h => x1 a (by omega) (by omega) (by omega) (by omega) (by omega) (by omega) (by omega) (by omega)) (fun a h1 h2 => m1 a (by omega) (by omega) (by omega) (by omega))
    have hTx : gTexts T X' M' := fun t ht => by
      have g := tx t ht
      rw [x1 (57 + 4 * t) (by omega) (by omega) (by omega) (by omega) (by omega) (by omega) (by omega) (by omega), x1 (58 + 4 * t) (by omega) (by omega) (by omega) (by omega) (by omega) (by omega) (by omega) (by omega)]
      obtain ⟨e0, e1, e2, g1, g2, g3, g4, g5, g6, g7, g8, g9, g10, g11, g12, g13, g14⟩ := g
      refine ⟨e0, e1, e2, g1, g2, g3, g4, g5, g6, g7, g8, g9, fun i hi => ?_, ?_, ?_, ?_, ?_⟩
      · show M' 10 (200 * t + i) = _
        rw [m3 _ (by omega)]; exact g10 i hi
      · show M' 11 (4 * t + 0) = _
        rw [m4 _ (by omega)]; exact g11
      · show M' 11 (4 * t + 1) = _
        rw [m4 _ (by omega)]; exact g12
      · show M' 11 (4 * t + 2) = _
        rw [m4 _ (by omega)]; exact g13
      · show M' 11 (4 * t + 3) = _
        rw [m4 _ (by omega)]; exact g14
    have hW : ∀ i, i < 96 → M' 17 i = wdsL.getD i 0 := fun i hi => by rw [m1 17 (by omega) (by omega) (by omega) (by omega)]; exact wd i hi
    rcases a3 with ⟨-, b1, b2⟩ | ⟨-, -, b1, b2, b3⟩
    · exact ⟨T, t1, t2, b1, b2, hN, hK, hF, h39, hTp, hSh, hTx, hW⟩
    · refine ⟨T + 1, by omega, by omega, b1, b2, ?_, ?_, hF, h39, hTp, hSh, ?_, hW⟩
      · exact ⟨hN.1, hN.2.1, hN.2.2.1, hN.2.2.2.1, hN.2.2.2.2.1, hN.2.2.2.2.2.1, hN.2.2.2.2.2.2.1, ib_mono hN.2.2.2.2.2.2.2 (by omega)⟩
      · exact hK.imp id (fun hK => ⟨hK.1, hK.2.1, hK.2.2.1, hK.2.2.2.1, hK.2.2.2.2.1, hK.2.2.2.2.2.1, hK.2.2.2.2.2.2.1, ib_mono hK.2.2.2.2.2.2.2 (by omega)⟩)
      · intro t ht
        by_cases e : t = T
        · subst e; exact b3
        · exact hTx t (by omega)
