/-! TEXT: x reads all three parts -/
theorem f_part {T E a kf : Nat} {K V : Nat → Int32} {P : Nat → Nat} {Y0 Y : hMem} {key : Int32} (hT : T < 6) (hP : ∀ k, P k < 2 ^ 31) (ha : a < 3) (k1 : key ≠ 1) (h : XF T E K V P Y0 kf Y) : ∃ Y' v, fX5_readPart key (nI a) Y = some Y' ∧ XF T E K V P (h_up Y0 (58 + 4 * T) a v) kf Y' := by
  unfold fX5_readPart gX5_readOr
  obtain ⟨Y1, e1, e2⟩ := h.exp hT (hP kf) k1
  obtain ⟨Y2, b1, b2⟩ := x_fault hT (hP kf) (E := E) (K := K) (V := V) (Y0 := Y0) 40 0 0 Y1 (by omega) (by omega) (by omega) e2
  obtain ⟨Z2, f1, f2⟩ := b2.exp hT (hP kf) (a := 59) (by decide)
  obtain ⟨Z3, v, d1, d2⟩ := f2.endP hT ha
  rw [e1, Option.bind_some, show fRR_read 40 0 0 Y1 = some Y2 from b1, Option.bind_some, f1, Option.bind_some, show Z2 30 8 = nI (56 + 4 * T) from f2.1.2.2.2.1, nI_clamp (by omega), if_pos (tx_isB hT), d1, Option.bind_some]
  exact ⟨Z3, v, rfl, d2⟩
/-- the end of a text, or a fault -/
theorem x_last {T E k : Nat} {K V : Nat → Int32} {P : Nat → Nat} {Y0 Y : hMem} {c : List Int32} (hT : T < 6) (hE : tkE E K) (h : XS T E K V P Y0 k c Y) (hl : c.length ≤ 160) : ∃ Y', fX5_expect 0 Y = some Y' ∧ (∀ a, a ≠ 30 → Y' a = Y a) ∧ Y' 30 0 = Y 30 0 ∧ ((K k = 0 ∧ Y' 30 7 = -1) ∨ (K k ≠ 0 ∧ Y' 30 7 = nI (P k))) := by
  have hK := h.2.2.1
  have h5 := h.2.1
  have h7 := h.2.2.2.1
  have hk := h.2.2.2.2.1
  have hE160 := hE.1
  unfold fX5_expect
  rw [hK]
  by_cases e : K k = 0
  · rw [if_pos e]
    unfold fX5_advance
    simp only [h5]
    by_cases h160 : 160 ≤ k
    · rw [if_pos (show (160 : Int32) ≤ nI k from nI_le (a := 160) h160 (by omega)), if_pos (ib_mk (by omega) (by omega)), Option.bind_some]
      refine ⟨_, rfl, fun a ha => m_row ha, ?_, Or.inl ⟨e, ?_⟩⟩
      · simp (disch := omega) only [m_own, u_n]
      · simp (disch := omega) only [m_own, u_n]; exact h7
    · rw [if_neg (show ¬ (160 : Int32) ≤ nI k from nI_ge (b := 160) (by omega) (by decide)), nI_1]
      simp only [m_own, u_s]
      rw [if_pos (ib_mk (by omega) (by omega)), Option.bind_some]
      refine ⟨_, rfl, fun a ha => by rw [m_row ha, m_row ha], ?_, Or.inl ⟨e, ?_⟩⟩
      · simp (disch := omega) only [m_own, u_n]
      · simp (disch := omega) only [m_own, u_n]; exact h7
  · rw [if_neg e]
    obtain ⟨Y', y1, y2⟩ := h.ref hT hE160 hl
    unfold fX5_refuse at y1
    simp only [h5, h7] at y1
    rw [if_neg (show ¬ (0 : Int32) ≤ -1 from by decide), if_pos (ib_mk (by omega) (by omega))] at y1
    cases y1
    unfold fX5_refuse
    simp only [h5, h7]
    rw [if_neg (show ¬ (0 : Int32) ≤ -1 from by decide), if_pos (ib_mk (by omega) (by omega)), Option.bind_some]
    refine ⟨_, rfl, fun a ha => by rw [m_row ha, m_row ha], ?_, Or.inr ⟨e, y2.2.2.1⟩⟩
    simp (disch := omega) only [m_own, u_n]
