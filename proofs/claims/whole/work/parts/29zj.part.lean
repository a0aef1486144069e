/-! TEXT: x reads a part -/
def prt (K V : Nat → Int32) (key : Int32) (k : Nat) : Except Nat (List Int32 × Nat) := if K k = key then (match prs K V 40 0 0 (k + 1) with | .error e => .error e | .ok s => if K s.2 = 59 then .ok (s.1, s.2 + 1) else .error s.2) else .error k
theorem XS.endP {T E k : Nat} {K V : Nat → Int32} {P : Nat → Nat} {Y0 Y : hMem} {c : List Int32} (hT : T < 6) (h : XS T E K V P Y0 k c Y) {a : Nat} (ha : a < 3) : ∃ Y', fX4_endPart (56 + 4 * T) (nI a) Y = some Y' ∧ XS T E K V P (h_up Y0 (58 + 4 * T) a (nI c.length)) k c Y' := by
  obtain ⟨⟨r1, r2, r3, r4, r5, r6⟩, h5, h6, h7, hk2, hc, hw⟩ := h
  have e2 : 56 + 4 * T + 2 = 58 + 4 * T := by omega
  unfold fX4_endPart
  rw [if_pos (tx_isB hT), if_neg (nI_pos (by omega)), if_neg (show ¬ (3 : Int32) ≤ nI a from nI_ge (b := 3) ha (by decide)), if_pos (ib_mk ha (by decide)), nI_clamp (by omega), e2, hc]
  refine ⟨_, rfl, ⟨?_, ?_, ?_, ?_, ?_, ?_⟩, ?_, ?_, ?_, hk2, ?_, ?_⟩
  · intro j hj; simp (disch := omega) only [m_row]; exact r1 j hj
  · intro j hj; simp (disch := omega) only [m_row]; exact r2 j hj
  · intro j hj; simp (disch := omega) only [m_row]; exact r3 j hj
  · simp (disch := omega) only [m_row]; exact r4
  · intro q a1 a2 a3
    by_cases e : q = 58 + 4 * T
    · subst e; rw [m_own, m_own, r5 _ a1 a2 a3]
    · rw [m_row e, m_row e]; exact r5 q a1 a2 a3
  · simp (disch := omega) only [m_row]; exact r6
  · simp (disch := omega) only [m_row]; exact h5
  · simp (disch := omega) only [m_row]; exact h6
  · simp (disch := omega) only [m_row]; exact h7
  · simp (disch := omega) only [m_row]; exact hc
  · intro i hi; simp (disch := omega) only [m_row]; exact hw i hi
theorem XF.endP {T E kf : Nat} {K V : Nat → Int32} {P : Nat → Nat} {Y0 Y : hMem} (hT : T < 6) (h : XF T E K V P Y0 kf Y) {a : Nat} (ha : a < 3) : ∃ Y' v, fX4_endPart (56 + 4 * T) (nI a) Y = some Y' ∧ XF T E K V P (h_up Y0 (58 + 4 * T) a v) kf Y' := by
  obtain ⟨⟨r1, r2, r3, r4, r5, r6⟩, h6, h7, c, c1, hc⟩ := h
  have e2 : 56 + 4 * T + 2 = 58 + 4 * T := by omega
  unfold fX4_endPart
  rw [if_pos (tx_isB hT), if_neg (nI_pos (by omega)), if_neg (show ¬ (3 : Int32) ≤ nI a from nI_ge (b := 3) ha (by decide)), if_pos (ib_mk ha (by decide)), nI_clamp (by omega), e2, hc]
  refine ⟨_, nI c, rfl, ⟨?_, ?_, ?_, ?_, ?_, ?_⟩, ?_, ?_, c, c1, ?_⟩
  · intro j hj; simp (disch := omega) only [m_row]; exact r1 j hj
  · intro j hj; simp (disch := omega) only [m_row]; exact r2 j hj
  · intro j hj; simp (disch := omega) only [m_row]; exact r3 j hj
  · simp (disch := omega) only [m_row]; exact r4
  · intro q a1 a2 a3
    by_cases e : q = 58 + 4 * T
    · subst e; rw [m_own, m_own, r5 _ a1 a2 a3]
    · rw [m_row e, m_row e]; exact r5 q a1 a2 a3
  · simp (disch := omega) only [m_row]; exact r6
  · simp (disch := omega) only [m_row]; exact h6
  · simp (disch := omega) only [m_row]; exact h7
  · simp (disch := omega) only [m_row]; exact hc
theorem x_part {T E k a : Nat} {K V : Nat → Int32} {P : Nat → Nat} {Y0 Y : hMem} {c : List Int32} {key : Int32} (hT : T < 6) (hE : tkE E K) (hP : ∀ k, P k < 2 ^ 31) (ha : a < 3) (k0 : key ≠ 0) (k1 : key ≠ 1) (h : XS T E K V P Y0 k c Y) (hl : c.length ≤ k) : ∃ Y', fX5_readPart key (nI a) Y = some Y' ∧ (∀ s, prt K V key k = .ok s → XS T E K V P (h_up Y0 (58 + 4 * T) a (nI (c ++ s.1).length)) s.2 (c ++ s.1) Y' ∧ (c ++ s.1).length ≤ s.2) ∧ ∀ kf, prt K V key k = .error kf → (∃ v, XF T E K V P (h_up Y0 (58 + 4 * T) a v) kf Y') ∧ kf ≤ E := by
  have hE160 := hE.1
  have hk := h.2.2.2.2.1
  unfold fX5_readPart gX5_readOr prt
  -- what is left when a fault is met
  have rest : ∀ kf (Z : hMem), XF T E K V P Y0 kf Z → ∃ Y' v, ((fX5_expect 59 Z).bind fun q13 => if h_isB hYx (q13 30 8).toNatClampNeg 3 0 = true then ((fX4_endPart ((q13 30 8).toNatClampNeg) (nI a) q13).bind fun q21 => some q21) else none) = some Y' ∧ XF T E K V P (h_up Y0 (58 + 4 * T) a v) kf Y' := fun kf Z hZ => by
    obtain ⟨Z2, e1, e2⟩ := hZ.exp hT (hP kf) (a := 59) (by decide)
    obtain ⟨Z3, v, d1, d2⟩ := e2.endP hT ha
    rw [e1, Option.bind_some, show Z2 30 8 = nI (56 + 4 * T) from e2.1.2.2.2.1, nI_clamp (by omega), if_pos (tx_isB hT), d1, Option.bind_some]
    exact ⟨Z3, v, rfl, d2⟩
  obtain ⟨Y1, e1, e2⟩ := h.exp hT hE (by omega) k0 k1
  rw [e1, Option.bind_some]
  rcases e2 with ⟨q1, q2⟩ | ⟨q1, q2⟩
  · rw [if_pos q1]
    obtain ⟨Y2, b1, b2⟩ := x_prs hT hE hP (Y0 := Y0) (V := V) 40 0 0 (k + 1) c Y1 (by omega) (by omega) (by omega) q2 (by omega)
    rw [show fRR_read 40 0 0 Y1 = some Y2 from b1, Option.bind_some]
    cases hres : prs K V 40 0 0 (k + 1) with
    | error kf =>
      obtain ⟨x1, x2⟩ := b2.2 kf hres
      obtain ⟨Y3, v, d1, d2⟩ := rest kf Y2 x1
      exact ⟨Y3, d1, fun s e => (by cases e), fun kf' e => (by cases e; exact ⟨⟨v, d2⟩, x2⟩)⟩
    | ok s =>
      obtain ⟨x1, x2⟩ := b2.1 s hres
      have hs := x1.2.2.2.2.1
      dsimp only
      obtain ⟨Y3, g1, g2⟩ := x1.exp hT hE (by rw [List.length_append]; omega) (a := 59) (by decide) (by decide)
      rw [g1, Option.bind_some]
      rcases g2 with ⟨w1, w2⟩ | ⟨w1, w2⟩
      · obtain ⟨Y4, d1, d2⟩ := w2.endP hT ha
        rw [if_pos w1, show Y3 30 8 = nI (56 + 4 * T) from w2.1.2.2.2.1, nI_clamp (by omega), if_pos (tx_isB hT), d1, Option.bind_some]
        refine ⟨Y4, rfl, fun s' e => ?_, fun kf e => (by cases e)⟩
        cases e
        exact ⟨d2, by rw [List.length_append]; show c.length + s.1.length ≤ s.2 + 1; omega⟩
      · obtain ⟨Y4, v, d1, d2⟩ := w2.endP hT ha
        rw [if_neg w1, show Y3 30 8 = nI (56 + 4 * T) from w2.1.2.2.2.1, nI_clamp (by omega), if_pos (tx_isB hT), d1, Option.bind_some]
        exact ⟨Y4, rfl, fun s' e => (by cases e), fun kf e => (by cases e; exact ⟨⟨v, d2⟩, hs⟩)⟩
  · rw [if_neg q1]
    obtain ⟨Y2, b1, b2⟩ := x_fault hT (hP k) (E := E) (K := K) (V := V) (Y0 := Y0) 40 0 0 Y1 (by omega) (by omega) (by omega) q2
    rw [show fRR_read 40 0 0 Y1 = some Y2 from b1, Option.bind_some]
    obtain ⟨Y3, v, d1, d2⟩ := rest k Y2 b2
    exact ⟨Y3, d1, fun s' e => (by cases e), fun kf e => (by cases e; exact ⟨⟨v, d2⟩, hk⟩)⟩
