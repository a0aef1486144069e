/-! TEXT: x reads a part -/
def prt (K V : Nat → Int32) (key : Int32) (k : Nat) : Except Nat (List Int32 × Nat) := if K k = key then (match prs K V 40 0 0 (k + 1) with | .error e => .error e | .ok s => if K s.2 = 59 then .ok (s.1, s.2 + 1) else .error s.2) else .error k
theorem XS.endP {T E k : Nat} {K V : Nat → Int32} {P : Nat → Nat} {Y0 Y : hMem} {c : List Int32} (hT : T < 6) (h : XS T E K V P Y0 k c Y) {a : Nat} (ha : a < 3) : ∃ Y', fX4_endPart (56 + 4 * T) (nI a) Y = some Y' ∧ XS T E K V P (h_up Y0 (58 + 4 * T) a (nI c.length)) k c Y' := by
  obtain ⟨⟨r1, r2, r3, r4, r5, r6⟩, h5, h6, h7, hk2, hc, hw⟩ := h
  have e2 : 56 + 4 * T + 2 = 58 + 4 * T := by omega
  unfold fX4_endPart
  rw [if_pos (tx_isB hT), if_neg (nI_pos (by omega)), if_neg (show ¬ (3 : Int32) ≤ nI a from nI_ge (b := 3) ha (by decide)), if_pos (ib_mk ha (by decide)), nI_clamp (by omega), e2, hc]
  refine ⟨_, rfl, ⟨?_, ?_, ?_, ?_, ?_, ?_⟩, ?_, ?_, ?_, hk2, ?_, ?_⟩
  · intro j hj; simp (disch := omega) only [m_row]; exact r1 j hj
  · intro j hj; simp (disch := omega) only [m_row]; exact r2 j hj
  · intro j hj; simp (disch := omega) only [m_row]; exact r3 j hj
  · simp (disch := omega) only [m_row]; exact r4
  · intro q a1 a2 a3
    by_cases e : q = 58 + 4 * T
    · subst e; rw [m_own, m_own, r5 _ a1 a2 a3]
    · rw [m_row e, m_row e]; exact r5 q a1 a2 a3
  · simp (disch := omega) only [m_row]; exact r6
  · simp (disch := omega) only [m_row]; exact h5
  · simp (disch := omega) only [m_row]; exact h6
  · simp (disch := omega) only [m_row]; exact h7
  · simp (disch := omega) only [m_row]; exact hc
  · intro i hi; simp (disch := omega) only [m_row]; exact hw i hi
theorem XF.endP {T E kf : Nat} {K V : Nat → Int32} {P : Nat → Nat} {Y0 Y : hMem} (hT : T < 6) (h : XF T E K V P Y0 kf Y) {a : Nat} (ha : a < 3) : ∃ Y' v, fX4_endPart (56 + 4 * T) (nI a) Y = some Y' ∧ XF T E K V P (h_up Y0 (58 + 4 * T) a v) kf Y' := by
  obtain ⟨⟨r1, r2, r3, r4, r5, r6⟩, h6, h7, c, c1, hc⟩ := h
  have e2 : 56 + 4 * T + 2 = 58 + 4 * T := by omega
  unfold fX4_endPart
  rw [if_pos (tx_isB hT), if_neg (nI_pos (by omega)), if_neg (show ¬ (3 : Int32) ≤ nI a from nI_ge (b := 3) ha (by decide)), if_pos (ib_mk ha (by decide)), nI_clamp (by omega), e2, hc]
  refine ⟨_, nI c, rfl, ⟨?_, ?_, ?_, ?_, ?_, ?_⟩, ?_, ?_, c, c1, ?_⟩
  · intro j hj; simp (disch := omega) only [m_row]; exact r1 j hj
  · intro j hj; simp (disch := omega) only [m_row]; exact r2 j hj
  · intro j hj; simp (disch := omega) only [m_row]; exact r3 j hj
  · simp (disch := omega) only [m_row]; exact r4
  · intro q a1 a2 a3
    by_cases e : q = 58 + 4 * T
    · subst e; rw [m_own, m_own, r5 _ a1 a2 a3]
    · rw [m_row e, m_row e]; exact r5 q a1 a2 a3
  · simp (disch := omega) only [m_row]; exact r6
  · simp (disch := omega) only [m_row]; exact h6
  · simp (disch := omega) only [m_row]; exact h7
  · simp (disch := omega) only [m_row]; exact hc
