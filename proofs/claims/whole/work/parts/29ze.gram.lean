/-! TEXT: the grammar, a spec parser; x's small steps -/
def lpS (K : Nat → Int32) (g : Nat → Except Nat (List Int32 × Nat)) (op : Int32 → Option Int32) : Nat → List Int32 × Nat → Except Nat (List Int32 × Nat)
  | 0, s => .ok s
  | m + 1, s => match op (K s.2) with | none => .ok s | some o => (match g (s.2 + 1) with | .error e => .error e | .ok r => lpS K g op m (s.1 ++ r.1 ++ [o], r.2))
theorem lpS_s (K : Nat → Int32) (g : Nat → Except Nat (List Int32 × Nat)) (op : Int32 → Option Int32) (m : Nat) (s : List Int32 × Nat) : lpS K g op (m + 1) s = (match op (K s.2) with | none => .ok s | some o => (match g (s.2 + 1) with | .error e => .error e | .ok r => lpS K g op m (s.1 ++ r.1 ++ [o], r.2))) := rfl
def opOr (v : Int32) : Option Int32 := if v = 7 then some (-11) else none
def opAnd (v : Int32) : Option Int32 := if v = 8 then some (-12) else none
def opCmp (v : Int32) : Option Int32 := if v = 60 then some (-14) else if v = 61 then some (-15) else none
def opSum (v : Int32) : Option Int32 := if v = 43 then some (-16) else if v = 45 then some (-17) else none
def opMul (v : Int32) : Option Int32 := if v = 42 then some (-18) else none
/-- levels 0 or, 1 and, 2 not, 3 sum, 4 product, 5 one; d deep, from token k -/
def prs (K V : Nat → Int32) : Nat → Nat → Nat → Nat → Except Nat (List Int32 × Nat)
  | 0, _, _, k => .error k
  | f + 1, lv, d, k => match lv with
    | 0 => (match prs K V f 1 d k with | .error e => .error e | .ok s => lpS K (prs K V f 1 d) opOr 160 s)
    | 1 => (match prs K V f 2 d k with | .error e => .error e | .ok s => lpS K (prs K V f 2 d) opAnd 160 s)
    | 2 => if K k = 9 ∧ d < 5 then (match prs K V f 2 (d + 1) (k + 1) with | .error e => .error e | .ok s => .ok (s.1 ++ [-13], s.2))
        else (match prs K V f 3 d k with | .error e => .error e | .ok s => lpS K (prs K V f 3 d) opCmp 1 s)
    | 3 => (match prs K V f 4 d k with | .error e => .error e | .ok s => lpS K (prs K V f 4 d) opSum 160 s)
    | 4 => (match prs K V f 5 d k with | .error e => .error e | .ok s => lpS K (prs K V f 5 d) opMul 160 s)
    | _ => if K k = 2 then .ok ([V k], k + 1) else if K k = 3 then .ok ([-1 - V k], k + 1)
        else if K k = 45 ∧ d < 5 then (match prs K V f 5 (d + 1) (k + 1) with | .error e => .error e | .ok s => .ok (s.1 ++ [-19], s.2))
        else if K k = 40 ∧ d < 5 then (match prs K V f 0 (d + 1) (k + 1) with | .error e => .error e | .ok s => if K s.2 = 41 then .ok (s.1, s.2 + 1) else .error s.2)
        else .error k
/-- the rows of tokens stand up to the last one E, the rest as in Y0 -/
def XR (T E : Nat) (K V : Nat → Int32) (P : Nat → Nat) (Y0 Y : hMem) : Prop := (∀ k, k ≤ E → Y 32 k = K k) ∧ (∀ k, k ≤ E → Y 33 k = nI (P k)) ∧ (∀ k, k ≤ E → Y 34 k = V k) ∧ Y 30 8 = nI (56 + 4 * T) ∧ (∀ a, a ≠ 30 → a ≠ 56 + 4 * T → a ≠ 57 + 4 * T → Y a = Y0 a) ∧ Y 30 0 = Y0 30 0
/-- x reads on: at token k, this code -/
def XS (T E : Nat) (K V : Nat → Int32) (P : Nat → Nat) (Y0 : hMem) (k : Nat) (c : List Int32) (Y : hMem) : Prop := XR T E K V P Y0 Y ∧ Y 30 5 = nI k ∧ Y 30 6 = K k ∧ Y 30 7 = -1 ∧ k ≤ E ∧ Y (56 + 4 * T) 3 = nI c.length ∧ ∀ i, i < c.length → Y (57 + 4 * T) i = c.getD i 0
/-- x has met a fault at token kf -/
def XF (T E : Nat) (K V : Nat → Int32) (P : Nat → Nat) (Y0 : hMem) (kf : Nat) (Y : hMem) : Prop := XR T E K V P Y0 Y ∧ Y 30 6 = 1 ∧ Y 30 7 = nI (P kf) ∧ ∃ c, c ≤ 160 ∧ Y (56 + 4 * T) 3 = nI c
theorem tx_isB {T : Nat} (hT : T < 6) : h_isB hYx (56 + 4 * T) 3 0 = true := h_forall (N := 6) (p := fun T => h_isB hYx (56 + 4 * T) 3 0) (by decide +kernel) hT
theorem XS.adv {T E k : Nat} {K V : Nat → Int32} {P : Nat → Nat} {Y0 Y : hMem} {c : List Int32} (hT : T < 6) (hE : E ≤ 160) (h : XS T E K V P Y0 k c Y) (hk : k < E) : ∃ Y', fX5_advance Y = some Y' ∧ XS T E K V P Y0 (k + 1) c Y' := by
  obtain ⟨⟨r1, r2, r3, r4, r5, r6⟩, h5, h6, h7, hk2, hc, hw⟩ := h
  unfold fX5_advance
  simp only [h5]
  rw [if_neg (show ¬ (160 : Int32) ≤ nI k from nI_ge (b := 160) (by omega) (by decide)), nI_1]
  simp only [m_own, u_s]
  rw [if_pos (ib_mk (by omega) (by omega)), nI_clamp (by omega)]
  refine ⟨_, rfl, ⟨?_, ?_, ?_, ?_, ?_, ?_⟩, ?_, ?_, ?_, by omega, ?_, ?_⟩
  · intro j hj; simp (disch := omega) only [m_row]; exact r1 j hj
  · intro j hj; simp (disch := omega) only [m_row]; exact r2 j hj
  · intro j hj; simp (disch := omega) only [m_row]; exact r3 j hj
  · simp (disch := omega) only [m_own, u_n]; exact r4
  · intro a a1 a2 a3; simp (disch := omega) only [m_row]; exact r5 a a1 a2 a3
  · simp (disch := omega) only [m_own, u_n]; exact r6
  · simp (disch := omega) only [m_own, u_n, u_s]
  · simp (disch := omega) only [m_row, m_own, u_s]; exact r1 (k + 1) (by omega)
  · simp (disch := omega) only [m_own, u_n]; exact h7
  · simp (disch := omega) only [m_row]; exact hc
  · intro i hi; simp (disch := omega) only [m_row]; exact hw i hi
theorem XS.ref {T E k : Nat} {K V : Nat → Int32} {P : Nat → Nat} {Y0 Y : hMem} {c : List Int32} (hT : T < 6) (hE : E ≤ 160) (h : XS T E K V P Y0 k c Y) (hl : c.length ≤ 160) : ∃ Y', fX5_refuse Y = some Y' ∧ XF T E K V P Y0 k Y' := by
  obtain ⟨⟨r1, r2, r3, r4, r5, r6⟩, h5, h6, h7, hk2, hc, hw⟩ := h
  unfold fX5_refuse
  simp only [h5, h7]
  rw [if_neg (show ¬ (0 : Int32) ≤ -1 from by decide), if_pos (ib_mk (by omega) (by omega)), nI_clamp (by omega), r2 k hk2]
  refine ⟨_, rfl, ⟨?_, ?_, ?_, ?_, ?_, ?_⟩, ?_, ?_, c.length, by omega, ?_⟩
  · intro j hj; simp (disch := omega) only [m_row]; exact r1 j hj
  · intro j hj; simp (disch := omega) only [m_row]; exact r2 j hj
  · intro j hj; simp (disch := omega) only [m_row]; exact r3 j hj
  · simp (disch := omega) only [m_own, u_n]; exact r4
  · intro a a1 a2 a3; simp (disch := omega) only [m_row]; exact r5 a a1 a2 a3
  · simp (disch := omega) only [m_own, u_n]; exact r6
  · simp (disch := omega) only [m_own, u_s]
  · simp (disch := omega) only [m_own, u_n, u_s]
  · simp (disch := omega) only [m_row]; exact hc
theorem XF.ref {T E kf : Nat} {K V : Nat → Int32} {P : Nat → Nat} {Y0 Y : hMem} (hT : T < 6) (hP : P kf < 2 ^ 31) (h : XF T E K V P Y0 kf Y) : ∃ Y', fX5_refuse Y = some Y' ∧ XF T E K V P Y0 kf Y' := by
  obtain ⟨⟨r1, r2, r3, r4, r5, r6⟩, h6, h7, c, c1, hc⟩ := h
  unfold fX5_refuse
  simp only [h7]
  rw [if_pos (show (0 : Int32) ≤ nI (P kf) from nI_pos' hP)]
  refine ⟨_, rfl, ⟨?_, ?_, ?_, ?_, ?_, ?_⟩, ?_, ?_, c, c1, ?_⟩
  · intro j hj; simp (disch := omega) only [m_row]; exact r1 j hj
  · intro j hj; simp (disch := omega) only [m_row]; exact r2 j hj
  · intro j hj; simp (disch := omega) only [m_row]; exact r3 j hj
  · simp (disch := omega) only [m_own, u_n]; exact r4
  · intro a a1 a2 a3; simp (disch := omega) only [m_row]; exact r5 a a1 a2 a3
  · simp (disch := omega) only [m_own, u_n]; exact r6
  · simp (disch := omega) only [m_own, u_s]
  · simp (disch := omega) only [m_own, u_n]; exact h7
  · simp (disch := omega) only [m_row]; exact hc
theorem getD_app {c : List Int32} {w : Int32} {i : Nat} : (c ++ [w]).getD i 0 = if i < c.length then c.getD i 0 else if i = c.length then w else 0 := by
  rw [List.getD_eq_getElem?_getD, List.getD_eq_getElem?_getD]
  by_cases h : i < c.length
  · rw [if_pos h, List.getElem?_append_left h]
  · rw [if_neg h, List.getElem?_append_right (by omega)]
    by_cases e : i = c.length
    · subst e; rw [Nat.sub_self, if_pos rfl]; rfl
    · rw [if_neg e]
      obtain ⟨j, hj⟩ : ∃ j, i - c.length = j + 1 := ⟨i - c.length - 1, by omega⟩
      rw [hj]; rfl
theorem XS.add {T E k : Nat} {K V : Nat → Int32} {P : Nat → Nat} {Y0 Y : hMem} {c : List Int32} (hT : T < 6) (h : XS T E K V P Y0 k c Y) (hl : c.length < 160) (w : Int32) : ∃ Y', fX4_add (56 + 4 * T) w Y = some Y' ∧ XS T E K V P Y0 k (c ++ [w]) Y' := by
  obtain ⟨⟨r1, r2, r3, r4, r5, r6⟩, h5, h6, h7, hk2, hc, hw⟩ := h
  have e1 : 56 + 4 * T + 1 = 57 + 4 * T := by omega
  unfold fX4_add
  rw [if_pos (tx_isB hT), hc, if_neg (show ¬ (160 : Int32) ≤ nI c.length from nI_ge (b := 160) hl (by decide)), if_pos (ib_mk hl (by decide)), nI_clamp (by omega), e1]
  simp (disch := omega) only [m_row]
  rw [hc, nI_1]
  refine ⟨_, rfl, ⟨?_, ?_, ?_, ?_, ?_, ?_⟩, ?_, ?_, ?_, hk2, ?_, ?_⟩
  · intro j hj; simp (disch := omega) only [m_row]; exact r1 j hj
  · intro j hj; simp (disch := omega) only [m_row]; exact r2 j hj
  · intro j hj; simp (disch := omega) only [m_row]; exact r3 j hj
  · simp (disch := omega) only [m_row]; exact r4
  · intro a a1 a2 a3; simp (disch := omega) only [m_row]; exact r5 a a1 a2 a3
  · simp (disch := omega) only [m_row]; exact r6
  · simp (disch := omega) only [m_row]; exact h5
  · simp (disch := omega) only [m_row]; exact h6
  · simp (disch := omega) only [m_row]; exact h7
  · simp (disch := omega) only [m_own, u_s]; rw [List.length_append]; rfl
  · intro i hi
    rw [List.length_append] at hi
    have hi' : i < c.length + 1 := hi
    simp (disch := omega) only [m_row, m_own]
    rw [getD_app, u_e]
    by_cases e : i = c.length
    · rw [if_pos e, if_neg (by omega), if_pos e]
    · rw [if_neg e, if_pos (by omega)]; exact hw i (by omega)
theorem XF.add {T E kf : Nat} {K V : Nat → Int32} {P : Nat → Nat} {Y0 Y : hMem} (hT : T < 6) (h : XF T E K V P Y0 kf Y) (w : Int32) : ∃ Y', fX4_add (56 + 4 * T) w Y = some Y' ∧ XF T E K V P Y0 kf Y' := by
  obtain ⟨⟨r1, r2, r3, r4, r5, r6⟩, h6, h7, c, c1, hc⟩ := h
  have e1 : 56 + 4 * T + 1 = 57 + 4 * T := by omega
  unfold fX4_add
  rw [if_pos (tx_isB hT), hc]
  by_cases hl : c < 160
  · rw [if_neg (show ¬ (160 : Int32) ≤ nI c from nI_ge (b := 160) hl (by decide)), if_pos (ib_mk hl (by decide)), nI_clamp (by omega), e1]
    simp (disch := omega) only [m_row]
    rw [hc, nI_1]
    refine ⟨_, rfl, ⟨?_, ?_, ?_, ?_, ?_, ?_⟩, ?_, ?_, c + 1, by omega, ?_⟩
    · intro j hj; simp (disch := omega) only [m_row]; exact r1 j hj
    · intro j hj; simp (disch := omega) only [m_row]; exact r2 j hj
    · intro j hj; simp (disch := omega) only [m_row]; exact r3 j hj
    · simp (disch := omega) only [m_row]; exact r4
    · intro a a1 a2 a3; simp (disch := omega) only [m_row]; exact r5 a a1 a2 a3
    · simp (disch := omega) only [m_row]; exact r6
    · simp (disch := omega) only [m_row]; exact h6
    · simp (disch := omega) only [m_row]; exact h7
    · simp (disch := omega) only [m_own, u_s]
  · rw [if_pos (show (160 : Int32) ≤ nI c from nI_le (a := 160) (by omega) (by omega))]
    exact ⟨Y, rfl, ⟨r1, r2, r3, r4, r5, r6⟩, h6, h7, c, c1, hc⟩
