/-! SHEETS: sheet, cell, gustsBy, copy -/
theorem RR.shE {X M : hMem} (R : RR X M) {s : Nat} (hs : s < 4) : ∃ n, n ≤ 40 ∧ X (80 + 2 * s) 0 = M 13 s ∧ X (80 + 2 * s) 1 = nI n ∧ M 14 s = nI n ∧ (M 13 s = -1 ∨ h_ib (M 13 s) 3) ∧ ∀ i, i < 40 → X (81 + 2 * s) i = M 15 (40 * s + i) := by
  obtain ⟨h1, h2, h3, h4, h5⟩ := R.shs s hs
  obtain ⟨n, n1, n2, n3⟩ := ib_ex h4
  exact ⟨n, by omega, h1, h2.trans n3, n3, h3, h5⟩
theorem sh_isB {s : Nat} (hs : s < 4) : h_isB hYx (80 + 2 * s) 5 0 = true := h_forall (N := 4) (p := fun s => h_isB hYx (80 + 2 * s) 5 0) (by decide +kernel) hs
theorem x_empty (v0 : Nat) (N : hMem) : ∃ r, h_lp (fX6_becomeEmpty_L12 v0) h_FU (0, N) = some r ∧ (∀ a, a ≠ v0 + 1 → r a = N a) ∧ ∀ i, i < 40 → r (v0 + 1) i = 0 := by
  refine lp_u0 (body := fX6_becomeEmpty_L12 v0) 40 (fun i z => ∃ Y : hMem, z = (nI i, Y) ∧ (∀ a, a ≠ v0 + 1 → Y a = N a) ∧ ∀ j, j < i → Y (v0 + 1) j = 0) _ (0, N) ⟨N, rfl, fun _ _ => rfl, fun j hj => absurd hj (Nat.not_lt_zero _)⟩ (by omega) ?_ ?_
  · rintro k z ⟨Y, rfl, h1, h3⟩
    unfold fX6_becomeEmpty_L12
    dsimp only
    rw [if_pos (show (40 : Int32) ≤ nI 40 from by decide)]
    exact ⟨_, rfl, h1, h3⟩
  · rintro k i z hi ⟨Y, rfl, h1, h3⟩ hk
    unfold fX6_becomeEmpty_L12
    dsimp only
    rw [if_neg (show ¬ (40 : Int32) ≤ nI i from nI_ge (b := 40) hi (by decide)), if_pos (ib_mk (by omega) (by omega)), nI_clamp (by omega), nI_1]
    refine hk _ ⟨_, rfl, ?_, ?_⟩
    · intro a ha; rw [m_row ha]; exact h1 a ha
    · intro j hj
      rw [m_own]
      by_cases e : j = i
      · subst e; rw [u_s]
      · rw [u_n (by omega)]; exact h3 j (by omega)
theorem m_empty {s : Nat} (hs : s < 4) (N : hMem) : ∃ r, h_lp (fX10_sheet_L70 (nI s)) h_FU (0, N) = some r ∧ r.1 = 1 ∧ (∀ a, a ≠ 15 → r.2 a = N a) ∧ (∀ i, i < 40 → r.2 15 (40 * s + i) = 0) ∧ ∀ j, j < 40 * s ∨ 40 * s + 40 ≤ j → r.2 15 j = N 15 j := by
  refine lp_u0 (body := fX10_sheet_L70 (nI s)) 40 (fun i z => ∃ Y : hMem, z = (nI i, Y) ∧ (∀ a, a ≠ 15 → Y a = N a) ∧ (∀ j, j < i → Y 15 (40 * s + j) = 0) ∧ ∀ j, j < 40 * s ∨ 40 * s + 40 ≤ j → Y 15 j = N 15 j) _ (0, N) ⟨N, rfl, fun _ _ => rfl, fun j hj => absurd hj (Nat.not_lt_zero _), fun _ _ => rfl⟩ (by omega) ?_ ?_
  · rintro k z ⟨Y, rfl, h1, h3, h4⟩
    unfold fX10_sheet_L70
    dsimp only
    rw [if_pos (show (40 : Int32) ≤ nI 40 from by decide)]
    exact ⟨_, rfl, rfl, h1, h3, h4⟩
  · rintro k i z hi ⟨Y, rfl, h1, h3, h4⟩ hk
    unfold fX10_sheet_L70
    dsimp only
    rw [if_neg (show ¬ (40 : Int32) ≤ nI i from nI_ge (b := 40) hi (by decide)), show (40 : Int32) * nI s = nI (40 * s) from pk_mul 40 s, nI_add, if_pos (ib_mk (by omega) (by omega)), nI_clamp (by omega), nI_1]
    refine hk _ ⟨_, rfl, ?_, ?_, ?_⟩
    · intro a ha; rw [m_row ha]; exact h1 a ha
    · intro j hj
      rw [m_own]
      by_cases e : j = i
      · subst e; rw [u_s]
      · rw [u_n (by omega)]; exact h3 j (by omega)
    · intro j hj; rw [m_own, u_n (by omega)]; exact h4 j hj
theorem eq_she {X M : hMem} (R : RR X M) {s : Nat} (hs : s < 4) {v w : Int32} (hv : v = -1 ∨ h_ib v 3) (hw : h_ib w 41) : EqC ((fX6_becomeEmpty (80 + 2 * s) v w X).bind fun q60 => some (1, q60)) (h_lp (fX10_sheet_L70 (nI s)) h_FU (0, h_up (h_up M 13 s v) 14 s w)) := by
  unfold fX6_becomeEmpty
  rw [if_pos (sh_isB hs)]
  obtain ⟨r, r1, r2, r3⟩ := x_empty (80 + 2 * s) (h_up (h_up X (80 + 2 * s) 0 v) (80 + 2 * s) 1 w)
  obtain ⟨z, z1, z2, z3, z4, z5⟩ := m_empty hs (h_up (h_up M 13 s v) 14 s w)
  rw [r1, Option.bind_some]
  refine ⟨1, r, z.2, rfl, by rw [z1, ← z2], R.sheets ?_ ?_ ?_ ?_ ?_⟩
  · intro a _ h2; rw [r2 a (by omega)]; simp (disch := omega) only [m_row]
  · rw [r2 30 (by omega)]; simp (disch := omega) only [m_row]
  · intro a _ h2; rw [z3 a (by omega)]; simp (disch := omega) only [m_row]
  · intro j hj; rw [z3 0 (by omega)]; simp (disch := omega) only [m_row]
  · intro q hq
    obtain ⟨p1, p2, p3, p4, p5⟩ := R.shs q hq
    by_cases e : q = s
    · subst e
      rw [r2 (80 + 2 * q) (by omega), z3 13 (by omega), z3 14 (by omega)]
      simp (disch := omega) only [m_row, m_own, u_s, u_n]
      refine ⟨trivial, trivial, hv, hw, fun i hi => ?_⟩
      rw [show 81 + 2 * q = 80 + 2 * q + 1 from by omega, r3 i hi, z4 i hi]
    · rw [r2 (80 + 2 * q) (by omega), z3 13 (by omega), z3 14 (by omega), r2 (81 + 2 * q) (by omega)]
      simp (disch := omega) only [m_row, m_own, u_n]
      refine ⟨p1, p2, p3, p4, fun i hi => ?_⟩
      rw [z5 _ (by omega)]
      simp (disch := omega) only [m_row]
      exact p5 i hi
theorem ibm1 (a : Int32) : (¬ a < -1) → (¬ 2 < a) → a = -1 ∨ h_ib a 3 := by
  intro h1 h2
  have e1 : (-1 : Int32).toInt = -1 := by decide
  have a1 : ¬ a.toInt < -1 := fun h => h1 (by rw [Int32.lt_iff_toInt_lt, e1]; exact h)
  have a2 : ¬ 2 < a.toInt := fun h => h2 (by rw [Int32.lt_iff_toInt_lt]; exact h)
  by_cases e : a.toInt = -1
  · left; apply Int32.toInt_inj.mp; rw [e, e1]
  · right; rw [ib_int]; omega
theorem ib41 (a : Int32) : 0 ≤ a → a ≤ 40 → h_ib a 41 := by
  intro h1 h2
  have a1 := Jvm.Kit.i32_nonneg.mp h1
  have a2 : a.toInt ≤ 40 := by rw [Int32.le_iff_toInt_le] at h2; exact h2
  rw [ib_int]; omega
theorem eq_sheet {X M : hMem} (R : RR X M) (a b c : Int32) : EqC (fX9_sheet a b c X) (fX10_sheet a b c M) := by
  unfold fX9_sheet fX10_sheet fX9_sheet_L31 fX10_sheet_L32 fX9_sheet_L43 fX10_sheet_L44
  rw [xe_sheet, me_in3, b01, b01, show fX10_in b (-1) 2 M = if b < -1 then 0 else if 2 < b then 0 else 1 from rfl]
  by_cases ha : h_ib a 4
  rotate_left
  · rw [if_neg ha, if_neg ha]; exact EqC.now R
  simp only [if_pos ha]
  by_cases c1 : b < -1
  · rw [if_pos c1, if_pos c1, if_pos (show (0 : Int32) = 0 from rfl)]; exact EqC.now R
  rw [if_neg c1, if_neg c1]
  by_cases c2 : 2 < b
  · rw [if_pos c2, if_pos c2, if_pos (show (0 : Int32) = 0 from rfl)]; exact EqC.now R
  rw [if_neg c2, if_neg c2, if_neg (show ¬ (1 : Int32) = 0 from by decide)]
  obtain ⟨s, hs, hs2, rfl⟩ := ib_ex ha
  simp only [nI_clamp hs2]
  by_cases hb : b = -1
  · simp only [if_pos hb]
    exact eq_she R hs (Or.inl hb) (ib_mk (j := 0) (by omega) (by omega))
  · simp only [if_neg hb]
    by_cases c3 : c ≤ 40
    rotate_left
    · rw [if_neg c3, if_neg c3]; exact EqC.now R
    rw [if_pos c3, if_pos c3]
    by_cases c4 : 0 ≤ c
    rotate_left
    · rw [if_neg c4, if_neg c4]; exact EqC.now R
    rw [if_pos c4, if_pos c4]
    exact eq_she R hs (ibm1 b c1 c2) (ib41 c c4 c3)
theorem eq_cell {X M : hMem} (R : RR X M) (a b c : Int32) : EqC (fX9_cell a b c X) (fX10_cell a b c M) := by
  unfold fX9_cell fX10_cell fX6_put
  rw [xe_sheet, me_in3, b01, b01]
  by_cases ha : h_ib a 4
  rotate_left
  · rw [if_neg ha, if_neg ha]; exact EqC.now R
  rw [if_pos ha, if_pos ha]
  obtain ⟨s, hs, hs2, rfl⟩ := ib_ex ha
  obtain ⟨n, hn, e0, e1, e2, e3, e4⟩ := R.shE hs
  simp only [if_pos ha, nI_clamp hs2, e0, e1, e2, if_pos (sh_isB hs)]
  by_cases c1 : M 13 s = -1
  · rw [if_pos c1, if_pos c1]; exact EqC.now R
  rw [if_neg c1, if_neg c1, me_cnt b n M (by omega), b01, if_lt _ _ _ _ (by omega)]
  by_cases hb : h_ib b n
  rotate_left
  · rw [if_neg hb, if_neg hb]; exact EqC.now R
  rw [if_pos hb, if_pos hb]
  obtain ⟨i, hi, hi2, rfl⟩ := ib_ex hb
  simp only [if_neg (nI_pos hi2), if_pos (nI_lt hi (show n < 2 ^ 31 by omega)), if_pos (show h_ib (nI i) 40 from ib_mk (by omega) (by omega)), show (40 : Int32) * nI s = nI (40 * s) from pk_mul 40 s, nI_add, if_pos (show h_ib (nI (40 * s + i)) 160 from ib_mk (by omega) (by omega)), nI_clamp hi2, nI_clamp (show 40 * s + i < 2 ^ 31 by omega)]
  have fin : ∀ v, RR (h_up X (80 + 2 * s + 1) i v) (h_up M 15 (40 * s + i) v) := by
    intro v
    refine R.sheets ?_ ?_ ?_ ?_ ?_
    · intro a _ h2; simp (disch := omega) only [m_row]
    · simp (disch := omega) only [m_row]
    · intro a _ h2; simp (disch := omega) only [m_row]
    · intro j hj; simp (disch := omega) only [m_row]
    · intro q hq
      obtain ⟨p1, p2, p3, p4, p5⟩ := R.shs q hq
      by_cases e : q = s
      · subst e
        rw [show 81 + 2 * q = 80 + 2 * q + 1 from by omega] at p5 ⊢
        simp (disch := omega) only [m_row, m_own]
        refine ⟨p1, p2, p3, p4, fun j hj => ?_⟩
        by_cases e : j = i
        · subst e; rw [u_s, u_s]
        · rw [u_n (by omega), u_n (by omega)]; exact p5 j hj
      · simp (disch := omega) only [m_row, m_own]
        refine ⟨p1, p2, p3, p4, fun j hj => ?_⟩
        rw [u_n (by omega)]
        exact p5 j hj
  by_cases k0 : M 13 s = 0
  · rw [if_pos k0, if_pos k0]; exact EqC.now (fin _)
  rw [if_neg k0, if_neg k0]
  by_cases k1 : M 13 s = 1
  · rw [if_pos k1, if_pos k1]; exact EqC.now (fin _)
  rw [if_neg k1, if_neg k1]; exact EqC.now (fin _)
