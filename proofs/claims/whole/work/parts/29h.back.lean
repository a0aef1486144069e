/-! BACK -/
theorem m_bk177 (N : hMem) : ∃ r, h_lp fX10_back_L177 h_FU (0, N) = some r ∧ r.1 = N 0 3 ∧ (∀ a, a ≠ 8 → r.2 a = N a) ∧ ∀ j, j < 12 → r.2 8 j = N 12 (67 + j) := by
  refine lp_u0 (body := fX10_back_L177) 12 (fun i z => ∃ Y : hMem, z = (nI i, Y) ∧ (∀ a, a ≠ 8 → Y a = N a) ∧ ∀ j, j < i → Y 8 j = N 12 (67 + j)) _ (0, N) ⟨N, rfl, fun _ _ => rfl, fun j hj => absurd hj (Nat.not_lt_zero _)⟩ (by omega) ?_ ?_
  · rintro k z ⟨Y, rfl, h1, h3⟩
    unfold fX10_back_L177
    dsimp only
    rw [if_pos (show (12 : Int32) ≤ nI 12 from by decide)]
    exact ⟨_, rfl, by rw [h1 0 (by omega)], h1, h3⟩
  · rintro k i z hi ⟨Y, rfl, h1, h3⟩ hk
    unfold fX10_back_L177
    dsimp only
    rw [if_neg (show ¬ (12 : Int32) ≤ nI i from nI_ge (b := 12) hi (by decide)), show (67 : Int32) + nI i = nI (67 + i) from nI_add 67 i, if_pos (ib_mk (by omega) (by omega)), if_pos (ib_mk (by omega) (by omega)), nI_clamp (by omega), nI_clamp (by omega), nI_1]
    refine hk _ ⟨_, rfl, ?_, ?_⟩
    · intro a ha; rw [m_row ha]; exact h1 a ha
    · intro j hj
      rw [m_own]
      by_cases e : j = i
      · subst e; rw [u_s, h1 12 (by omega)]
      · rw [u_n (by omega)]; exact h3 j (by omega)
theorem m_bk104 (N : hMem) : ∃ r, h_lp fX10_back_L104 h_FU (0, N) = some r ∧ r.1 = N 0 3 ∧ (∀ a, a < 4 ∨ 8 < a → r.2 a = N a) ∧ (∀ h, h < 4 → r.2 4 h = N 12 (51 + h) ∧ r.2 5 h = N 12 (55 + h) ∧ r.2 6 h = N 12 (59 + h) ∧ r.2 7 h = N 12 (63 + h)) ∧ ∀ j, j < 12 → r.2 8 j = N 12 (67 + j) := by
  refine lp_u0 (body := fX10_back_L104) 4 (fun i z => ∃ Y : hMem, z = (nI i, Y) ∧ (∀ a, a < 4 ∨ 7 < a → Y a = N a) ∧ ∀ h, h < i → Y 4 h = N 12 (51 + h) ∧ Y 5 h = N 12 (55 + h) ∧ Y 6 h = N 12 (59 + h) ∧ Y 7 h = N 12 (63 + h)) _ (0, N) ⟨N, rfl, fun _ _ => rfl, fun j hj => absurd hj (Nat.not_lt_zero _)⟩ (by omega) ?_ ?_
  · rintro k z ⟨Y, rfl, h1, h3⟩
    unfold fX10_back_L104
    dsimp only
    rw [if_pos (show (4 : Int32) ≤ nI 4 from by decide)]
    obtain ⟨r, r1, r2, r3, r4⟩ := m_bk177 Y
    refine ⟨r, r1, by rw [r2, h1 0 (by omega)], fun a ha => (r3 a (by omega)).trans (h1 a (by omega)), fun h hh => ?_, fun j hj => ?_⟩
    · rw [r3 4 (by omega), r3 5 (by omega), r3 6 (by omega), r3 7 (by omega)]; exact h3 h hh
    · rw [r4 j hj, h1 12 (by omega)]
  · rintro k i z hi ⟨Y, rfl, h1, h3⟩ hk
    unfold fX10_back_L104 fX10_back_L154
    dsimp only
    rw [if_neg (show ¬ (4 : Int32) ≤ nI i from nI_ge (b := 4) hi (by decide)), show (51 : Int32) + nI i = nI (51 + i) from nI_add 51 i, show (55 : Int32) + nI i = nI (55 + i) from nI_add 55 i, show (59 : Int32) + nI i = nI (59 + i) from nI_add 59 i, show (63 : Int32) + nI i = nI (63 + i) from nI_add 63 i]
    simp only [if_pos (show h_ib (nI i) 4 from ib_mk hi (by omega)), if_pos (show h_ib (nI (51 + i)) 79 from ib_mk (by omega) (by omega)), if_pos (show h_ib (nI (55 + i)) 79 from ib_mk (by omega) (by omega)), if_pos (show h_ib (nI (59 + i)) 79 from ib_mk (by omega) (by omega)), if_pos (show h_ib (nI (63 + i)) 79 from ib_mk (by omega) (by omega)), nI_1]
    simp (disch := omega) only [nI_clamp, m_row]
    refine hk _ ⟨_, rfl, ?_, ?_⟩
    · intro a ha; simp (disch := omega) only [m_row]; exact h1 a ha
    · intro h hh
      simp (disch := omega) only [m_row, m_own]
      rw [h1 12 (by omega)]
      by_cases e : h = i
      · subst e; simp (disch := omega) only [u_s]; exact ⟨trivial, trivial, trivial, trivial⟩
      · simp (disch := omega) only [u_n]; exact h3 h (by omega)
theorem m_bk61 (N : hMem) : ∃ r, h_lp fX10_back_L61 h_FU (0, N) = some r ∧ r.1 = N 0 3 ∧ (∀ a, a < 2 ∨ 8 < a → r.2 a = N a) ∧ (∀ t, t < 24 → r.2 2 t = N 12 (3 + t) ∧ r.2 3 t = N 12 (27 + t)) ∧ (∀ h, h < 4 → r.2 4 h = N 12 (51 + h) ∧ r.2 5 h = N 12 (55 + h) ∧ r.2 6 h = N 12 (59 + h) ∧ r.2 7 h = N 12 (63 + h)) ∧ ∀ j, j < 12 → r.2 8 j = N 12 (67 + j) := by
  refine lp_u0 (body := fX10_back_L61) 24 (fun i z => ∃ Y : hMem, z = (nI i, Y) ∧ (∀ a, a < 2 ∨ 3 < a → Y a = N a) ∧ ∀ t, t < i → Y 2 t = N 12 (3 + t) ∧ Y 3 t = N 12 (27 + t)) _ (0, N) ⟨N, rfl, fun _ _ => rfl, fun j hj => absurd hj (Nat.not_lt_zero _)⟩ (by omega) ?_ ?_
  · rintro k z ⟨Y, rfl, h1, h3⟩
    unfold fX10_back_L61
    dsimp only
    rw [if_pos (show (24 : Int32) ≤ nI 24 from by decide)]
    obtain ⟨r, r1, r2, r3, r4, r5⟩ := m_bk104 Y
    refine ⟨r, r1, by rw [r2, h1 0 (by omega)], fun a ha => (r3 a (by omega)).trans (h1 a (by omega)), fun t ht => ?_, fun h hh => ?_, fun j hj => ?_⟩
    · rw [r3 2 (by omega), r3 3 (by omega)]; exact h3 t ht
    · rw [← h1 12 (by omega)]; exact r4 h hh
    · rw [← h1 12 (by omega)]; exact r5 j hj
  · rintro k i z hi ⟨Y, rfl, h1, h3⟩ hk
    unfold fX10_back_L61
    dsimp only
    rw [if_neg (show ¬ (24 : Int32) ≤ nI i from nI_ge (b := 24) hi (by decide)), show (3 : Int32) + nI i = nI (3 + i) from nI_add 3 i, show (27 : Int32) + nI i = nI (27 + i) from nI_add 27 i]
    simp only [if_pos (show h_ib (nI i) 24 from ib_mk hi (by omega)), if_pos (show h_ib (nI (3 + i)) 79 from ib_mk (by omega) (by omega)), if_pos (show h_ib (nI (27 + i)) 79 from ib_mk (by omega) (by omega)), nI_1]
    simp (disch := omega) only [nI_clamp, m_row]
    refine hk _ ⟨_, rfl, ?_, ?_⟩
    · intro a ha; simp (disch := omega) only [m_row]; exact h1 a ha
    · intro h hh
      simp (disch := omega) only [m_row, m_own]
      rw [h1 12 (by omega)]
      by_cases e : h = i
      · subst e; simp (disch := omega) only [u_s]; exact ⟨trivial, trivial⟩
      · simp (disch := omega) only [u_n]; exact h3 h (by omega)
theorem m_bk36 (N : hMem) : ∃ r, h_lp fX10_back_L36 h_FU (0, N) = some r ∧ r.1 = N 0 3 ∧ (∀ a, a < 1 ∨ 8 < a → r.2 a = N a) ∧ (∀ j, j < 3 → r.2 1 j = N 12 j) ∧ (∀ t, t < 24 → r.2 2 t = N 12 (3 + t) ∧ r.2 3 t = N 12 (27 + t)) ∧ (∀ h, h < 4 → r.2 4 h = N 12 (51 + h) ∧ r.2 5 h = N 12 (55 + h) ∧ r.2 6 h = N 12 (59 + h) ∧ r.2 7 h = N 12 (63 + h)) ∧ ∀ j, j < 12 → r.2 8 j = N 12 (67 + j) := by
  refine lp_u0 (body := fX10_back_L36) 3 (fun i z => ∃ Y : hMem, z = (nI i, Y) ∧ (∀ a, a ≠ 1 → Y a = N a) ∧ ∀ j, j < i → Y 1 j = N 12 j) _ (0, N) ⟨N, rfl, fun _ _ => rfl, fun j hj => absurd hj (Nat.not_lt_zero _)⟩ (by omega) ?_ ?_
  · rintro k z ⟨Y, rfl, h1, h3⟩
    unfold fX10_back_L36
    dsimp only
    rw [if_pos (show (3 : Int32) ≤ nI 3 from by decide)]
    obtain ⟨r, r1, r2, r3, r4, r5, r6⟩ := m_bk61 Y
    refine ⟨r, r1, by rw [r2, h1 0 (by omega)], fun a ha => (r3 a (by omega)).trans (h1 a (by omega)), fun j hj => (congrFun (r3 1 (by omega)) j).trans (h3 j hj), fun t ht => ?_, fun h hh => ?_, fun j hj => ?_⟩
    · rw [← h1 12 (by omega)]; exact r4 t ht
    · rw [← h1 12 (by omega)]; exact r5 h hh
    · rw [← h1 12 (by omega)]; exact r6 j hj
  · rintro k i z hi ⟨Y, rfl, h1, h3⟩ hk
    unfold fX10_back_L36
    dsimp only
    rw [if_neg (show ¬ (3 : Int32) ≤ nI i from nI_ge (b := 3) hi (by decide)), if_pos (ib_mk (by omega) (by omega)), if_pos (ib_mk (by omega) (by omega)), nI_clamp (by omega), nI_1]
    refine hk _ ⟨_, rfl, ?_, ?_⟩
    · intro a ha; rw [m_row ha]; exact h1 a ha
    · intro j hj
      rw [m_own]
      by_cases e : j = i
      · subst e; rw [u_s, h1 12 (by omega)]
      · rw [u_n (by omega)]; exact h3 j (by omega)
theorem eq_back {X M : hMem} (R : RR X M) : EqC (fX9_back X) (fX10_back M) := by
  unfold fX9_back fX10_back
  rw [R.flag]
  by_cases hf : M 0 16 = 0
  · rw [if_pos hf, if_pos hf]; exact EqC.now R
  rw [if_neg hf, if_neg hf]
  obtain ⟨r, r0, r1, r2, r3, r4, r5, r6, r7, r8⟩ := x_become (d := 1) (s := 15) (Or.inr ⟨rfl, rfl⟩) X
  rw [r0, Option.bind_some]
  obtain ⟨N, hN⟩ : ∃ N : hMem, N = h_up (h_up (h_up M 0 3 (M 0 17)) 0 8 ((h_up M 0 3 (M 0 17)) 0 18)) 0 15 ((h_up (h_up M 0 3 (M 0 17)) 0 8 ((h_up M 0 3 (M 0 17)) 0 18)) 0 19) := ⟨_, rfl⟩
  rw [← hN]
  have nr : ∀ a, a ≠ 0 → N a = M a := fun a ha => by rw [hN]; simp (disch := omega) only [m_row]
  have n0 : ∀ j, j ≠ 3 → j ≠ 8 → j ≠ 15 → N 0 j = M 0 j := fun j h1 h2 h3 => by rw [hN]; simp (disch := omega) only [m_own, u_n]
  have n17 : N 0 3 = M 0 17 := by rw [hN]; simp (disch := omega) only [m_own, u_n, u_s]
  have n18 : N 0 8 = M 0 18 := by rw [hN]; simp (disch := omega) only [m_own, u_n, u_s]
  have n19 : N 0 15 = M 0 19 := by rw [hN]; simp (disch := omega) only [m_own, u_n, u_s]
  clear hN
  obtain ⟨z, z0, z1, z2, z3, z4, z5, z6⟩ := m_bk36 N
  have e17 : X 15 5 = M 0 17 := by
    obtain ⟨T, t1, t2, t3, t4, n, k, -⟩ := R
    exact (k.resolve_left hf).2.2.2.2.1.1
  refine ⟨_, _, z.2, rfl, ?_, ?_⟩
  · rw [z0]
    have e : z.1 = r 1 5 := by rw [r6, z1, n17, e17]
    rw [← e]
  · refine R.re ?_ ?_ (fun T n k => ?_) (fun T n k => gKept_c k ?_ ?_ ?_) ?_ ?_ (gTape_c R.tape ?_ ?_ ?_ ?_) (gSheets_c R.shs ?_ ?_) (fun T h6 tx => gTexts_c tx ?_ ?_ ?_ h6) ?_
    · rw [r1 0 (by omega)]
    · rw [z2 0 (by omega), n0 14 (by omega) (by omega) (by omega)]
    · obtain ⟨q1, q2, q3, q4, q5, q6, q7⟩ := k.resolve_left hf
      refine ⟨fun k hk => ?_, fun t ht => ?_, fun h hh => ?_, fun p hp => ?_, ?_, ?_, ?_⟩
      · rw [r2 k hk, z3 k hk, nr 12 (by omega)]; exact q1 k hk
      · obtain ⟨p1, p2, p3, p4⟩ := q2 t ht
        obtain ⟨s1, s2⟩ := r3 t ht
        obtain ⟨s3, s4⟩ := z4 t ht
        rw [nr 12 (by omega)] at s3 s4
        rw [s3, s4]
        exact ⟨s1.trans p1, s2.trans p2, p3, p4⟩
      · obtain ⟨p0, p1, p2, p3, p4, p5, p6⟩ := q3 h hh
        obtain ⟨s1, s2, s3, s4⟩ := z5 h hh
        rw [nr 12 (by omega)] at s1 s2 s3 s4
        have t0 := r4 h hh 0 (by omega)
        have t1 := r4 h hh 1 (by omega)
        have t2 := r4 h hh 2 (by omega)
        dsimp only
        rw [s1, s2, s3, s4]
        exact ⟨t0.trans p0, t1.trans p1, t2.trans p2, p3, p4, p5, p6⟩
      · obtain ⟨p0, p1, p2, p3, p4, p5⟩ := q4 p hp
        have s0 := z6 (3 * p) (by omega)
        have s1 := z6 (3 * p + 1) (by omega)
        have s2 := z6 (3 * p + 2) (by omega)
        rw [nr 12 (by omega)] at s0 s1 s2
        have t0 := r5 p hp 0 (by omega)
        have t1 := r5 p hp 1 (by omega)
        have t2 := r5 p hp 2 (by omega)
        dsimp only
        rw [s0, s1, s2]
        exact ⟨t0.trans p0, t1.trans p1, t2.trans p2, p3, p4, p5⟩
      · rw [r6, z2 0 (by omega), n17]; exact q5
      · rw [r7, z2 0 (by omega), n18]; exact q6
      · rw [r8, z2 0 (by omega), n19]; exact q7
    · intro a h1 h2; rw [r1 a (by omega)]
    · rw [z2 12 (by omega), nr 12 (by omega)]
    · intro j h1 h2; rw [z2 0 (by omega), n0 j (by omega) (by omega) (by omega)]
    · rw [r1 0 (by omega), z2 0 (by omega), n0 16 (by omega) (by omega) (by omega)]; exact R.flag
    · rw [z2 0 (by omega), n0 39 (by omega) (by omega) (by omega)]; exact R.hold
    · rw [r1 _ (by omega)]
    · rw [r1 _ (by omega)]
    · rw [z2 0 (by omega), n0 11 (by omega) (by omega) (by omega)]
    · rw [z2 9 (by omega), nr 9 (by omega)]
    · intro a h1; rw [r1 _ (by omega)]
    · intro a h1 h2; rw [z2 a (by omega), nr a (by omega)]
    · intro a h1 h2 h3; rw [r1 _ (by omega)]
    · rw [z2 _ (by omega), nr _ (by omega)]
    · rw [z2 _ (by omega), nr _ (by omega)]
    · rw [z2 _ (by omega), nr _ (by omega)]
