/-! IMAGE, BACK -/
theorem img_isB : ∀ d, d = 1 ∨ d = 15 → h_isB hYx d 6 0 = true ∧ (∀ i, i < 4 → h_isB hYx (d + 6 + i) 2 0 = true ∧ h_isB hYx (d + 10 + i) 0 0 = true) := by
  have h1 : ∀ i, i < 4 → (h_isB hYx (1 + 6 + i) 2 0 && h_isB hYx (1 + 10 + i) 0 0) = true := fun i hi => h_forall (N := 4) (p := fun i => h_isB hYx (1 + 6 + i) 2 0 && h_isB hYx (1 + 10 + i) 0 0) (by decide +kernel) hi
  have h2 : ∀ i, i < 4 → (h_isB hYx (15 + 6 + i) 2 0 && h_isB hYx (15 + 10 + i) 0 0) = true := fun i hi => h_forall (N := 4) (p := fun i => h_isB hYx (15 + 6 + i) 2 0 && h_isB hYx (15 + 10 + i) 0 0) (by decide +kernel) hi
  rintro d (rfl | rfl)
  · exact ⟨by decide +kernel, fun i hi => Bool.and_eq_true_iff.mp (h1 i hi)⟩
  · exact ⟨by decide +kernel, fun i hi => Bool.and_eq_true_iff.mp (h2 i hi)⟩
theorem x_bec74 {d s : Nat} (hd : (d = 15 ∧ s = 1) ∨ (d = 1 ∧ s = 15)) (N : hMem) : ∃ r, h_lp (fX7_become_L74 d s) h_FU (0, N) = some r ∧ (∀ a, a ≠ d → a < d + 10 ∨ d + 14 ≤ a → r a = N a) ∧ (∀ i, i < 4 → ∀ k, k < 3 → r (d + 10 + i) k = N (s + 10 + i) k) ∧ r d 5 = N s 5 ∧ r d 6 = N s 6 ∧ r d 7 = N s 7 := by
  refine lp_u0 (body := fX7_become_L74 d s) 4 (fun i z => ∃ Y : hMem, z = (nI i, Y) ∧ (∀ a, a < d + 10 ∨ d + 14 ≤ a → Y a = N a) ∧ (∀ j, j < i → ∀ k, k < 3 → Y (d + 10 + j) k = N (s + 10 + j) k)) _ (0, N) ⟨N, rfl, fun _ _ => rfl, fun j hj => absurd hj (Nat.not_lt_zero _)⟩ (by omega) ?_ ?_
  · rintro k z ⟨Y, rfl, h1, h2⟩
    unfold fX7_become_L74
    dsimp only
    rw [if_pos (show (4 : Int32) ≤ nI 4 from by decide)]
    refine ⟨_, rfl, ?_, ?_, ?_, ?_, ?_⟩
    · intro a h3 h4
      simp (disch := omega) only [m_row]
      exact h1 a h4
    · intro i hi k hk
      simp (disch := omega) only [m_row]
      exact h2 i hi k hk
    · simp (disch := omega) only [m_row, m_own, u_n, u_s]; rw [h1 s (by omega)]
    · simp (disch := omega) only [m_row, m_own, u_n, u_s]; rw [h1 s (by omega)]
    · simp (disch := omega) only [m_row, m_own, u_n, u_s]; rw [h1 s (by omega)]
  · rintro k i z hi ⟨Y, rfl, h1, h2⟩ hk
    unfold fX7_become_L74 fX0_become
    dsimp only
    rw [if_neg (show ¬ (4 : Int32) ≤ nI i from nI_ge (b := 4) hi (by decide)), if_pos (ib_mk hi (by omega)), if_pos (ib_mk hi (by omega)), nI_clamp (by omega), if_pos ((img_isB d (by omega)).2 i hi).2, if_pos ((img_isB s (by omega)).2 i hi).2, Option.bind_some, nI_1]
    refine hk _ ⟨_, rfl, ?_, ?_⟩
    · intro a h3
      simp (disch := omega) only [m_row]
      exact h1 a h3
    · intro j hj q hq
      by_cases e : j = i
      · subst e
        simp (disch := omega) only [m_row, m_own]
        rw [h1 (s + 10 + j) (by omega)]
        rcases (by omega : q = 0 ∨ q = 1 ∨ q = 2) with rfl | rfl | rfl <;> simp (disch := omega) only [u_n, u_s]
      · simp (disch := omega) only [m_row]
        exact h2 j (by omega) q hq
theorem x_become {d s : Nat} (hd : (d = 15 ∧ s = 1) ∨ (d = 1 ∧ s = 15)) (X : hMem) : ∃ r, fX7_become d s X = some r ∧ (∀ a, a < d ∨ d + 14 ≤ a → r a = X a) ∧ (∀ k, k < 3 → r (d + 1) k = X (s + 1) k) ∧ (∀ t, t < 24 → r (d + 2) t = X (s + 2) t ∧ r (d + 3) t = X (s + 3) t) ∧ (∀ i, i < 4 → ∀ k, k < 3 → r (d + 6 + i) k = X (s + 6 + i) k) ∧ (∀ i, i < 4 → ∀ k, k < 3 → r (d + 10 + i) k = X (s + 10 + i) k) ∧ r d 5 = X s 5 ∧ r d 6 = X s 6 ∧ r d 7 = X s 7 := by
  unfold fX7_become
  rw [if_pos (img_isB d (by omega)).1, if_pos (img_isB s (by omega)).1, if_pos (by decide +kernel), if_pos (by decide +kernel), if_pos (by decide +kernel)]
  obtain ⟨N, hN⟩ : ∃ N, N = h_cp (h_cp (h_cp X (s + 1) 0 (d + 1) 0 3) (s + 2) 0 (d + 2) 0 24) (s + 3) 0 (d + 3) 0 24 := ⟨_, rfl⟩
  rw [← hN]
  have nr : ∀ a, a ≠ d + 1 → a ≠ d + 2 → a ≠ d + 3 → N a = X a := fun a q1 q2 q3 => by rw [hN]; simp (disch := omega) only [m_cpr]
  have n1 : ∀ k, k < 3 → N (d + 1) k = X (s + 1) k := fun k hk => by
    rw [hN]; simp (disch := omega) only [m_cpr, m_cpo]
    show (if 0 ≤ k ∧ k < 0 + 3 then X (s + 1) (0 + (k - 0)) else _) = _
    rw [if_pos (by omega), show 0 + (k - 0) = k from by omega]
  have n2 : ∀ k, k < 24 → N (d + 2) k = X (s + 2) k := fun k hk => by
    rw [hN]; simp (disch := omega) only [m_cpr, m_cpo]
    show (if 0 ≤ k ∧ k < 0 + 24 then X (s + 2) (0 + (k - 0)) else _) = _
    rw [if_pos (by omega), show 0 + (k - 0) = k from by omega]
  have n3 : ∀ k, k < 24 → N (d + 3) k = X (s + 3) k := fun k hk => by
    rw [hN]; simp (disch := omega) only [m_cpr, m_cpo]
    show (if 0 ≤ k ∧ k < 0 + 24 then X (s + 3) (0 + (k - 0)) else _) = _
    rw [if_pos (by omega), show 0 + (k - 0) = k from by omega]
  clear hN
  refine lp_u0 (body := fX7_become_L46 d s) 4 (fun i z => ∃ Y : hMem, z = (nI i, Y) ∧ (∀ a, a < d + 6 ∨ d + 10 ≤ a → Y a = N a) ∧ (∀ j, j < i → ∀ k, k < 3 → Y (d + 6 + j) k = N (s + 6 + j) k)) _ (0, N) ⟨N, rfl, fun _ _ => rfl, fun j hj => absurd hj (Nat.not_lt_zero _)⟩ (by omega) ?_ ?_
  · rintro k z ⟨Y, rfl, h1, h2⟩
    unfold fX7_become_L46
    dsimp only
    rw [if_pos (show (4 : Int32) ≤ nI 4 from by decide)]
    obtain ⟨r, r1, r2, r3, r4, r5, r6⟩ := x_bec74 hd Y
    refine ⟨r, r1, ?_, ?_, ?_, ?_, ?_, ?_, ?_, ?_⟩
    · intro a h3; rw [r2 a (by omega) (by omega), h1 a (by omega), nr a (by omega) (by omega) (by omega)]
    · intro k hk; rw [r2 _ (by omega) (by omega), h1 _ (by omega), n1 k hk]
    · intro t ht; rw [r2 _ (by omega) (by omega), h1 _ (by omega), n2 t ht, r2 _ (by omega) (by omega), h1 _ (by omega), n3 t ht]; exact ⟨rfl, rfl⟩
    · intro i hi k hk; rw [r2 _ (by omega) (by omega), h2 i hi k hk, nr _ (by omega) (by omega) (by omega)]
    · intro i hi k hk; rw [r3 i hi k hk, h1 _ (by omega), nr _ (by omega) (by omega) (by omega)]
    · rw [r4, h1 _ (by omega), nr _ (by omega) (by omega) (by omega)]
    · rw [r5, h1 _ (by omega), nr _ (by omega) (by omega) (by omega)]
    · rw [r6, h1 _ (by omega), nr _ (by omega) (by omega) (by omega)]
  · rintro k i z hi ⟨Y, rfl, h1, h2⟩ hk
    unfold fX7_become_L46 fX2_become
    dsimp only
    rw [if_neg (show ¬ (4 : Int32) ≤ nI i from nI_ge (b := 4) hi (by decide)), if_pos (ib_mk hi (by omega)), if_pos (ib_mk hi (by omega)), nI_clamp (by omega), if_pos ((img_isB d (by omega)).2 i hi).1, if_pos ((img_isB s (by omega)).2 i hi).1, Option.bind_some, nI_1]
    refine hk _ ⟨_, rfl, ?_, ?_⟩
    · intro a h3
      simp (disch := omega) only [m_row]
      exact h1 a h3
    · intro j hj q hq
      by_cases e : j = i
      · subst e
        simp (disch := omega) only [m_row, m_own]
        rw [h1 (s + 6 + j) (by omega)]
        rcases (by omega : q = 0 ∨ q = 1 ∨ q = 2) with rfl | rfl | rfl <;> simp (disch := omega) only [u_n, u_s]
      · simp (disch := omega) only [m_row]
        exact h2 j (by omega) q hq
theorem m_im172 (N : hMem) : ∃ r, h_lp fX10_image_L172 h_FU (0, N) = some r ∧ r.1 = N 0 3 ∧ (∀ a, a ≠ 12 → r.2 a = N a) ∧ (∀ j, j < 67 → r.2 12 j = N 12 j) ∧ ∀ j, j < 12 → r.2 12 (67 + j) = N 8 j := by
  refine lp_u0 (body := fX10_image_L172) 12 (fun i z => ∃ Y : hMem, z = (nI i, Y) ∧ (∀ a, a ≠ 12 → Y a = N a) ∧ (∀ j, j < 67 → Y 12 j = N 12 j) ∧ ∀ j, j < i → Y 12 (67 + j) = N 8 j) _ (0, N) ⟨N, rfl, fun _ _ => rfl, fun _ _ => rfl, fun j hj => absurd hj (Nat.not_lt_zero _)⟩ (by omega) ?_ ?_
  · rintro k z ⟨Y, rfl, h1, h2, h3⟩
    unfold fX10_image_L172
    dsimp only
    rw [if_pos (show (12 : Int32) ≤ nI 12 from by decide)]
    exact ⟨_, rfl, by rw [h1 0 (by omega)], h1, h2, h3⟩
  · rintro k i z hi ⟨Y, rfl, h1, h2, h3⟩ hk
    unfold fX10_image_L172
    dsimp only
    rw [if_neg (show ¬ (12 : Int32) ≤ nI i from nI_ge (b := 12) hi (by decide)), show (67 : Int32) + nI i = nI (67 + i) from nI_add 67 i, if_pos (ib_mk hi (by omega)), if_pos (ib_mk (by omega) (by omega)), nI_clamp (by omega), nI_clamp (by omega), nI_1]
    refine hk _ ⟨_, rfl, ?_, ?_, ?_⟩
    · intro a ha; rw [m_row ha]; exact h1 a ha
    · intro j hj; rw [m_own, u_n (by omega)]; exact h2 j hj
    · intro j hj
      rw [m_own]
      by_cases e : j = i
      · subst e; rw [u_s, h1 8 (by omega)]
      · rw [u_n (by omega)]; exact h3 j (by omega)
theorem m_im99 (N : hMem) : ∃ r, h_lp fX10_image_L99 h_FU (0, N) = some r ∧ r.1 = N 0 3 ∧ (∀ a, a ≠ 12 → r.2 a = N a) ∧ (∀ j, j < 51 → r.2 12 j = N 12 j) ∧ (∀ h, h < 4 → r.2 12 (51 + h) = N 4 h ∧ r.2 12 (55 + h) = N 5 h ∧ r.2 12 (59 + h) = N 6 h ∧ r.2 12 (63 + h) = N 7 h) ∧ ∀ j, j < 12 → r.2 12 (67 + j) = N 8 j := by
  refine lp_u0 (body := fX10_image_L99) 4 (fun i z => ∃ Y : hMem, z = (nI i, Y) ∧ (∀ a, a ≠ 12 → Y a = N a) ∧ (∀ j, j < 51 → Y 12 j = N 12 j) ∧ ∀ h, h < i → Y 12 (51 + h) = N 4 h ∧ Y 12 (55 + h) = N 5 h ∧ Y 12 (59 + h) = N 6 h ∧ Y 12 (63 + h) = N 7 h) _ (0, N) ⟨N, rfl, fun _ _ => rfl, fun _ _ => rfl, fun j hj => absurd hj (Nat.not_lt_zero _)⟩ (by omega) ?_ ?_
  · rintro k z ⟨Y, rfl, h1, h2, h3⟩
    unfold fX10_image_L99
    dsimp only
    rw [if_pos (show (4 : Int32) ≤ nI 4 from by decide)]
    obtain ⟨r, r1, r2, r3, r4, r5⟩ := m_im172 Y
    refine ⟨r, r1, by rw [r2, h1 0 (by omega)], fun a ha => (r3 a ha).trans (h1 a ha), fun j hj => (r4 j (by omega)).trans (h2 j hj), fun h hh => ?_, fun j hj => ?_⟩
    · rw [r4 _ (by omega), r4 _ (by omega), r4 _ (by omega), r4 _ (by omega)]; exact h3 h hh
    · rw [r5 j hj, h1 8 (by omega)]
  · rintro k i z hi ⟨Y, rfl, h1, h2, h3⟩ hk
    unfold fX10_image_L99 fX10_image_L149
    dsimp only
    rw [if_neg (show ¬ (4 : Int32) ≤ nI i from nI_ge (b := 4) hi (by decide)), show (51 : Int32) + nI i = nI (51 + i) from nI_add 51 i, show (55 : Int32) + nI i = nI (55 + i) from nI_add 55 i, show (59 : Int32) + nI i = nI (59 + i) from nI_add 59 i, show (63 : Int32) + nI i = nI (63 + i) from nI_add 63 i]
    simp only [if_pos (show h_ib (nI i) 4 from ib_mk hi (by omega)), if_pos (show h_ib (nI (51 + i)) 79 from ib_mk (by omega) (by omega)), if_pos (show h_ib (nI (55 + i)) 79 from ib_mk (by omega) (by omega)), if_pos (show h_ib (nI (59 + i)) 79 from ib_mk (by omega) (by omega)), if_pos (show h_ib (nI (63 + i)) 79 from ib_mk (by omega) (by omega)), nI_1]
    simp (disch := omega) only [nI_clamp, m_row]
    refine hk _ ⟨_, rfl, ?_, ?_, ?_⟩
    · intro a ha; simp (disch := omega) only [m_row]; exact h1 a ha
    · intro j hj; simp (disch := omega) only [m_own, u_n]; exact h2 j hj
    · intro h hh
      simp only [m_own]
      by_cases e : h = i
      · subst e; simp (disch := omega) only [u_n, u_s]; rw [h1 4 (by omega), h1 5 (by omega), h1 6 (by omega), h1 7 (by omega)]; exact ⟨rfl, rfl, rfl, rfl⟩
      · simp (disch := omega) only [u_n]; exact h3 h (by omega)
theorem m_im56 (N : hMem) : ∃ r, h_lp fX10_image_L56 h_FU (0, N) = some r ∧ r.1 = N 0 3 ∧ (∀ a, a ≠ 12 → r.2 a = N a) ∧ (∀ j, j < 3 → r.2 12 j = N 12 j) ∧ (∀ t, t < 24 → r.2 12 (3 + t) = N 2 t ∧ r.2 12 (27 + t) = N 3 t) ∧ (∀ h, h < 4 → r.2 12 (51 + h) = N 4 h ∧ r.2 12 (55 + h) = N 5 h ∧ r.2 12 (59 + h) = N 6 h ∧ r.2 12 (63 + h) = N 7 h) ∧ ∀ j, j < 12 → r.2 12 (67 + j) = N 8 j := by
  refine lp_u0 (body := fX10_image_L56) 24 (fun i z => ∃ Y : hMem, z = (nI i, Y) ∧ (∀ a, a ≠ 12 → Y a = N a) ∧ (∀ j, j < 3 → Y 12 j = N 12 j) ∧ ∀ t, t < i → Y 12 (3 + t) = N 2 t ∧ Y 12 (27 + t) = N 3 t) _ (0, N) ⟨N, rfl, fun _ _ => rfl, fun _ _ => rfl, fun j hj => absurd hj (Nat.not_lt_zero _)⟩ (by omega) ?_ ?_
  · rintro k z ⟨Y, rfl, h1, h2, h3⟩
    unfold fX10_image_L56
    dsimp only
    rw [if_pos (show (24 : Int32) ≤ nI 24 from by decide)]
    obtain ⟨r, r1, r2, r3, r4, r5, r6⟩ := m_im99 Y
    refine ⟨r, r1, by rw [r2, h1 0 (by omega)], fun a ha => (r3 a ha).trans (h1 a ha), fun j hj => (r4 j (by omega)).trans (h2 j hj), fun t ht => ?_, fun h hh => ?_, fun j hj => ?_⟩
    · rw [r4 _ (by omega), r4 _ (by omega)]; exact h3 t ht
    · rw [← h1 4 (by omega), ← h1 5 (by omega), ← h1 6 (by omega), ← h1 7 (by omega)]; exact r5 h hh
    · rw [r6 j hj, h1 8 (by omega)]
  · rintro k i z hi ⟨Y, rfl, h1, h2, h3⟩ hk
    unfold fX10_image_L56
    dsimp only
    rw [if_neg (show ¬ (24 : Int32) ≤ nI i from nI_ge (b := 24) hi (by decide)), show (3 : Int32) + nI i = nI (3 + i) from nI_add 3 i, show (27 : Int32) + nI i = nI (27 + i) from nI_add 27 i]
    simp only [if_pos (show h_ib (nI i) 24 from ib_mk hi (by omega)), if_pos (show h_ib (nI (3 + i)) 79 from ib_mk (by omega) (by omega)), if_pos (show h_ib (nI (27 + i)) 79 from ib_mk (by omega) (by omega)), nI_1]
    simp (disch := omega) only [nI_clamp, m_row]
    refine hk _ ⟨_, rfl, ?_, ?_, ?_⟩
    · intro a ha; simp (disch := omega) only [m_row]; exact h1 a ha
    · intro j hj; simp (disch := omega) only [m_own, u_n]; exact h2 j hj
    · intro h hh
      simp only [m_own]
      by_cases e : h = i
      · subst e; simp (disch := omega) only [u_n, u_s]; rw [h1 2 (by omega), h1 3 (by omega)]; exact ⟨rfl, rfl⟩
      · simp (disch := omega) only [u_n]; exact h3 h (by omega)
theorem m_im31 (N : hMem) : ∃ r, h_lp fX10_image_L31 h_FU (0, N) = some r ∧ r.1 = N 0 3 ∧ (∀ a, a ≠ 12 → r.2 a = N a) ∧ (∀ j, j < 3 → r.2 12 j = N 1 j) ∧ (∀ t, t < 24 → r.2 12 (3 + t) = N 2 t ∧ r.2 12 (27 + t) = N 3 t) ∧ (∀ h, h < 4 → r.2 12 (51 + h) = N 4 h ∧ r.2 12 (55 + h) = N 5 h ∧ r.2 12 (59 + h) = N 6 h ∧ r.2 12 (63 + h) = N 7 h) ∧ ∀ j, j < 12 → r.2 12 (67 + j) = N 8 j := by
  refine lp_u0 (body := fX10_image_L31) 3 (fun i z => ∃ Y : hMem, z = (nI i, Y) ∧ (∀ a, a ≠ 12 → Y a = N a) ∧ ∀ j, j < i → Y 12 j = N 1 j) _ (0, N) ⟨N, rfl, fun _ _ => rfl, fun j hj => absurd hj (Nat.not_lt_zero _)⟩ (by omega) ?_ ?_
  · rintro k z ⟨Y, rfl, h1, h3⟩
    unfold fX10_image_L31
    dsimp only
    rw [if_pos (show (3 : Int32) ≤ nI 3 from by decide)]
    obtain ⟨r, r1, r2, r3, r4, r5, r6, r7⟩ := m_im56 Y
    refine ⟨r, r1, by rw [r2, h1 0 (by omega)], fun a ha => (r3 a ha).trans (h1 a ha), fun j hj => (r4 j (by omega)).trans (h3 j hj), fun t ht => ?_, fun h hh => ?_, fun j hj => ?_⟩
    · rw [← h1 2 (by omega), ← h1 3 (by omega)]; exact r5 t ht
    · rw [← h1 4 (by omega), ← h1 5 (by omega), ← h1 6 (by omega), ← h1 7 (by omega)]; exact r6 h hh
    · rw [r7 j hj, h1 8 (by omega)]
  · rintro k i z hi ⟨Y, rfl, h1, h3⟩ hk
    unfold fX10_image_L31
    dsimp only
    rw [if_neg (show ¬ (3 : Int32) ≤ nI i from nI_ge (b := 3) hi (by decide)), if_pos (ib_mk hi (by omega)), if_pos (ib_mk (by omega) (by omega)), nI_clamp (by omega), nI_1]
    refine hk _ ⟨_, rfl, ?_, ?_⟩
    · intro a ha; rw [m_row ha]; exact h1 a ha
    · intro j hj
      rw [m_own]
      by_cases e : j = i
      · subst e; rw [u_s, h1 1 (by omega)]
      · rw [u_n (by omega)]; exact h3 j (by omega)
theorem eq_image {X M : hMem} (R : RR X M) : EqC (fX9_image X) (fX10_image M) := by
  unfold fX9_image fX10_image fX10_image_L29
  obtain ⟨r, r0, r1, r2, r3, r4, r5, r6, r7, r8⟩ := x_become (d := 15) (s := 1) (Or.inl ⟨rfl, rfl⟩) X
  rw [r0, Option.bind_some]
  obtain ⟨N, hN⟩ : ∃ N : hMem, N = h_up (h_up (h_up (h_up M 0 16 1) 0 17 ((h_up M 0 16 1) 0 3)) 0 18 ((h_up (h_up M 0 16 1) 0 17 ((h_up M 0 16 1) 0 3)) 0 8)) 0 19 ((h_up (h_up (h_up M 0 16 1) 0 17 ((h_up M 0 16 1) 0 3)) 0 18 ((h_up (h_up M 0 16 1) 0 17 ((h_up M 0 16 1) 0 3)) 0 8)) 0 15) := ⟨_, rfl⟩
  rw [← hN]
  have nr : ∀ a, a ≠ 0 → N a = M a := fun a ha => by rw [hN]; simp (disch := omega) only [m_row]
  have n0 : ∀ j, j < 16 ∨ 19 < j → N 0 j = M 0 j := fun j hj => by rw [hN]; simp (disch := omega) only [m_own, u_n]
  have n16 : N 0 16 = 1 := by rw [hN]; simp (disch := omega) only [m_own, u_n, u_s]
  have n17 : N 0 17 = M 0 3 := by rw [hN]; simp (disch := omega) only [m_own, u_n, u_s]
  have n18 : N 0 18 = M 0 8 := by rw [hN]; simp (disch := omega) only [m_own, u_n, u_s]
  have n19 : N 0 19 = M 0 15 := by rw [hN]; simp (disch := omega) only [m_own, u_n, u_s]
  clear hN
  obtain ⟨z, z0, z1, z2, z3, z4, z5, z6⟩ := m_im31 N
  obtain ⟨H, hH, hx, hm⟩ := R.hats
  refine ⟨_, _, z.2, rfl, ?_, ?_⟩
  · rw [z0]
    have e : z.1 = (h_up r 0 2 1) 1 5 := by
      rw [m_row (by omega), r1 1 (by omega), hx, z1, n0 3 (by omega), hm]
    rw [← e]
  · have xr : ∀ a, a ≠ 0 → (h_up r 0 2 1) a = r a := fun a ha => by rw [m_row ha]
    have x0 : ∀ j, j ≠ 2 → (h_up r 0 2 1) 0 j = X 0 j := fun j hj => by rw [m_own, u_n hj, r1 0 (by omega)]
    have x2 : (h_up r 0 2 1) 0 2 = 1 := by rw [m_own, u_s]
    generalize h_up r 0 2 1 = Q at xr x0 x2 ⊢
    refine R.re (x0 4 (by omega)) ?_ (fun T n k => gNow_n n ?_ ?_ ?_ ?_ ?_) (fun T n k => ?_) ?_ ?_ (gTape_c R.tape ?_ ?_ ?_ ?_) (gSheets_c R.shs ?_ ?_) (fun T h6 tx => gTexts_c tx ?_ ?_ ?_ h6) ?_
    · rw [z2 0 (by omega), n0 14 (by omega)]
    · intro a h1 h2; rw [xr a (by omega), r1 a (by omega)]
    · intro a h1 h2; rw [z2 a (by omega), nr a (by omega)]
    · rw [xr 1 (by omega), r1 1 (by omega), z2 0 (by omega), n0 3 (by omega)]; exact n.2.2.2.2.1
    · rw [xr 1 (by omega), r1 1 (by omega), z2 0 (by omega), n0 8 (by omega)]; exact n.2.2.2.2.2.1
    · rw [xr 1 (by omega), r1 1 (by omega), z2 0 (by omega), n0 15 (by omega)]; exact n.2.2.2.2.2.2
    · obtain ⟨q1, q2, q3, q4, q5, q6, q7⟩ := n
      refine Or.inr ⟨fun k hk => ?_, fun t ht => ?_, fun h hh => ?_, fun p hp => ?_, ?_, ?_, ?_⟩
      · rw [xr 16 (by omega), r2 k hk, z3 k hk, nr 1 (by omega)]; exact q1 k hk
      · obtain ⟨p1, p2, p3, p4⟩ := q2 t ht
        obtain ⟨s1, s2⟩ := r3 t ht
        obtain ⟨s3, s4⟩ := z4 t ht
        rw [nr 2 (by omega)] at s3
        rw [nr 3 (by omega)] at s4
        rw [xr 17 (by omega), xr 18 (by omega)]
        refine ⟨(s1.trans p1).trans s3.symm, (s2.trans p2).trans s4.symm, ?_, ?_⟩
        · show h_ib (z.2 12 (3 + t)) 5
          rw [s3]; exact p3
        · show h_ib (z.2 12 (27 + t)) 10
          rw [s4]; exact p4
      · obtain ⟨p0, p1, p2, p3, p4, p5, p6⟩ := q3 h hh
        obtain ⟨s1, s2, s3, s4⟩ := z5 h hh
        rw [nr 4 (by omega)] at s1
        rw [nr 5 (by omega)] at s2
        rw [nr 6 (by omega)] at s3
        rw [nr 7 (by omega)] at s4
        have t0 := r4 h hh 0 (by omega)
        have t1 := r4 h hh 1 (by omega)
        have t2 := r4 h hh 2 (by omega)
        dsimp only
        rw [xr _ (by omega), s1, s2, s3, s4]
        exact ⟨t0.trans p0, t1.trans p1, t2.trans p2, p3, p4, p5, p6⟩
      · obtain ⟨p0, p1, p2, p3, p4, p5⟩ := q4 p hp
        have s0 := z6 (3 * p) (by omega)
        have s1 := z6 (3 * p + 1) (by omega)
        have s2 := z6 (3 * p + 2) (by omega)
        rw [nr 8 (by omega)] at s0 s1 s2
        have t0 := r5 p hp 0 (by omega)
        have t1 := r5 p hp 1 (by omega)
        have t2 := r5 p hp 2 (by omega)
        dsimp only
        rw [xr _ (by omega), s0, s1, s2]
        exact ⟨t0.trans p0, t1.trans p1, t2.trans p2, p3, p4, p5⟩
      · rw [xr 15 (by omega), r6, z2 0 (by omega), n17]; exact q5
      · rw [xr 15 (by omega), r7, z2 0 (by omega), n18]; exact q6
      · rw [xr 15 (by omega), r8, z2 0 (by omega), n19]; exact q7
    · rw [x2, z2 0 (by omega), n16]
    · rw [z2 0 (by omega), n0 39 (by omega)]; exact R.hold
    · rw [xr _ (by omega), r1 _ (by omega)]
    · rw [xr _ (by omega), r1 _ (by omega)]
    · rw [z2 0 (by omega), n0 11 (by omega)]
    · rw [z2 9 (by omega), nr 9 (by omega)]
    · intro a h1; rw [xr _ (by omega), r1 _ (by omega)]
    · intro a h1 h2; rw [z2 a (by omega), nr a (by omega)]
    · intro a h1 h2 h3; rw [xr _ (by omega), r1 _ (by omega)]
    · rw [z2 _ (by omega), nr _ (by omega)]
    · rw [z2 _ (by omega), nr _ (by omega)]
    · rw [z2 _ (by omega), nr _ (by omega)]
