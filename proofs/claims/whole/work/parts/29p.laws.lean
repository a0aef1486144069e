/-! LAWS, FILM -/
theorem MX.law {w : hWd} {T i : Nat} {Y Y' : hMem} {mc ms : Nat → Int32} (h : MX w T Y) (hi : i < 6) (hg : gText (Y (57 + 4 * i)) (Y (58 + 4 * i)) mc ms) (hr : ∀ a, a ≠ 40 → Y' a = Y a) (h0 : ∀ j, j ≠ 6 → Y' 40 j = Y 40 j) (e6 : Y' 40 6 = nI (56 + 4 * i)) : MX (wL w (evX (Y (57 + 4 * i)) (Y (58 + 4 * i)))) i Y' := by
  obtain ⟨h1, h2, h3, h4, h5, h6, h7, h8, h9, h10⟩ := h
  refine ⟨?_, ?_, ?_, ?_, ?_, fun j hj => ?_, hi, e6, ⟨mc, ms, ?_⟩, ?_⟩
  · rw [h0 0 (by omega)]; exact h1
  · rw [h0 1 (by omega)]; exact h2
  · rw [h0 2 (by omega)]; exact h3
  · rw [h0 3 (by omega)]; exact h4
  · rw [h0 4 (by omega)]; exact h5
  · rw [hr 45 (by omega), hr 46 (by omega)]; exact h6 j hj
  · rw [hr _ (by omega), hr _ (by omega)]; exact hg
  · rw [hr _ (by omega), hr _ (by omega)]; rfl
theorem MM.law {w : hWd} {h i : Nat} {c e c' e' : Nat → Int32} {M M' : hMem} (m : MM w h c e M) (hi : i < 6) (hg : gText c' e' (fun j => M 10 (200 * i + j)) (fun p => M 11 (4 * i + p))) (hr : ∀ a, a ≠ 0 → M' a = M a) (e15 : M' 0 15 = nI i) : MM (wL w (evX c' e')) h c' e' M' := by
  obtain ⟨h1, h2, h3, h4, h5, ⟨r, h6, h7, h8⟩, h9⟩ := m
  refine ⟨h1, ?_, ?_, ?_, ?_, ⟨i, hi, e15, ?_⟩, rfl⟩
  · rw [hr 1 (by omega)]; exact h2
  · rw [hr 2 (by omega), hr 3 (by omega)]; exact h3
  · rw [hr 4 (by omega)]; exact h4
  · rw [hr 5 (by omega)]; exact h5
  · rw [hr 10 (by omega), hr 11 (by omega)]; exact hg
theorem RR.txt {X M : hMem} (R : RR X M) : ∃ T, 1 ≤ T ∧ T ≤ 6 ∧ X 0 4 = nI T ∧ M 0 14 = nI T ∧ gTexts T X M := by
  obtain ⟨T, t1, t2, t3, t4, n, k, f1, f2, tp, sh, tx, wd⟩ := R
  exact ⟨T, t1, t2, t3, t4, tx⟩
theorem eq_laws {X M : hMem} (R : RR X M) (a b : Int32) : EqC (fX9_laws a b X) (fX10_laws a b M) := by
  obtain ⟨H, hH, hx, hm⟩ := R.hats
  obtain ⟨v, v1, v2, v3⟩ := way_eq R hH hx hm a b
  obtain ⟨T, t1, t2, t3, t4, tx⟩ := R.txt
  unfold fX9_laws fX10_laws
  rw [v1, v2, Option.bind_some, Option.bind_some]
  by_cases cv : v = 0
  rotate_left
  · rw [if_neg cv, if_neg cv]; exact EqC.now R
  obtain ⟨s, n, h, hs, rfl, hn, e1, e2, e4, hh, rfl⟩ := v3 cv
  obtain ⟨r, q, l, X1, r1, q1, l1, ok, mm, q2, l2, x1, x2, x3, x4, -, -⟩ := R.ctx hH hh
  rw [if_pos cv, if_pos cv, x1, Option.bind_some]
  generalize wOf X M h r = w at *
  have self : ∀ (w : hWd), wL w w.2.2.2.2.2 = w := fun w => rfl
  refine EqC.of (lp20 (body := fX9_laws_L24 (nI s)) (body' := fX10_laws_L25 (nI s) (nI h) (M 0 15)) T (fun i z z' => ∃ (v : Int32) (Y N : hMem) (f : Nat → (Nat → Int32) → Int32) (t : Nat) (c' e' : Nat → Int32) (f' : Nat → (Nat → Int32) → Int32), z = (v, nI i, Y) ∧ z' = (v, nI i, N) ∧ kO X Y ∧ MX (wL w f) t Y ∧ Y 40 5 = nI (stN (q, l)) ∧ MM (wL w f') h c' e' N ∧ kQ M (h_up N 0 15 (M 0 15))) EqQ _ _ ⟨0, X1, M, w.2.2.2.2.2, r, _, _, w.2.2.2.2.2, rfl, rfl, fun a h1 _ => x4 a h1, x2, x3, mm, by rw [h_upid M 0 15 _ rfl]; exact kQ.rf M⟩ (by omega) ?_ ?_)
  · rintro k k' z z' ⟨v, Y, N, f, t, c', e', f', rfl, rfl, oY, mY, h5, mN, kN⟩
    unfold fX9_laws_L24 fX10_laws_L25
    dsimp only
    have n14 : N 0 14 = nI T := by
      have := kN.2 14 (by omega) (by omega)
      rw [m_own, u_n (by omega)] at this
      rw [this]; exact t4
    simp only [show Y 0 4 = nI T from by rw [oY 0 (by omega) (by omega), t3], n14]
    rw [if_pos (nI_le (Nat.le_refl _) (by omega)), if_pos (nI_le (Nat.le_refl _) (by omega))]
    exact ⟨_, _, rfl, rfl, rfl, R.keep oY.X kN.keep⟩
  · rintro k k' i z z' hi ⟨v, Y, N, f, t, c', e', f', rfl, rfl, oY, mY, h5, mN, kN⟩ hk
    unfold fX9_laws_L24 fX10_laws_L25
    dsimp only
    have nrow : ∀ a, (1 ≤ a ∧ a < 18) ∨ 23 < a → N a = M a := fun a h1 => by
      have := kN.1 a h1
      rw [m_row (by omega)] at this
      exact this
    have n0 : ∀ j, j ≠ 36 → j ≠ 37 → j ≠ 15 → N 0 j = M 0 j := fun j j1 j2 j3 => by
      have := kN.2 j j1 j2
      rw [m_own, u_n j3] at this
      exact this
    simp only [show Y 0 4 = nI T from by rw [oY 0 (by omega) (by omega), t3], show N 0 14 = nI T from by rw [n0 14 (by omega) (by omega) (by omega), t4]]
    rw [if_neg (nI_ge hi (by omega)), if_neg (nI_ge hi (by omega)), if_pos (ib_mk (by omega) (by omega)), if_pos (ib_mk hs (by omega)), nI_clamp (by omega), nI_clamp (by omega)]
    have g := tx i hi
    have eY1 : Y (57 + 4 * i) = X (57 + 4 * i) := oY _ (by omega) (by omega)
    have eY2 : Y (58 + 4 * i) = X (58 + 4 * i) := oY _ (by omega) (by omega)
    have mY' : MX (wL w (evX (X (57 + 4 * i)) (X (58 + 4 * i)))) i (h_up Y 40 6 (nI (56 + 4 * i))) := by
      have := mY.law (i := i) (Y' := h_up Y 40 6 (nI (56 + 4 * i))) (by omega) (by rw [eY1, eY2]; exact g) (fun a ha => m_row ha) (fun j hj => by rw [m_own, u_n hj]) (by rw [m_own, u_s])
      rw [eY1, eY2] at this
      exact this
    have mN' : MM (wL w (evX (X (57 + 4 * i)) (X (58 + 4 * i)))) h (X (57 + 4 * i)) (X (58 + 4 * i)) (h_up N 0 15 (nI i)) :=
      mN.law (i := i) (by omega) (by rw [nrow 10 (by omega), nrow 11 (by omega)]; exact g) (fun a ha => m_row ha) (by rw [m_own, u_s])
    have okk := wL_ok ok (X (57 + 4 * i)) (X (58 + 4 * i))
    have y5 : (h_up Y 40 6 (nI (56 + 4 * i))) 40 5 = nI (stN (q, l)) := by rw [m_own, u_n (by omega)]; exact h5
    obtain ⟨X2, f1, f2⟩ := x_else okk mY' hs hn (by rw [m_row (by omega), oY _ (by omega) (by omega)]; exact e1) (s := (q, l)) q1 l1
    obtain ⟨M2, g1, g2⟩ := m_unlikeNow okk mN' (by rw [m_own, u_n (by omega), n0 39 (by omega) (by omega) (by omega)]; exact R.hold) hs hn (by rw [m_row (by omega), nrow 14 (by omega)]; exact e2) q1 l1 (by rw [m_row (by omega), nrow 6 (by omega)]; exact q2) (by rw [m_row (by omega), nrow 7 (by omega)]; exact l2)
    rw [y5, f1, g1, Option.bind_some, Option.bind_some]
    dsimp only
    have ed : difS ((h_up Y 40 6 (nI (56 + 4 * i))) (81 + 2 * s)) (wL w (evX (X (57 + 4 * i)) (X (58 + 4 * i)))) (q, l) n = difS (fun j => (h_up N 0 15 (nI i)) 15 (40 * s + j)) (wL w (evX (X (57 + 4 * i)) (X (58 + 4 * i)))) (q, l) n := difS_c (fun j hj => by
      rw [m_row (by omega), m_row (by omega), oY _ (by omega) (by omega), nrow 15 (by omega)]
      exact e4 j (by omega))
    rw [ed, ans_ge (difS_ok hn), ans_m1 (difS_ok hn), nI_1, or_z]
    have oY2 : kO X X2 := oY.tr ((kO.up Y (by omega) (by omega) 6 _).tr f2.P.O)
    have mY2 := mY'.kT f2
    have y52 : X2 40 5 = nI (stN (q, l)) := by rw [f2 40 (by omega) (by omega)]; exact y5
    have mN2 := mN'.kS g2
    have kN2 : kQ M (h_up M2 0 15 (M 0 15)) := by
      refine kN.tr ⟨fun a ha => ?_, fun j j1 j2 => ?_⟩
      · rw [m_row (by omega), m_row (by omega), g2.1 a (by omega) (by omega) (by omega), m_row (by omega)]
      · rw [m_own, m_own]
        by_cases e : j = 15
        · subst e; rw [u_s, u_s]
        · rw [u_n e, u_n e, g2.2 j j1 j2, m_own, u_n e]
    generalize difS _ _ _ _ = o
    by_cases co : o = none
    · rw [if_pos co, if_pos co]
      exact hk _ _ ⟨_, X2, M2, _, _, _, _, _, rfl, rfl, oY2, mY2, y52, mN2, kN2⟩
    · rw [if_neg co, if_neg co]
      exact hk _ _ ⟨_, X2, M2, _, _, _, _, _, rfl, rfl, oY2, mY2, y52, mN2, kN2⟩
theorem MM.ext {w : hWd} {h : Nat} {c e : Nat → Int32} {M M' : hMem} (m : MM w h c e M) (hr : ∀ a, 1 ≤ a → a ≤ 11 → M' a = M a) (h15 : M' 0 15 = M 0 15) : MM w h c e M' := by
  obtain ⟨h1, h2, h3, h4, h5, ⟨r, h6, h7, h8⟩, h9⟩ := m
  refine ⟨h1, ?_, ?_, ?_, ?_, ⟨r, h6, ?_, ?_⟩, h9⟩
  · rw [hr 1 (by omega) (by omega)]; exact h2
  · rw [hr 2 (by omega) (by omega), hr 3 (by omega) (by omega)]; exact h3
  · rw [hr 4 (by omega) (by omega)]; exact h4
  · rw [hr 5 (by omega) (by omega)]; exact h5
  · rw [h15]; exact h7
  · rw [hr 10 (by omega) (by omega), hr 11 (by omega) (by omega)]; exact h8
theorem q_le25y {α : Type} {a : Int32} {A B : α} : (if a < 0 then A else if a ≤ 25 then B else A) = if h_ib a 26 then B else A := if_le a 25 A B (by decide)
theorem eq_film {X M : hMem} (R : RR X M) (a b c : Int32) : EqC (fX9_film a b c X) (fX10_film a b c M) := by
  obtain ⟨H, hH, hx, hm⟩ := R.hats
  unfold fX9_film fX10_film
  rw [xe_sheet, me_in3, xe_hat hx (by omega), me_hat hm (by omega), q_le25y, show fX10_in c 0 25 M = if h_ib c 26 then 1 else 0 from me_in c 25 M (by decide)]
  simp only [b01]
  by_cases ha : h_ib a 4
  rotate_left
  · simp only [if_neg ha]; exact EqC.now R
  by_cases hb : h_ib b H
  rotate_left
  · simp only [if_pos ha, if_neg hb]; exact EqC.now R
  by_cases hc : h_ib c 26
  rotate_left
  · simp only [if_pos ha, if_pos hb, if_neg hc]; exact EqC.now R
  simp only [if_pos ha, if_pos hb, if_pos hc]
  obtain ⟨s, hs, hs2, rfl⟩ := ib_ex ha
  obtain ⟨h, hh, hh2, rfl⟩ := ib_ex hb
  obtain ⟨n, hn, hn2, rfl⟩ := ib_ex hc
  obtain ⟨r, q, l, X1, r1, q1, l1, ok, mm, q2, l2, x1, x2, x3, x4, -, -⟩ := R.ctx hH hh
  obtain ⟨X2, f1, f2, f3⟩ := x_follow ok x2 (a := 47) (Or.inl rfl) x3 q1 l1
  rw [x1, Option.bind_some, f1, Option.bind_some, nI_clamp hs2]
  unfold fX6_becomeEmpty
  rw [if_pos (sh_isB hs)]
  obtain ⟨Y, y1, y2, y3⟩ := x_empty (80 + 2 * s) (h_up (h_up X2 (80 + 2 * s) 0 2) (80 + 2 * s) 1 (nI n))
  rw [y1, Option.bind_some]
  have Yr : ∀ a, a ≠ 80 + 2 * s → a ≠ 80 + 2 * s + 1 → Y a = X2 a := fun a h1 h2 => by rw [y2 a h2, m_row h1, m_row h1]
  have Y0 : Y (80 + 2 * s) 0 = 2 := by rw [y2 _ (by omega), m_own, u_n (by omega), m_own, u_s]
  have Y1 : Y (80 + 2 * s) 1 = nI n := by rw [y2 _ (by omega), m_own, u_s]
  have Y47 : Y 47 = X2 47 := Yr 47 (by omega) (by omega)
  generalize wOf X M h r = w at *
  have hx2 : ∀ a, a ≤ 28 ∨ 80 ≤ a ∨ a = 31 ∨ (56 ≤ a ∧ a < 80 ∧ a % 4 ≠ 3) ∨ a = 30 → X2 a = X a := fun a h1 => by rw [f2 a (by omega) (by omega) (by omega), x4 a (by omega)]
  -- x's loop
  have hxl : ∃ Z, h_lp (fX9_film_L67 (nI s) (nI n)) h_FU (0, Y) = some (nI n, Z) ∧ (∀ a, a ≠ 80 + 2 * s + 1 → Z a = Y a) ∧ ∀ i, i < 40 → Z (80 + 2 * s + 1) i = if i < n then nI (runS noH w 0 i (q, l)).1 else 0 := by
    refine Exists.elim (lp_u0 (body := fX9_film_L67 (nI s) (nI n)) n (fun i z => ∃ (Z : hMem), z = (nI i, Z) ∧ (∀ a, a ≠ 80 + 2 * s + 1 → Z a = Y a) ∧ ∀ j, j < 40 → Z (80 + 2 * s + 1) j = if j < i then nI (runS noH w 0 j (q, l)).1 else 0) (fun r => r.1 = nI n ∧ (∀ a, a ≠ 80 + 2 * s + 1 → r.2 a = Y a) ∧ ∀ i, i < 40 → r.2 (80 + 2 * s + 1) i = if i < n then nI (runS noH w 0 i (q, l)).1 else 0) (0, Y) ⟨Y, rfl, fun _ _ => rfl, fun j hj => by rw [y3 j hj, if_neg (by omega)]⟩ (by omega) ?_ ?_) ?_
    · rintro k z ⟨Z, rfl, h1, h2⟩
      unfold fX9_film_L67
      dsimp only
      rw [if_pos (nI_le (Nat.le_refl _) (by omega))]
      exact ⟨_, rfl, rfl, h1, h2⟩
    · rintro k i z hi ⟨Z, rfl, h1, h2⟩ hk
      unfold fX9_film_L67 fX6_put
      dsimp only
      have hL := runS_lt (hl := noH) (w := w) (a := 0) (s := (q, l)) q1 l1 i
      simp only [nI_clamp hs2, nI_clamp (show i < 2 ^ 31 by omega), show Z 47 = X2 47 from (h1 47 (by omega)).trans Y47, f3 i (by omega), x_sqS hL.1 hL.2, if_pos (sh_isB hs), show Z (80 + 2 * s) = Y (80 + 2 * s) from h1 _ (by omega), Y0, Y1, if_neg (show ¬ (2 : Int32) = 0 from by decide), if_neg (show ¬ (2 : Int32) = 1 from by decide)]
      rw [if_neg (nI_ge hi (by omega)), if_pos ha, if_pos (ib_mk (by omega) (by omega)), if_neg (nI_pos (by omega)), if_pos (nI_lt hi (by omega)), if_pos (ib_mk (by omega) (by omega)), Option.bind_some, nI_1]
      refine hk _ ⟨_, rfl, fun a ha => by rw [m_row ha]; exact h1 a ha, fun j hj => ?_⟩
      rw [m_own]
      by_cases e : j = i
      · subst e; rw [u_s, if_pos (by omega)]
      · rw [u_n e, h2 j hj]
        by_cases c : j < i
        · rw [if_pos c, if_pos (by omega)]
        · rw [if_neg c, if_neg (by omega)]
    · rintro r ⟨g1, g2, g3, g4⟩
      exact ⟨r.2, by rw [g1, ← g2], g3, g4⟩
  obtain ⟨Z, z1, z2, z3⟩ := hxl
  -- m's loop
  obtain ⟨N, hN⟩ : ∃ N : hMem, N = h_up (h_up M 13 s 2) 14 s (nI n) := ⟨_, rfl⟩
  have nr : ∀ a, a ≠ 13 → a ≠ 14 → N a = M a := fun a h1 h2 => by rw [hN, m_row h2, m_row h1]
  have n13 : N 13 = upd (M 13) s 2 := by rw [hN, m_row (by omega), m_own]
  have n14 : N 14 = upd (M 14) s (nI n) := by rw [hN, m_own, m_row (by omega)]
  rw [← hN, m_begins (by omega), Option.bind_some, nr 6 (by omega) (by omega), nr 7 (by omega) (by omega), q2, l2]
  clear hN
  have mN : MM w h (X (57 + 4 * r)) (X (58 + 4 * r)) N := by
    obtain ⟨h1, h2, h3, h4, h5, ⟨r', h6, h7, h8⟩, h9⟩ := mm
    refine ⟨h1, ?_, ?_, ?_, ?_, ⟨r', h6, ?_, ?_⟩, h9⟩
    · rw [nr 1 (by omega) (by omega)]; exact h2
    · rw [nr 2 (by omega) (by omega), nr 3 (by omega) (by omega)]; exact h3
    · rw [nr 4 (by omega) (by omega)]; exact h4
    · rw [nr 5 (by omega) (by omega)]; exact h5
    · rw [nr 0 (by omega) (by omega)]; exact h7
    · rw [nr 10 (by omega) (by omega), nr 11 (by omega) (by omega)]; exact h8
  have kb := kS_b N (nI q) (nI l)
  have hml : ∃ W, h_lp (fX10_film_L58 (nI s) (nI h) (nI n)) h_FU (0, h_up (h_up N 0 36 (nI q)) 0 37 (nI l)) = some (nI n, W) ∧ (∀ a, a ≠ 15 → a ≠ 0 → a ≠ 19 → a ≠ 20 → W a = N a) ∧ (∀ j, j ≠ 36 → j ≠ 37 → W 0 j = N 0 j) ∧ (∀ i, i < 40 → W 15 (40 * s + i) = if i < n then nI (runS noH w 0 i (q, l)).1 else 0) ∧ ∀ j, j < 40 * s ∨ 40 * s + 40 ≤ j → W 15 j = N 15 j := by
    refine Exists.elim (lp_u0 (body := fX10_film_L58 (nI s) (nI h) (nI n)) 40 (fun i z => ∃ (W : hMem), z = (nI i, W) ∧ (∀ a, a ≠ 15 → a ≠ 0 → a ≠ 19 → a ≠ 20 → W a = N a) ∧ (∀ j, j ≠ 36 → j ≠ 37 → W 0 j = N 0 j) ∧ (i ≤ 24 → W 0 36 = nI (runS noH w 0 i (q, l)).1 ∧ W 0 37 = nI (runS noH w 0 i (q, l)).2) ∧ (∀ j, j < i → W 15 (40 * s + j) = if j < n then nI (runS noH w 0 j (q, l)).1 else 0) ∧ ∀ j, j < 40 * s ∨ 40 * s + 40 ≤ j → W 15 j = N 15 j) (fun r => r.1 = nI n ∧ (∀ a, a ≠ 15 → a ≠ 0 → a ≠ 19 → a ≠ 20 → r.2 a = N a) ∧ (∀ j, j ≠ 36 → j ≠ 37 → r.2 0 j = N 0 j) ∧ (∀ i, i < 40 → r.2 15 (40 * s + i) = if i < n then nI (runS noH w 0 i (q, l)).1 else 0) ∧ ∀ j, j < 40 * s ∨ 40 * s + 40 ≤ j → r.2 15 j = N 15 j) (0, h_up (h_up N 0 36 (nI q)) 0 37 (nI l)) ⟨h_up (h_up N 0 36 (nI q)) 0 37 (nI l), rfl, fun a _ h0 _ _ => by rw [m_row h0, m_row h0], fun j j1 j2 => by rw [m_own, u_n j2, m_own, u_n j1], fun _ => ⟨by rw [m_own, u_n (by omega), m_own, u_s]; rfl, by rw [m_own, u_s]; rfl⟩, fun j hj => absurd hj (Nat.not_lt_zero _), fun j _ => by rw [m_row (by omega), m_row (by omega)]⟩ (by omega) ?_ ?_) ?_
    · rintro k z ⟨W, rfl, h1, h2, h3, h4, h5⟩
      unfold fX10_film_L58
      dsimp only
      rw [if_pos (show (40 : Int32) ≤ nI 40 from by decide)]
      exact ⟨_, rfl, rfl, h1, h2, h4, h5⟩
    · rintro k i z hi ⟨W, rfl, h1, h2, h3, h4, h5⟩ hk
      unfold fX10_film_L58
      dsimp only
      rw [if_neg (show ¬ (40 : Int32) ≤ nI i from nI_ge (b := 40) hi (by decide))]
      have key : ∀ v, v = (if i < n then nI (runS noH w 0 i (q, l)).1 else 0) → ∃ r, fX10_film_L90 k (nI s) (nI h) (nI n) (nI i) v (40 * nI s + nI i) W = some r ∧ (r.1 = nI n ∧ (∀ a, a ≠ 15 → a ≠ 0 → a ≠ 19 → a ≠ 20 → r.2 a = N a) ∧ (∀ j, j ≠ 36 → j ≠ 37 → r.2 0 j = N 0 j) ∧ (∀ i, i < 40 → r.2 15 (40 * s + i) = if i < n then nI (runS noH w 0 i (q, l)).1 else 0) ∧ ∀ j, j < 40 * s ∨ 40 * s + 40 ≤ j → r.2 15 j = N 15 j) := by
        intro v hv
        unfold fX10_film_L90
        rw [show (40 : Int32) * nI s = nI (40 * s) from pk_mul 40 s, nI_add, if_pos (ib_mk (by omega) (by omega)), nI_clamp (by omega)]
        have p4 : ∀ j, j < i + 1 → (h_up W 15 (40 * s + i) v) 15 (40 * s + j) = if j < n then nI (runS noH w 0 j (q, l)).1 else 0 := fun j hj => by
          rw [m_own]
          by_cases e : j = i
          · subst e; rw [u_s]; exact hv
          · rw [u_n (by omega)]; exact h4 j (by omega)
        have p5 : ∀ j, j < 40 * s ∨ 40 * s + 40 ≤ j → (h_up W 15 (40 * s + i) v) 15 j = N 15 j := fun j hj => by
          rw [m_own, u_n (by omega)]; exact h5 j hj
        have p1 : ∀ a, a ≠ 15 → a ≠ 0 → a ≠ 19 → a ≠ 20 → (h_up W 15 (40 * s + i) v) a = N a := fun a a1 a2 a3 a4 => by rw [m_row a1]; exact h1 a a1 a2 a3 a4
        have p2 : (h_up W 15 (40 * s + i) v) 0 = W 0 := by rw [m_row (by omega)]
        by_cases h24 : i < 24
        · rw [if_neg (show ¬ (24 : Int32) ≤ nI i from nI_ge (b := 24) h24 (by decide))]
          obtain ⟨w1, w2⟩ := h3 (by omega)
          have hL := runS_lt (hl := noH) (w := w) (a := 0) (s := (q, l)) q1 l1 i
          have mW : MM w h (X (57 + 4 * r)) (X (58 + 4 * r)) (h_up W 15 (40 * s + i) v) := mN.ext (fun a a1 a2 => p1 a (by omega) (by omega) (by omega) (by omega)) (by rw [p2]; exact h2 15 (by omega) (by omega))
          obtain ⟨M', g1, g2, g3, g4⟩ := m_seconds ok mW (t := i) (q := (runS noH w 0 i (q, l)).1) (l := (runS noH w 0 i (q, l)).2) h24 hL.1 hL.2 (by rw [p2]; exact w1) (by rw [p2]; exact w2)
          have hld : hldM (h_up W 15 (40 * s + i) v) i = false := hldM_0 (by rw [p2, h2 39 (by omega) (by omega), nr 0 (by omega) (by omega)]; exact R.hold) i
          rw [hld] at g3 g4
          rw [g1, Option.bind_some, nI_1]
          refine hk _ ⟨M', rfl, fun a a1 a2 a3 a4 => ?_, fun j j1 j2 => ?_, fun _ => ?_, fun j hj => ?_, fun j hj => ?_⟩
          · rw [g2.1 a a2 a3 a4]; exact p1 a a1 a2 a3 a4
          · rw [g2.2 j j1 j2, p2]; exact h2 j j1 j2
          · rw [runS_s, if_neg (show ¬ noH (0 + i) = true from Bool.false_ne_true), Nat.zero_add]
            exact ⟨g3, g4⟩
          · rw [g2.1 15 (by omega) (by omega) (by omega)]; exact p4 j hj
          · rw [g2.1 15 (by omega) (by omega) (by omega)]; exact p5 j hj
        · rw [if_pos (show (24 : Int32) ≤ nI i from nI_le (a := 24) (by omega) (by omega)), nI_1]
          exact hk _ ⟨_, rfl, p1, fun j j1 j2 => by rw [p2]; exact h2 j j1 j2, fun h => absurd h (by omega), p4, p5⟩
      by_cases hin : n ≤ i
      · rw [if_pos (nI_le hin (by omega))]
        exact key 0 (by rw [if_neg (by omega)])
      · rw [if_neg (nI_ge (by omega) (by omega))]
        exact key _ (by rw [if_pos (by omega)]; exact (h3 (by omega)).1)
    · rintro r ⟨g1, g2, g3, g4, g5⟩
      exact ⟨r.2, by rw [g1, ← g2], g3, g4, g5⟩
  obtain ⟨W, w1, w2, w3, w4, w5⟩ := hml
  rw [show h_lp (fX9_film_L67 (nI s) (nI n)) h_FU (0, Y) = _ from z1, w1]
  have zr : ∀ a, a ≠ 80 + 2 * s → a ≠ 80 + 2 * s + 1 → Z a = X2 a := fun a h1 h2 => by rw [z2 a h2, Yr a h1 h2]
  refine EqC.now (R.sheets ?_ ?_ ?_ ?_ ?_)
  · intro a ka h2
    unfold kX at ka
    rw [zr a (by omega) (by omega), hx2 a (by omega)]
  · rw [zr 30 (by omega) (by omega), hx2 30 (by omega)]
  · intro a ka h2
    unfold kM at ka
    rw [w2 a (by omega) (by omega) (by omega) (by omega), nr a (by omega) (by omega)]
  · intro j hj
    unfold kM0 at hj
    rw [w3 j (by omega) (by omega), nr 0 (by omega) (by omega)]
  · intro t ht
    obtain ⟨p1, p2, p3, p4, p5⟩ := R.shs t ht
    rw [w2 13 (by omega) (by omega) (by omega) (by omega), w2 14 (by omega) (by omega) (by omega) (by omega), n13, n14]
    by_cases e : t = s
    · subst e
      rw [u_s, u_s, z2 _ (by omega), Y0, Y1]
      refine ⟨rfl, rfl, Or.inr (ib_mk (j := 2) (by omega) (by omega)), ib_mk (by omega) (by omega), fun i hi => ?_⟩
      rw [show 81 + 2 * t = 80 + 2 * t + 1 from by omega, z3 i hi, w4 i hi]
    · rw [u_n e, u_n e, zr _ (by omega) (by omega), zr _ (by omega) (by omega), hx2 _ (by omega), hx2 _ (by omega)]
      refine ⟨p1, p2, p3, p4, fun i hi => ?_⟩
      rw [w5 _ (by omega), nr 15 (by omega) (by omega)]
      exact p5 i hi
