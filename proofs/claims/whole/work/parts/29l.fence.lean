/-! LULL, FENCE -/
theorem eq_lull {X M : hMem} (R : RR X M) (a b c : Int32) : EqC (fX9_lull a b c X) (fX10_lull a b c M) := by
  obtain ⟨H, hH, hx, hm⟩ := R.hats
  obtain ⟨C, hC, cx, cm⟩ := R.cats
  unfold fX9_lull fX10_lull
  rw [pair_x hx cx (by omega) (by omega), there_m hm cm (by omega) (by omega), me_in1, b01]
  by_cases ha : h_ib a H
  rotate_left
  · simp only [if_neg ha]
    rw [if_neg (by decide), if_pos trivial]; exact EqC.now R
  by_cases hb : h_ib b C
  rotate_left
  · simp only [if_pos ha, if_neg hb]
    rw [if_neg (by decide), if_pos trivial]; exact EqC.now R
  by_cases hc : h_ib c 2
  rotate_left
  · simp only [if_pos ha, if_pos hb, if_neg hc]
    rw [if_neg (by decide), if_neg (by decide)]; exact EqC.now R
  simp only [if_pos ha, if_pos hb, if_pos hc]
  rw [if_pos trivial, if_neg (by decide)]
  obtain ⟨h, h1, h2, rfl⟩ := ib_ex ha
  obtain ⟨p, p1, p2, rfl⟩ := ib_ex hb
  obtain ⟨r, q, l, X1, r1, q1, l1, ok, mm, q2, l2, x1, x2, x3, x4, -, -⟩ := R.ctx hH h1
  obtain ⟨c0, pa, re, c1, pp1, e1, m0, m1, m2, y0, y1, y2⟩ := R.cctx (p := p) (by omega)
  have hp4 : p < 4 := by omega
  obtain ⟨o, X2, N2, f1, f2, f3, f4, f5, f6⟩ := had_w ok x2 x3 q1 l1 mm R.hold q2 l2 hp4 c1 pp1 e1 (by rw [x4 _ (by omega)]; exact y0) (by rw [x4 _ (by omega)]; exact y1) (by rw [x4 _ (by omega)]; exact y2) m0 m1 m2
  unfold fX9_hadNow
  rw [x1, Option.bind_some, if_pos (ib_mk hp4 (by decide)), nI_clamp (by omega), f1, Option.bind_some, f2, Option.bind_some]
  dsimp only
  have oX : kO X X2 := fun a h1 h2 => (f4 a (by omega) h2).trans (x4 a h1)
  have mx2 := x2.kP f4
  have x25 : X2 40 5 = nI (stN (q, l)) := by rw [f6]; exact x3
  have w2 : (wOf X M h r).2.1 = M 2 := rfl
  generalize wOf X M h r = w at *
  refine EqC.of (lp20 (body := fX9_lull_L31 (nI p) c) (body' := fX10_lull_L38 (nI h) (nI p) c) 24 (fun i s s' => ∃ (v : Int32) (f : Option Nat) (Y N : hMem), s = (ansI f, v, nI i, Y) ∧ s' = (v, ansI f, nI i, N) ∧ okO f ∧ kO X Y ∧ MX w r Y ∧ Y 40 5 = nI (stN (q, l)) ∧ kQ M N) EqQ _ _ ⟨-1, o, X2, N2, rfl, rfl, f3, oX, mx2, x25, f5⟩ (by omega) ?_ ?_)
  · rintro k k' s s' ⟨v, f, Y, N, rfl, rfl, of, oY, mY, h5, kN⟩
    unfold fX9_lull_L31 fX10_lull_L38
    dsimp only
    rw [if_pos (show (24 : Int32) ≤ nI 24 from by decide), if_pos (show (24 : Int32) ≤ nI 24 from by decide)]
    have R' := R.keep oY.X kN.keep
    by_cases ec : c = 0
    · rw [if_pos ec, if_pos ec]; exact ⟨_, _, rfl, rfl, rfl, R'⟩
    · rw [if_neg ec, if_neg ec]; exact ⟨_, _, rfl, rfl, rfl, R'⟩
  · rintro k k' i s s' hi ⟨v, f, Y, N, rfl, rfl, of, oY, mY, h5, kN⟩ hk
    unfold fX9_lull_L31 fX10_lull_L38 fX10_lull_L100
    dsimp only
    have hi24 : h_ib (nI i) 24 := ib_mk hi (by omega)
    rw [if_neg (show ¬ (24 : Int32) ≤ nI i from nI_ge (b := 24) hi (by decide)), if_neg (show ¬ (24 : Int32) ≤ nI i from nI_ge (b := 24) hi (by decide))]
    simp only [if_pos hi24, if_pos (show h_ib (nI p) 4 from ib_mk hp4 (by omega)), nI_clamp (show i < 2 ^ 31 by omega), nI_clamp p2]
    have hv5 : h_ib 4 5 := ib_mk (j := 4) (by omega) (by omega)
    have mx := mY.way i 4
    have mN := (mm.kQ kN).way i 4
    obtain ⟨o', X3, N3, g1, g2, g3, g4, g5, g6⟩ := had_w (wW_ok ok hv5) mx (by rw [m_row (by omega)]; exact h5) q1 l1 mN (by rw [m_row (by omega), kN.2 39 (by omega) (by omega)]; exact R.hold) (by rw [m_row (by omega), kN.1 6 (by omega)]; exact q2) (by rw [m_row (by omega), kN.1 7 (by omega)]; exact l2) hp4 c1 pp1 e1 (by rw [m_row (by omega), oY _ (by omega) (by omega)]; exact y0) (by rw [m_row (by omega), oY _ (by omega) (by omega)]; exact y1) (by rw [m_row (by omega), oY _ (by omega) (by omega)]; exact y2) (by rw [m_row (by omega), kN.1 8 (by omega)]; exact m0) (by rw [m_row (by omega), kN.1 8 (by omega)]; exact m1) (by rw [m_row (by omega), kN.1 8 (by omega)]; exact m2)
    rw [g1, Option.bind_some, g2, Option.bind_some]
    dsimp only
    have eX3 : X3 3 i = w.2.1 i := by
      rw [g4 3 (by omega) (by omega), m_row (by omega), oY 3 (by omega) (by omega), w2]; exact (R.gust hi).1
    have oY' : kO X (h_up X3 45 i (X3 3 i)) := oY.tr ((kO.up Y (by omega) (by omega) i 4).tr (g4.O.tr (kO.up X3 (by omega) (by omega) i _)))
    have mY' : MX w r (h_up X3 45 i (X3 3 i)) := by
      have := (mx.kP g4).way i (w.2.1 i)
      rw [wWW] at this
      rw [eX3]
      exact this
    have h5' : (h_up X3 45 i (X3 3 i)) 40 5 = nI (stN (q, l)) := by
      rw [m_row (by omega), g6, m_row (by omega)]; exact h5
    have kN' : kQ M (h_up N3 2 i (N 2 i)) := by
      refine kN.tr ⟨fun a ha => ?_, fun j hj1 hj2 => ?_⟩
      · by_cases e : a = 2
        · subst e
          rw [m_own, g5.1 2 (by omega), m_own]
          funext j
          by_cases e : j = i
          · subst e; rw [u_s]
          · rw [u_n e, u_n e]
        · rw [m_row e, g5.1 a ha, m_row e]
      · rw [m_row (by omega), g5.2 j hj1 hj2, m_row (by omega)]
    generalize h_up X3 45 i (X3 3 i) = Y' at *
    generalize h_up N3 2 i (N 2 i) = N' at *
    rw [x_sooner g3 of, m_sooner g3 of, b01, b01, nI_1]
    by_cases hs : soon o' f = true
    · simp only [if_pos hs, if_neg (show ¬ (1 : Int32) = 0 from by decide)]
      exact hk _ _ ⟨_, o', Y', N', rfl, rfl, g3, oY', mY', h5', kN'⟩
    · simp only [if_neg hs, if_true]
      exact hk _ _ ⟨_, f, Y', N', rfl, rfl, of, oY', mY', h5', kN'⟩
theorem eq_fence {X M : hMem} (R : RR X M) (a b c : Int32) : EqC (fX9_fence a b c X) (fX10_fence a b c M) := by
  obtain ⟨H, hH, hx, hm⟩ := R.hats
  obtain ⟨C, hC, cx, cm⟩ := R.cats
  unfold fX9_fence fX10_fence
  rw [pair_x hx cx (by omega) (by omega), there_m hm cm (by omega) (by omega), me_in1, b01]
  by_cases ha : h_ib a H
  rotate_left
  · simp only [if_neg ha]
    rw [if_neg (by decide), if_pos trivial]; exact EqC.now R
  by_cases hb : h_ib b C
  rotate_left
  · simp only [if_pos ha, if_neg hb]
    rw [if_neg (by decide), if_pos trivial]; exact EqC.now R
  by_cases hc : h_ib c 2
  rotate_left
  · simp only [if_pos ha, if_pos hb, if_neg hc]
    rw [if_neg (by decide), if_neg (by decide)]; exact EqC.now R
  simp only [if_pos ha, if_pos hb, if_pos hc]
  rw [if_pos trivial, if_neg (by decide)]
  obtain ⟨h, h1, h2, rfl⟩ := ib_ex ha
  obtain ⟨p, p1, p2, rfl⟩ := ib_ex hb
  obtain ⟨r, q, l, X1, r1, q1, l1, ok, mm, q2, l2, x1, x2, x3, x4, -, -⟩ := R.ctx hH h1
  obtain ⟨c0, pa, re, c1, pp1, e1, m0, m1, m2, y0, y1, y2⟩ := R.cctx (p := p) (by omega)
  have hp4 : p < 4 := by omega
  obtain ⟨o, X2, N2, f1, f2, f3, f4, f5, f6⟩ := had_w ok x2 x3 q1 l1 mm R.hold q2 l2 hp4 c1 pp1 e1 (by rw [x4 _ (by omega)]; exact y0) (by rw [x4 _ (by omega)]; exact y1) (by rw [x4 _ (by omega)]; exact y2) m0 m1 m2
  unfold fX9_hadNow
  rw [x1, Option.bind_some, if_pos (ib_mk hp4 (by decide)), nI_clamp (by omega), f1, Option.bind_some, f2, Option.bind_some]
  dsimp only
  have oX : kO X X2 := fun a h1 h2 => (f4 a (by omega) h2).trans (x4 a h1)
  have mx2 := x2.kP f4
  have x25 : X2 40 5 = nI (stN (q, l)) := by rw [f6]; exact x3
  have R2 := R.keep oX.X f5.keep
  obtain ⟨S1, s1, s2⟩ := x_hatSq R2 hH (by rw [oX 1 (by omega) (by omega)]; exact hx)
  obtain ⟨S2, s3, s4⟩ := x_catSq R2 hC (by rw [oX 1 (by omega) (by omega)]; exact cx)
  rw [s1, Option.bind_some, s3, Option.bind_some]
  have w1 : (wOf X M h r).1 = M 1 := rfl
  have ew : X2 2 0 = M 1 0 := by rw [oX 2 (by omega) (by omega)]; exact R.setsE (k := 0) (by omega)
  have eM : N2 1 0 = M 1 0 := by rw [f5.1 1 (by omega)]
  rw [ew, Option.bind_some]
  dsimp only
  rw [eM]
  generalize wOf X M h r = w at *
  refine EqC.of (lp20 (body := fX9_fence_L58 (nI p) c (M 1 0 ||| S1 ||| S2)) (body' := fX10_fence_L46 (nI h) (nI p) c (M 1 0)) 32 (fun i s s' => ∃ (v : Int32) (f : Option Nat) (Y N : hMem), s = (ansI f, v, nI i, Y) ∧ s' = (v, ansI f, nI i, N) ∧ okO f ∧ kO X Y ∧ MX w r (h_up Y 40 0 (w.1 0)) ∧ Y 40 5 = nI (stN (q, l)) ∧ kQ M N) EqQ _ _ ⟨-1, o, X2, N2, rfl, rfl, f3, oX, by rw [h_upid _ _ _ _ mx2.1]; exact mx2, x25, f5⟩ (by omega) ?_ ?_)
  · rintro k k' s s' ⟨v, f, Y, N, rfl, rfl, of, oY, mY, h5, kN⟩
    unfold fX9_fence_L58 fX10_fence_L46
    dsimp only
    rw [if_pos (show (32 : Int32) ≤ nI 32 from by decide), if_pos (show (32 : Int32) ≤ nI 32 from by decide)]
    have R' := R.keep oY.X kN.keep
    by_cases ec : c = 0
    · rw [if_pos ec, if_pos ec]; exact ⟨_, _, rfl, rfl, rfl, R'⟩
    · rw [if_neg ec, if_neg ec]; exact ⟨_, _, rfl, rfl, rfl, R'⟩
  · rintro k k' i s s' hi ⟨v, f, Y, N, rfl, rfl, of, oY, mY, h5, kN⟩ hk
    unfold fX9_fence_L58 fX10_fence_L46 fX10_fence_L122
    dsimp only
    rw [if_neg (show ¬ (32 : Int32) ≤ nI i from nI_ge (b := 32) hi (by decide)), if_neg (show ¬ (32 : Int32) ≤ nI i from nI_ge (b := 32) hi (by decide)), bit_u _ hi, b01, me_has0 hi, Option.bind_some, b01, b_or, b_or]
    have RN := R.keep (keepX.rf X) kN.keep
    have n10 : N 1 0 = M 1 0 := by rw [kN.1 1 (by omega)]
    have n03 : N 0 3 = nI H := by rw [kN.2 3 (by omega) (by omega)]; exact hm
    have n08 : N 0 8 = nI C := by rw [kN.2 8 (by omega) (by omega)]; exact cm
    obtain ⟨ra, ra1, ra2⟩ := m_anyIn RN hH hC n03 n08 hi
    have hi1 : hatIn H N2 i ↔ hatIn H N i := by unfold hatIn; rw [kN.1 6 (by omega), f5.1 6 (by omega)]
    have hi2 : catIn C N2 i ↔ catIn C N i := by unfold catIn; rw [kN.1 8 (by omega), f5.1 8 (by omega)]
    have t1 := s2 i hi
    have t2 := s4 i hi
    rw [hi1] at t1
    rw [hi2] at t2
    rw [n10, ra1, Option.bind_some]
    by_cases hw : bt (M 1 0) i = true
    · rw [if_pos hw, if_pos (by rw [hw]; rfl), nI_1]
      exact hk _ _ ⟨v, f, Y, N, rfl, rfl, of, oY, mY, h5, kN⟩
    rw [if_neg hw]
    rcases ra2 with ⟨rfl, r3⟩ | ⟨rfl, r3⟩
    · rw [if_pos (by rw [Bool.or_eq_true, Bool.or_eq_true, t1, t2]; exact r3.elim (fun h => Or.inl (Or.inr h)) Or.inr), if_neg (show ¬ (1 : Int32) = 0 from by decide), nI_1]
      exact hk _ _ ⟨v, f, Y, N, rfl, rfl, of, oY, mY, h5, kN⟩
    rw [if_neg (by rw [Bool.or_eq_true, Bool.or_eq_true, t1, t2]; exact fun h => h.elim (fun h => h.elim hw (fun h => r3 (Or.inl h))) (fun h => r3 (Or.inr h))), if_pos rfl, if_pos (show h_ib (nI p) 4 from ib_mk hp4 (by omega)), nI_clamp p2, show Y 2 0 = M 1 0 from by rw [oY 2 (by omega) (by omega)]; exact R.setsE (k := 0) (by omega)]
    generalize M 1 0 ||| 1 <<< (nI i &&& 31) = W
    have mx := mY.wall W
    rw [h_up2] at mx
    have mN := (mm.kQ kN).wall W
    obtain ⟨o', X3, N3, g1, g2, g3, g4, g5, g6⟩ := had_w (wB_ok ok W) mx (by rw [m_own, u_n (by omega)]; exact h5) q1 l1 mN (by rw [m_row (by omega), kN.2 39 (by omega) (by omega)]; exact R.hold) (by rw [m_row (by omega), kN.1 6 (by omega)]; exact q2) (by rw [m_row (by omega), kN.1 7 (by omega)]; exact l2) hp4 c1 pp1 e1 (by rw [m_row (by omega), oY _ (by omega) (by omega)]; exact y0) (by rw [m_row (by omega), oY _ (by omega) (by omega)]; exact y1) (by rw [m_row (by omega), oY _ (by omega) (by omega)]; exact y2) (by rw [m_row (by omega), kN.1 8 (by omega)]; exact m0) (by rw [m_row (by omega), kN.1 8 (by omega)]; exact m1) (by rw [m_row (by omega), kN.1 8 (by omega)]; exact m2)
    rw [g1, Option.bind_some, g2, Option.bind_some]
    dsimp only
    have oY' : kO X X3 := oY.tr ((kO.up Y (by omega) (by omega) 0 W).tr g4.O)
    have mY' : MX w r (h_up X3 40 0 (w.1 0)) := by
      have := (mx.kP g4).wall (w.1 0)
      rw [wBB] at this
      exact this
    have h5' : X3 40 5 = nI (stN (q, l)) := by
      rw [g6, m_own, u_n (by omega)]; exact h5
    have kN' : kQ M (h_up N3 1 0 (M 1 0)) := by
      refine kN.tr ⟨fun a ha => ?_, fun j hj1 hj2 => ?_⟩
      · by_cases e : a = 1
        · subst e
          rw [m_own, g5.1 1 (by omega), m_own]
          funext j
          by_cases e : j = 0
          · subst e; rw [u_s, n10]
          · rw [u_n e, u_n e]
        · rw [m_row e, g5.1 a ha, m_row e]
      · rw [m_row (by omega), g5.2 j hj1 hj2, m_row (by omega)]
    generalize h_up N3 1 0 (M 1 0) = N' at *
    rw [x_sooner g3 of, m_sooner g3 of, b01, b01, nI_1]
    by_cases hs : soon o' f = true
    · simp only [if_pos hs, if_neg (show ¬ (1 : Int32) = 0 from by decide)]
      exact hk _ _ ⟨_, o', X3, N', rfl, rfl, g3, oY', mY', h5', kN'⟩
    · simp only [if_neg hs, if_true]
      exact hk _ _ ⟨_, f, X3, N', rfl, rfl, of, oY', mY', h5', kN'⟩
