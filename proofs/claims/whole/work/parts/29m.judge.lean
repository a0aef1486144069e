/-! SHEETS THAT ARE JUDGED: judge, whose, lay -/
def difP (f : Nat → Int32) (w : hWd) (s : Nat × Nat) (j : Nat) : Bool := !decide (f j = nI (runS noH w 0 j s).1)
def difS (f : Nat → Int32) (w : hWd) (s : Nat × Nat) (n : Nat) : Option Nat := frst (difP f w s) n 0
theorem difS_ok {f : Nat → Int32} {w : hWd} {s : Nat × Nat} {n : Nat} (hn : n ≤ 25) : okO (difS f w s n) := fun k hk => by
  have := frst_lt hk; omega
theorem difS_c {f g : Nat → Int32} {w : hWd} {s : Nat × Nat} {n : Nat} (h : ∀ j, j < n → f j = g j) : difS f w s n = difS g w s n := frst_c (fun j _ h2 => by unfold difP; rw [h j (by omega)])
theorem ans_ge {o : Option Nat} (h : okO o) {α : Type} (A B : α) : (if 0 ≤ ansI o then A else B) = if o = none then B else A := by
  cases o with
  | none =>
    show (if (0 : Int32) ≤ -1 then A else B) = _
    rw [if_neg (show ¬ (0 : Int32) ≤ -1 from by decide), if_pos rfl]
  | some n =>
    show (if (0 : Int32) ≤ nI n then A else B) = _
    rw [if_pos (show (0 : Int32) ≤ nI n from nI_pos' (by have := h n rfl; omega)), if_neg (fun q => (by cases q))]
theorem ans_m1 {o : Option Nat} (h : okO o) {α : Type} (A B : α) : (if ansI o = -1 then A else B) = if o = none then A else B := by
  cases o with
  | none =>
    show (if (-1 : Int32) = -1 then A else B) = _
    rw [if_pos (show (-1 : Int32) = -1 from rfl), if_pos rfl]
  | some n =>
    show (if nI n = -1 then A else B) = _
    rw [if_neg (show ¬ nI n = -1 from n_m1 (by have := h n rfl; omega)), if_neg (fun q => (by cases q))]
theorem x_else {w : hWd} {T : Nat} {X : hMem} (hw : okW w) (mx : MX w T X) {sh n : Nat} (hs : sh < 4) (hn : n ≤ 25) (e1 : X (80 + 2 * sh) 1 = nI n) {s : Nat × Nat} (h1 : s.1 < 32) (h2 : s.2 < 3) : ∃ X', fX8_elsewhere (80 + 2 * sh) (nI (stN s)) X = some (ansI (difS (X (81 + 2 * sh)) w s n), X') ∧ kT X X' := by
  unfold fX8_elsewhere
  rw [if_pos (sh_isB hs)]
  refine Exists.elim (lp_u0 (body := fX8_elsewhere_L5 (80 + 2 * sh)) n (fun i z => ∃ (v : Int32) (Y : hMem), z = (v, nI i, Y) ∧ kT X Y ∧ (i ≤ 24 → v = nI (stN (runS noH w 0 i s))) ∧ frst (difP (X (81 + 2 * sh)) w s) (n - i) i = difS (X (81 + 2 * sh)) w s n) (fun r => r.1 = ansI (difS (X (81 + 2 * sh)) w s n) ∧ kT X r.2) (nI (stN s), 0, X) ⟨_, X, rfl, kT.rf X, fun _ => rfl, rfl⟩ (by omega) ?_ ?_) ?_
  · rintro k z ⟨v, Y, rfl, kY, hv, hf⟩
    unfold fX8_elsewhere_L5
    dsimp only
    simp only [show Y (80 + 2 * sh) 1 = nI n from by rw [kY (80 + 2 * sh) (by omega) (by omega), e1]]
    rw [if_pos (nI_le (Nat.le_refl _) (by omega))]
    rw [Nat.sub_self] at hf
    exact ⟨_, rfl, by rw [← hf]; rfl, kY⟩
  · rintro k i z hi ⟨v, Y, rfl, kY, hv, hf⟩ hk
    have ev := hv (by omega)
    subst ev
    have hL := runS_lt (hl := noH) (w := w) (a := 0) (s := s) h1 h2 i
    unfold fX8_elsewhere_L5
    dsimp only
    simp only [show Y (80 + 2 * sh) 1 = nI n from by rw [kY (80 + 2 * sh) (by omega) (by omega), e1], show 80 + 2 * sh + 1 = 81 + 2 * sh from by omega, show Y (81 + 2 * sh) = X (81 + 2 * sh) from kY _ (by omega) (by omega), nI_clamp (show i < 2 ^ 31 by omega), x_sqS hL.1 hL.2]
    rw [if_neg (nI_ge hi (by omega)), if_pos (ib_mk (by omega) (by omega))]
    rw [show n - i = (n - (i + 1)) + 1 from by omega, frst_s] at hf
    by_cases c : X (81 + 2 * sh) i = nI (runS noH w 0 i s).1
    · rw [if_pos c]
      rw [if_neg (by unfold difP; rw [decide_eq_true c]; decide)] at hf
      by_cases h24 : i < 24
      · obtain ⟨X', g1, g2⟩ := x_next hw (mx.kT kY) (t := i) (q := (runS noH w 0 i s).1) (l := (runS noH w 0 i s).2) h24 hL.1 hL.2
        rw [show fX8_next (nI i) (nI (stN (runS noH w 0 i s))) Y = _ from g1, Option.bind_some, nI_1]
        refine hk _ ⟨_, X', rfl, kY.tr g2, fun _ => ?_, hf⟩
        rw [runS_s]
        rw [if_neg (show ¬ noH (0 + i) = true from Bool.false_ne_true), Nat.zero_add]
      · have : i = 24 := by omega
        subst this
        unfold fX8_next
        rw [xe_sec, b01, if_neg (show ¬ h_ib (nI 24) 24 from fun h => absurd ((ib_iff (by omega)).mp h) (by omega)), Option.bind_some, nI_1]
        exact hk _ ⟨_, Y, rfl, kY, fun h => absurd h (by omega), hf⟩
    · rw [if_neg c]
      rw [if_pos (by unfold difP; rw [decide_eq_false c]; rfl)] at hf
      exact ⟨_, rfl, by rw [← hf]; rfl, kY⟩
  · rintro r ⟨r1, r2, r3⟩
    exact ⟨r.2, by rw [r1, ← r2], r3⟩
theorem m_unlike {w : hWd} {h : Nat} {c e : Nat → Int32} {M : hMem} (hw : okW w) (mm : MM w h c e M) (h0 : M 0 39 = 0) {sh n : Nat} (hs : sh < 4) (hn : n ≤ 25) (e1 : M 14 sh = nI n) {s : Nat × Nat} (h1 : s.1 < 32) (h2 : s.2 < 3) (h36 : M 0 36 = nI s.1) (h37 : M 0 37 = nI s.2) : ∃ M', fX10_unlike (nI sh) (nI h) M = some (ansI (difS (fun j => M 15 (40 * sh + j)) w s n), M') ∧ kS M M' := by
  unfold fX10_unlike
  refine Exists.elim (lp_u0 (body := fX10_unlike_L2 (nI sh) (nI h)) n (fun i z => ∃ (Y : hMem), z = (nI i, Y) ∧ kS M Y ∧ (i ≤ 24 → Y 0 36 = nI (runS noH w 0 i s).1 ∧ Y 0 37 = nI (runS noH w 0 i s).2) ∧ frst (difP (fun j => M 15 (40 * sh + j)) w s) (n - i) i = difS (fun j => M 15 (40 * sh + j)) w s n) (fun r => r.1 = ansI (difS (fun j => M 15 (40 * sh + j)) w s n) ∧ kS M r.2) (0, M) ⟨M, rfl, kS.rf M, fun _ => ⟨h36, h37⟩, rfl⟩ (by omega) ?_ ?_) ?_
  · rintro k z ⟨Y, rfl, kY, hv, hf⟩
    unfold fX10_unlike_L2
    dsimp only
    simp only [if_pos (show h_ib (nI sh) 4 from ib_mk hs (by omega)), nI_clamp (show sh < 2 ^ 31 by omega), show Y 14 sh = nI n from by rw [kY.1 14 (by omega) (by omega) (by omega), e1]]
    rw [if_pos (nI_le (Nat.le_refl _) (by omega))]
    rw [Nat.sub_self] at hf
    exact ⟨_, rfl, by rw [← hf]; rfl, kY⟩
  · rintro k i z hi ⟨Y, rfl, kY, hv, hf⟩ hk
    obtain ⟨v1, v2⟩ := hv (by omega)
    have hL := runS_lt (hl := noH) (w := w) (a := 0) (s := s) h1 h2 i
    unfold fX10_unlike_L2
    dsimp only
    simp only [if_pos (show h_ib (nI sh) 4 from ib_mk hs (by omega)), nI_clamp (show sh < 2 ^ 31 by omega), show Y 14 sh = nI n from by rw [kY.1 14 (by omega) (by omega) (by omega), e1], show (40 : Int32) * nI sh = nI (40 * sh) from pk_mul 40 sh, nI_add, nI_clamp (show 40 * sh + i < 2 ^ 31 by omega), show Y 15 = M 15 from kY.1 15 (by omega) (by omega) (by omega), v1]
    rw [if_neg (nI_ge hi (by omega)), if_pos (ib_mk (by omega) (by omega))]
    rw [show n - i = (n - (i + 1)) + 1 from by omega, frst_s] at hf
    by_cases c : M 15 (40 * sh + i) = nI (runS noH w 0 i s).1
    · rw [if_pos c]
      rw [if_neg (by unfold difP; rw [decide_eq_true c]; decide)] at hf
      by_cases h24 : i < 24
      · rw [if_neg (show ¬ (24 : Int32) ≤ nI i from nI_ge (b := 24) h24 (by decide))]
        obtain ⟨M', g1, g2, g3, g4⟩ := m_seconds hw (mm.kS kY) (t := i) (q := (runS noH w 0 i s).1) (l := (runS noH w 0 i s).2) h24 hL.1 hL.2 v1 v2
        have hld : hldM Y i = false := hldM_0 (by rw [kY.2 39 (by omega) (by omega)]; exact h0) i
        rw [hld] at g3 g4
        rw [g1, Option.bind_some, nI_1]
        refine hk _ ⟨M', rfl, kY.tr g2, fun _ => ?_, hf⟩
        rw [runS_s, if_neg (show ¬ noH (0 + i) = true from Bool.false_ne_true), Nat.zero_add]
        exact ⟨g3, g4⟩
      · have : i = 24 := by omega
        subst this
        rw [if_pos (show (24 : Int32) ≤ nI 24 from by decide), nI_1]
        exact hk _ ⟨Y, rfl, kY, fun h => absurd h (by omega), hf⟩
    · rw [if_neg c]
      rw [if_pos (by unfold difP; rw [decide_eq_false c]; rfl)] at hf
      exact ⟨_, rfl, by rw [← hf]; rfl, kY⟩
  · rintro r ⟨r1, r2, r3⟩
    exact ⟨r.2, by rw [r1, ← r2], r3⟩
theorem m_unlikeNow {w : hWd} {h : Nat} {c e : Nat → Int32} {M : hMem} (hw : okW w) (mm : MM w h c e M) (h0 : M 0 39 = 0) {sh n : Nat} (hs : sh < 4) (hn : n ≤ 25) (e1 : M 14 sh = nI n) {q l : Nat} (h1 : q < 32) (h2 : l < 3) (h6 : M 6 h = nI q) (h7 : M 7 h = nI l) : ∃ M', fX10_unlikeNow (nI sh) (nI h) M = some (ansI (difS (fun j => M 15 (40 * sh + j)) w (q, l) n), M') ∧ kS M M' := by
  unfold fX10_unlikeNow
  have kb := kS_b M (nI q) (nI l)
  rw [m_begins mm.1, Option.bind_some, h6, h7]
  obtain ⟨M', g1, g2⟩ := m_unlike hw (mm.kS kb) (by rw [kb.2 39 (by omega) (by omega)]; exact h0) hs hn (by rw [kb.1 14 (by omega) (by omega) (by omega)]; exact e1) (s := (q, l)) h1 h2 (by rw [m_own, u_n (by omega), m_own, u_s]) (by rw [m_own, u_s])
  rw [g1, Option.bind_some, kb.1 15 (by omega) (by omega) (by omega)]
  exact ⟨M', rfl, kb.tr g2⟩
theorem told_eq {X M : hMem} (R : RR X M) (a : Int32) : ∃ v, fX9_refusalOfTold a X = some v ∧ fX10_sheetWrong a M = some v ∧ (v = 0 → ∃ s n, s < 4 ∧ a = nI s ∧ n ≤ 25 ∧ X (80 + 2 * s) 1 = nI n ∧ M 14 s = nI n ∧ ∀ i, i < 40 → X (81 + 2 * s) i = M 15 (40 * s + i)) := by
  unfold fX9_refusalOfTold fX10_sheetWrong
  rw [xe_sheet, me_in3, b01, b01]
  by_cases ha : h_ib a 4
  rotate_left
  · rw [if_neg ha, if_neg ha]; exact ⟨-2, rfl, rfl, fun h => absurd h (by decide)⟩
  simp only [if_pos ha]
  obtain ⟨s, hs, hs2, rfl⟩ := ib_ex ha
  obtain ⟨n, hn, e0, e1, e2, e3, e4⟩ := R.shE hs
  rw [nI_clamp hs2, e0, e1, e2]
  by_cases c1 : M 13 s = -1
  · rw [if_pos c1]; exact ⟨-11, rfl, rfl, fun h => absurd h (by decide)⟩
  rw [if_neg c1]
  by_cases c2 : nI n ≤ (25 : Int32)
  · rw [if_pos c2]
    have hn2 : n ≤ 25 := (nI_leI (a := n) (b := 25) (by omega) (by omega)).mp c2
    exact ⟨0, rfl, rfl, fun _ => ⟨s, n, hs, rfl, hn2, e1, e2, e4⟩⟩
  · rw [if_neg c2]; exact ⟨-2, rfl, rfl, fun h => absurd h (by decide)⟩
theorem way_eq {X M : hMem} (R : RR X M) {H : Nat} (hH : H ≤ 4) (hx : X 1 5 = nI H) (hm : M 0 3 = nI H) (a b : Int32) : ∃ v, fX9_refusalOfWay a b X = some v ∧ fX10_toldWrong a b M = some v ∧ (v = 0 → ∃ s n h, s < 4 ∧ a = nI s ∧ n ≤ 25 ∧ X (80 + 2 * s) 1 = nI n ∧ M 14 s = nI n ∧ (∀ i, i < 40 → X (81 + 2 * s) i = M 15 (40 * s + i)) ∧ h < H ∧ b = nI h) := by
  obtain ⟨v, v1, v2, v3⟩ := told_eq R a
  unfold fX9_refusalOfWay fX10_toldWrong
  rw [v1, v2, Option.bind_some, Option.bind_some, xe_hat hx (by omega), me_hat hm (by omega), b01, b01]
  by_cases c : v = 0
  · obtain ⟨s, n, q1, q2, q3, q4, q5, q6⟩ := v3 c
    rw [if_pos c, if_pos c]
    by_cases hb : h_ib b H
    · rw [if_pos hb, if_pos hb, c]
      obtain ⟨h, h1, h2, h3⟩ := ib_ex hb
      exact ⟨0, rfl, rfl, fun _ => ⟨s, n, h, q1, q2, q3, q4, q5, q6, h1, h3⟩⟩
    · rw [if_neg hb, if_neg hb]; exact ⟨-5, rfl, rfl, fun h => absurd h (by decide)⟩
  · rw [if_neg c, if_neg c]; exact ⟨v, rfl, rfl, fun h => absurd h c⟩
/-- one hat judged -/
theorem judge1 {X M : hMem} (R : RR X M) {s n h H : Nat} (hH : H ≤ 4) (hs : s < 4) (hn : n ≤ 25) (e1 : X (80 + 2 * s) 1 = nI n) (e2 : M 14 s = nI n) (e4 : ∀ i, i < 40 → X (81 + 2 * s) i = M 15 (40 * s + i)) (hh : h < H) : ∃ (o : Option Nat) (X1 X' M' : hMem), fX9_think (nI h) X = some X1 ∧ fX8_elsewhere (80 + 2 * s) (X1 40 5) X1 = some (ansI o, X') ∧ fX10_unlikeNow (nI s) (nI h) M = some (ansI o, M') ∧ okO o ∧ keepX X X' ∧ keepM M M' := by
  obtain ⟨r, q, l, X1, r1, q1, l1, ok, mm, q2, l2, x1, x2, x3, x4, -, -⟩ := R.ctx hH hh
  obtain ⟨X2, f1, f2⟩ := x_else ok x2 hs hn (by rw [x4 _ (by omega)]; exact e1) (s := (q, l)) q1 l1
  obtain ⟨M2, g1, g2⟩ := m_unlikeNow ok mm R.hold hs hn e2 q1 l1 q2 l2
  refine ⟨_, X1, X2, M2, x1, by rw [x3]; exact f1, ?_, difS_ok hn, kP.X x4 f2.P, g2.keep⟩
  rw [g1, x4 (81 + 2 * s) (by omega)]
  rw [difS_c (fun j hj => (e4 j (by omega)).symm)]
theorem eq_judge {X M : hMem} (R : RR X M) (a b : Int32) : EqC (fX9_judge a b X) (fX10_judge a b M) := by
  obtain ⟨H, hH, hx, hm⟩ := R.hats
  obtain ⟨v, v1, v2, v3⟩ := way_eq R hH hx hm a b
  unfold fX9_judge fX10_judge
  rw [v1, v2, Option.bind_some, Option.bind_some]
  by_cases c : v = 0
  rotate_left
  · rw [if_neg c, if_neg c]; exact EqC.now R
  obtain ⟨s, n, h, hs, rfl, hn, e1, e2, e4, hh, rfl⟩ := v3 c
  obtain ⟨o, X1, X2, M2, x1, x2, x3, x4, x5, x6⟩ := judge1 R hH hs hn e1 e2 e4 hh
  rw [if_pos c, if_pos c, x1, Option.bind_some, if_pos (ib_mk hs (by omega)), nI_clamp (by omega), x2, x3, Option.bind_some, Option.bind_some]
  exact EqC.now (R.keep x5 x6)
theorem eq_whose {X M : hMem} (R : RR X M) (a : Int32) : EqC (fX9_whose a X) (fX10_whose a M) := by
  obtain ⟨H, hH, hx, hm⟩ := R.hats
  obtain ⟨v, v1, v2, v3⟩ := told_eq R a
  unfold fX9_whose fX10_whose
  rw [v1, v2, Option.bind_some, Option.bind_some]
  by_cases c : v = 0
  rotate_left
  · rw [if_neg c, if_neg c]; exact EqC.now R
  obtain ⟨s, n, hs, rfl, hn, e1, e2, e4⟩ := v3 c
  rw [if_pos c, if_pos c]
  refine EqC.of (lp20 (body := fX9_whose_L17 (nI s)) (body' := fX10_whose_L17 (nI s)) H (fun i z z' => ∃ (v : Int32) (Y N : hMem), z = (v, nI i, Y) ∧ z' = (v, nI i, N) ∧ keepX X Y ∧ keepM M N) EqQ _ _ ⟨0, X, M, rfl, rfl, keepX.rf X, keepM.rf M⟩ (by omega) ?_ ?_)
  · rintro k k' z z' ⟨v, Y, N, rfl, rfl, kY, kN⟩
    unfold fX9_whose_L17 fX10_whose_L17
    dsimp only
    simp only [show Y 1 5 = nI H from by rw [kY.1 1 (by unfold kX; omega), hx], show N 0 3 = nI H from by rw [kN.2 3 (by unfold kM0; omega), hm]]
    rw [if_pos (nI_le (Nat.le_refl _) (by omega)), if_pos (nI_le (Nat.le_refl _) (by omega))]
    exact ⟨_, _, rfl, rfl, rfl, R.keep kY kN⟩
  · rintro k k' i z z' hi ⟨v, Y, N, rfl, rfl, kY, kN⟩ hk
    unfold fX9_whose_L17 fX10_whose_L17
    dsimp only
    have R' := R.keep kY kN
    obtain ⟨o, X1, X2, M2, x1, x2, x3, x4, x5, x6⟩ := judge1 R' hH hs hn (by rw [kY.1 _ (by unfold kX; omega)]; exact e1) (by rw [kN.1 14 (by unfold kM; omega)]; exact e2) (fun j hj => by rw [kY.1 _ (by unfold kX; omega), kN.1 15 (by unfold kM; omega)]; exact e4 j hj) hi
    simp only [show Y 1 5 = nI H from by rw [kY.1 1 (by unfold kX; omega), hx], show N 0 3 = nI H from by rw [kN.2 3 (by unfold kM0; omega), hm]]
    rw [if_neg (nI_ge hi (by omega)), if_neg (nI_ge hi (by omega)), x1, Option.bind_some, if_pos (ib_mk hs (by omega)), nI_clamp (by omega), x2, x3, Option.bind_some, Option.bind_some]
    dsimp only
    rw [ans_ge x4, ans_m1 x4, nI_1, or_z]
    by_cases co : o = none
    · rw [if_pos co, if_pos co]
      exact hk _ _ ⟨_, X2, M2, rfl, rfl, kY.tr x5, kN.tr x6⟩
    · rw [if_neg co, if_neg co]
      exact hk _ _ ⟨_, X2, M2, rfl, rfl, kY.tr x5, kN.tr x6⟩
