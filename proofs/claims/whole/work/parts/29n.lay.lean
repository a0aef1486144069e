/-! LAY, KINDS, LAWS -/
def layP (W : Int32) (f : Nat → Int32) (w : hWd) (n c l : Nat) : Prop := bt W c = false ∧ difS f w (c, l) n = none
theorem bset_iff {S v : Int32} {l b : Nat} (hb : b < 32) (hl : l < 32) (h : S = v ||| (1 <<< (nI l &&& 31))) : (bt S b = true) ↔ (bt v b = true ∨ b = l) := by
  rw [h, b_set v hl hb, Bool.or_eq_true, decide_eq_true_eq]
theorem x_lay {w : hWd} {T : Nat} {X : hMem} (hw : okW w) (mx : MX w T X) (hW : X 2 0 = w.1 0) {sh n : Nat} (hs : sh < 4) (hn : n ≤ 25) (e1 : X (80 + 2 * sh) 1 = nI n) : ∃ r, h_lp (fX9_lay_L24 (nI sh)) h_FU (0, 0, X) = some r ∧ (kT X r.2 ∧ ∀ b, b < 32 → (bt r.1 b = true ↔ ∃ c l, c < 32 ∧ l < 3 ∧ b = l ∧ layP (w.1 0) (X (81 + 2 * sh)) w n c l)) := by
  refine lp_u0 (body := fX9_lay_L24 (nI sh)) 3 (fun i z => ∃ (v : Int32) (Y : hMem), z = (v, nI i, Y) ∧ kT X Y ∧ ∀ b, b < 32 → (bt v b = true ↔ ∃ c l, c < 32 ∧ l < i ∧ b = l ∧ layP (w.1 0) (X (81 + 2 * sh)) w n c l)) _ _ ⟨0, X, rfl, kT.rf X, fun b hb => ?_⟩ (by omega) ?_ ?_
  · rw [b_0]
    exact ⟨fun h => (by cases h), fun ⟨c, l, _, h, _⟩ => absurd h (Nat.not_lt_zero _)⟩
  · rintro k z ⟨v, Y, rfl, kY, hv⟩
    unfold fX9_lay_L24
    dsimp only
    rw [if_pos (show (3 : Int32) ≤ nI 3 from by decide)]
    exact ⟨_, rfl, kY, hv⟩
  · rintro k i z hi ⟨v, Y, rfl, kY, hv⟩ hk
    unfold fX9_lay_L24
    dsimp only
    rw [if_neg (show ¬ (3 : Int32) ≤ nI i from nI_ge (b := 3) hi (by decide))]
    refine lp_u0 (body := fX9_lay_L33 k (nI sh) (nI i)) 32 (fun j z => ∃ (v' : Int32) (Y' : hMem), z = (v', nI j, Y') ∧ kT X Y' ∧ ∀ b, b < 32 → (bt v' b = true ↔ (bt v b = true ∨ ∃ c, c < j ∧ b = i ∧ layP (w.1 0) (X (81 + 2 * sh)) w n c i))) _ _ ⟨v, Y, rfl, kY, fun b hb => ⟨Or.inl, fun h => h.elim id (fun ⟨c, h, _⟩ => absurd h (Nat.not_lt_zero _))⟩⟩ (by omega) ?_ ?_
    · rintro k2 z ⟨v', Y', rfl, kY', hv'⟩
      unfold fX9_lay_L33
      dsimp only
      rw [if_pos (show (32 : Int32) ≤ nI 32 from by decide), nI_1]
      refine hk _ ⟨v', Y', rfl, kY', fun b hb => ?_⟩
      rw [hv' b hb, hv b hb]
      constructor
      · rintro (⟨c, l, q1, q2, q3, q4⟩ | ⟨c, q1, q2, q3⟩)
        · exact ⟨c, l, q1, by omega, q3, q4⟩
        · exact ⟨c, i, q1, by omega, q2, q3⟩
      · rintro ⟨c, l, q1, q2, q3, q4⟩
        by_cases e : l = i
        · subst e; exact Or.inr ⟨c, q1, q3, q4⟩
        · exact Or.inl ⟨c, l, q1, by omega, q3, q4⟩
    · rintro k2 j z hj ⟨v', Y', rfl, kY', hv'⟩ hk2
      unfold fX9_lay_L33
      dsimp only
      have hWY : Y' 2 0 = w.1 0 := by rw [kY' 2 (by omega) (by omega)]; exact hW
      rw [if_neg (show ¬ (32 : Int32) ≤ nI j from nI_ge (b := 32) hj (by decide)), xe_op hj, hWY, b10]
      have step : ∀ v'' : Int32, (∀ b, b < 32 → (bt v'' b = true ↔ (bt v' b = true ∨ (b = i ∧ layP (w.1 0) (X (81 + 2 * sh)) w n j i)))) → ∀ b, b < 32 → (bt v'' b = true ↔ (bt v b = true ∨ ∃ c, c < j + 1 ∧ b = i ∧ layP (w.1 0) (X (81 + 2 * sh)) w n c i)) := by
        intro v'' h b hb
        rw [h b hb, hv' b hb]
        constructor
        · rintro ((h | ⟨c, q1, q2, q3⟩) | ⟨q1, q2⟩)
          · exact Or.inl h
          · exact Or.inr ⟨c, by omega, q2, q3⟩
          · exact Or.inr ⟨j, by omega, q1, q2⟩
        · rintro (h | ⟨c, q1, q2, q3⟩)
          · exact Or.inl (Or.inl h)
          · by_cases e : c = j
            · subst e; exact Or.inr ⟨q2, q3⟩
            · exact Or.inl (Or.inr ⟨c, by omega, q2, q3⟩)
      by_cases hb : bt (w.1 0) j = true
      · rw [if_pos hb, nI_1]
        refine hk2 _ ⟨v', Y', rfl, kY', step v' (fun b hb2 => ⟨Or.inl, fun h => h.elim id (fun q => ?_)⟩)⟩
        have := q.2.1
        rw [hb] at this
        cases this
      · rw [if_neg hb, if_pos (ib_mk hs (by omega)), nI_clamp (by omega), x_stOf]
        obtain ⟨X', g1, g2⟩ := x_else hw (mx.kT kY') hs hn (by rw [kY' _ (by omega) (by omega)]; exact e1) (s := (j, i)) hj hi
        rw [show fX8_elsewhere (80 + 2 * sh) (nI (32 * i + j)) Y' = _ from g1, Option.bind_some, show Y' (81 + 2 * sh) = X (81 + 2 * sh) from kY' _ (by omega) (by omega)]
        dsimp only
        rw [ans_ge (difS_ok hn), nI_1]
        by_cases co : difS (X (81 + 2 * sh)) w (j, i) n = none
        · rw [if_pos co]
          refine hk2 _ ⟨_, X', rfl, kY'.tr g2, step _ (fun b hb2 => ?_)⟩
          rw [bset_iff hb2 (by omega) rfl]
          exact ⟨fun h => h.elim Or.inl (fun q => Or.inr ⟨q, eq_false_of_ne_true hb, co⟩), fun h => h.elim Or.inl (fun q => Or.inr q.1)⟩
        · rw [if_neg co]
          exact hk2 _ ⟨_, X', rfl, kY'.tr g2, step _ (fun b hb2 => ⟨Or.inl, fun h => h.elim id (fun q => absurd q.2.2 co)⟩)⟩
theorem m_lay {w : hWd} {h : Nat} {c e : Nat → Int32} {M : hMem} (hw : okW w) (mm : MM w h c e M) (h0 : M 0 39 = 0) {sh n : Nat} (hs : sh < 4) (hn : n ≤ 25) (e1 : M 14 sh = nI n) : ∃ r, h_lp (fX10_lay_L19 (nI sh) (nI h)) h_FU (0, 0, M) = some r ∧ (kS M r.2 ∧ ∀ b, b < 32 → (bt r.1 b = true ↔ ∃ c l, c < 32 ∧ l < 3 ∧ b = l ∧ layP (w.1 0) (fun j => M 15 (40 * sh + j)) w n c l)) := by
  have hW : M 1 0 = w.1 0 := mm.2.1 0 (by omega)
  refine lp_u0 (body := fX10_lay_L19 (nI sh) (nI h)) 96 (fun i z => ∃ (v : Int32) (Y : hMem), z = (v, nI i, Y) ∧ kS M Y ∧ ∀ b, b < 32 → (bt v b = true ↔ ∃ j, j < i ∧ b = j % 3 ∧ layP (w.1 0) (fun j => M 15 (40 * sh + j)) w n (j / 3) (j % 3))) _ _ ⟨0, M, rfl, kS.rf M, fun b hb => ?_⟩ (by omega) ?_ ?_
  · rw [b_0]
    exact ⟨fun h => (by cases h), fun ⟨j, h, _⟩ => absurd h (Nat.not_lt_zero _)⟩
  · rintro k z ⟨v, Y, rfl, kY, hv⟩
    unfold fX10_lay_L19
    dsimp only
    rw [if_pos (show (96 : Int32) ≤ nI 96 from by decide)]
    refine ⟨_, rfl, kY, fun b hb => ?_⟩
    rw [hv b hb]
    constructor
    · rintro ⟨j, q1, q2, q3⟩
      exact ⟨j / 3, j % 3, by omega, by omega, q2, q3⟩
    · rintro ⟨c, l, q1, q2, q3, q4⟩
      refine ⟨3 * c + l, by omega, by omega, ?_⟩
      rw [show (3 * c + l) / 3 = c from by omega, show (3 * c + l) % 3 = l from by omega]
      exact q4
  · rintro k i z hi ⟨v, Y, rfl, kY, hv⟩ hk
    have ed : nI i / 3 = nI (i / 3) := pk_div (d := 3) (by omega) (by decide) (by decide)
    have er : h_rem (nI i) 3 = nI (i % 3) := n_rem (d := 3) (by omega) (by decide) (by decide)
    unfold fX10_lay_L19
    dsimp only
    rw [if_neg (show ¬ (96 : Int32) ≤ nI i from nI_ge (b := 96) hi (by decide)), ed, er]
    have kb := kS_b Y (nI (i / 3)) (nI (i % 3))
    have kZ := kY.tr kb
    have z6 : h_up (h_up Y 0 36 (nI (i / 3))) 0 37 (nI (i % 3)) 0 36 = nI (i / 3) := by rw [m_own, u_n (by omega), m_own, u_s]
    have z7 : h_up (h_up Y 0 36 (nI (i / 3))) 0 37 (nI (i % 3)) 0 37 = nI (i % 3) := by rw [m_own, u_s]
    generalize h_up (h_up Y 0 36 (nI (i / 3))) 0 37 (nI (i % 3)) = Z at *
    have hc : i / 3 < 32 := by omega
    have hl : i % 3 < 3 := by omega
    rw [me_has0 hc, Option.bind_some, b01, kZ.1 1 (by omega) (by omega) (by omega), hW]
    have step : ∀ v'' : Int32, (∀ b, b < 32 → (bt v'' b = true ↔ (bt v b = true ∨ (b = i % 3 ∧ layP (w.1 0) (fun j => M 15 (40 * sh + j)) w n (i / 3) (i % 3))))) → ∀ b, b < 32 → (bt v'' b = true ↔ ∃ j, j < i + 1 ∧ b = j % 3 ∧ layP (w.1 0) (fun j => M 15 (40 * sh + j)) w n (j / 3) (j % 3)) := by
      intro v'' h b hb
      rw [h b hb, hv b hb]
      constructor
      · rintro (⟨j, q1, q2, q3⟩ | ⟨q1, q2⟩)
        · exact ⟨j, by omega, q2, q3⟩
        · exact ⟨i, by omega, q1, q2⟩
      · rintro ⟨j, q1, q2, q3⟩
        by_cases e : j = i
        · subst e; exact Or.inr ⟨q2, q3⟩
        · exact Or.inl ⟨j, by omega, q2, q3⟩
    by_cases hb : bt (w.1 0) (i / 3) = true
    · rw [if_pos hb, or_z, nI_1]
      refine hk _ ⟨v, Z, rfl, kZ, step v (fun b hb2 => ⟨Or.inl, fun h => h.elim id (fun q => ?_)⟩)⟩
      have := q.2.1
      rw [hb] at this
      cases this
    · rw [if_neg hb]
      obtain ⟨M', g1, g2⟩ := m_unlike hw (mm.kS kZ) (by rw [kZ.2 39 (by omega) (by omega)]; exact h0) hs hn (by rw [kZ.1 14 (by omega) (by omega) (by omega)]; exact e1) (s := (i / 3, i % 3)) hc hl z6 z7
      rw [g1, Option.bind_some, show Z 15 = M 15 from kZ.1 15 (by omega) (by omega) (by omega)]
      dsimp only
      rw [ans_m1 (difS_ok hn), nI_1, or_z]
      by_cases co : difS (fun j => M 15 (40 * sh + j)) w (i / 3, i % 3) n = none
      · rw [if_pos co]
        refine hk _ ⟨_, M', rfl, kZ.tr g2, step _ (fun b hb2 => ?_)⟩
        rw [bset_iff hb2 (by omega) rfl]
        exact ⟨fun h => h.elim Or.inl (fun q => Or.inr ⟨q, eq_false_of_ne_true hb, co⟩), fun h => h.elim Or.inl (fun q => Or.inr q.1)⟩
      · rw [if_neg co]
        exact hk _ ⟨_, M', rfl, kZ.tr g2, step _ (fun b hb2 => ⟨Or.inl, fun h => h.elim id (fun q => absurd q.2.2 co)⟩)⟩
theorem eq_lay {X M : hMem} (R : RR X M) (a b : Int32) : EqC (fX9_lay a b X) (fX10_lay a b M) := by
  obtain ⟨H, hH, hx, hm⟩ := R.hats
  obtain ⟨v, v1, v2, v3⟩ := way_eq R hH hx hm a b
  unfold fX9_lay fX10_lay
  rw [v1, v2, Option.bind_some, Option.bind_some]
  by_cases c : v = 0
  rotate_left
  · rw [if_neg c, if_neg c]; exact EqC.now R
  obtain ⟨s, n, h, hs, rfl, hn, e1, e2, e4, hh, rfl⟩ := v3 c
  obtain ⟨r, q, l, X1, r1, q1, l1, ok, mm, q2, l2, x1, x2, x3, x4, -, -⟩ := R.ctx hH hh
  obtain ⟨z, z1, z2, z3⟩ := x_lay ok x2 (by rw [x4 2 (by omega)]; exact R.setsE (k := 0) (by omega)) hs hn (by rw [x4 _ (by omega)]; exact e1)
  obtain ⟨y, y1, y2, y3⟩ := m_lay ok mm R.hold hs hn e2
  rw [if_pos c, if_pos c, x1, Option.bind_some]
  refine EqC.of ⟨z, y, z1, y1, b_ext fun b hb => ?_, R.keep (kP.X x4 z2.P) y2.keep⟩
  rw [Bool.eq_iff_iff, z3 b hb, y3 b hb]
  unfold layP
  simp only [difS_c (n := n) (f := X1 (81 + 2 * s)) (g := fun j => M 15 (40 * s + j)) (fun j hj => by rw [x4 _ (by omega)]; exact e4 j (by omega))]
