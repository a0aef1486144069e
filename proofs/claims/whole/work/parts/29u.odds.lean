/-! ODDS -/
def EqL (fx fm : Option (Int64 × hMem)) : Prop := ∃ (v : Int64) (X' M' : hMem), fx = some (v, X') ∧ fm = some (v, M') ∧ RR X' M'
theorem EqL.now {v : Int64} {X' M' : hMem} (h : RR X' M') : EqL (some (v, X')) (some (v, M')) := ⟨v, X', M', rfl, rfl, h⟩
theorem l_cnt {c : Nat} (hc : c < 2 ^ 20) : (nI c).toInt64 + 1 = (nI (c + 1)).toInt64 := by
  rw [← (seed1 (j := c) (by omega)).1, nI_1]
theorem eq_odds {X M : hMem} (R : RR X M) (a b c d : Int32) : EqL (fX9_odds a b c d X) (fX10_odds a b c d M) := by
  obtain ⟨H, hH, hx, hm⟩ := R.hats
  obtain ⟨C, hC, cx, cm⟩ := R.cats
  unfold fX9_odds fX10_odds fX10_odds_L54
  rw [show ∀ t, fX10_odds_L55 a b c d t M = if t = 0 then some (-4611686018427387904, M) else h_lp (fX10_odds_L72 a b c d) h_FU (0, 0, M) from fun t => rfl, show ∀ t, fX10_odds_L55 a b c d t M = if t = 0 then some (-4611686018427387904, M) else h_lp (fX10_odds_L72 a b c d) h_FU (0, 0, M) from fun t => rfl, if_pos rfl, if_neg (show ¬ (1 : Int32) = 0 from by decide)]
  generalize (-4611686018427387904 : Int64) = bad
  rw [xe_seed, xe_01, xe_hat hx (by omega), xe_cat cx (by omega), there_m hm cm (by omega) (by omega), me_in1, show fX10_in a 0 99999 M = if h_ib a 100000 then 1 else 0 from me_in a 99999 M (by decide), show fX10_in b 1 30 M = if b < 1 then 0 else if 30 < b then 0 else 1 from rfl]
  simp only [b01]
  by_cases ha : h_ib a 100000
  rotate_left
  · simp only [if_neg ha]; exact EqL.now R
  simp only [if_pos ha]
  by_cases b1 : b < 1
  · simp only [if_pos b1, if_true]; exact EqL.now R
  simp only [if_neg b1]
  by_cases b2 : 30 < b
  · simp only [if_pos b2, if_true]; exact EqL.now R
  simp only [if_neg b2, if_neg (show ¬ (1 : Int32) = 0 from by decide)]
  by_cases c0 : c < 0
  · simp only [if_pos c0]
    by_cases hd : h_ib d 2
    · simp only [if_pos hd]; exact EqL.now R
    · simp only [if_neg hd]; exact EqL.now R
  simp only [if_neg c0]
  by_cases hc1 : h_ib (c / 10) H
  rotate_left
  · simp only [if_neg hc1, if_true]
    by_cases hd : h_ib d 2
    · simp only [if_pos hd]; exact EqL.now R
    · simp only [if_neg hd]; exact EqL.now R
  simp only [if_pos hc1]
  by_cases hc2 : h_ib (h_rem c 10) C
  rotate_left
  · simp only [if_neg hc2, if_true]
    by_cases hd : h_ib d 2
    · simp only [if_pos hd]; exact EqL.now R
    · simp only [if_neg hd]; exact EqL.now R
  simp only [if_pos hc2, if_neg (show ¬ (1 : Int32) = 0 from by decide)]
  by_cases hd : h_ib d 2
  rotate_left
  · simp only [if_neg hd]; exact EqL.now R
  simp only [if_pos hd]
  obtain ⟨j, hj, hj2, rfl⟩ := ib_ex ha
  obtain ⟨h, hh, hh2, eh⟩ := ib_ex hc1
  obtain ⟨p, hp, hp2, ep⟩ := ib_ex hc2
  obtain ⟨u, hu, hu2, rfl⟩ := ib_ex hd
  obtain ⟨n, hn, rfl⟩ : ∃ n, n < 30 ∧ b = nI (n + 1) := by
    have a1 : ¬ b.toInt < 1 := fun h => b1 (by rw [Int32.lt_iff_toInt_lt]; exact h)
    have a2 : ¬ 30 < b.toInt := fun h => b2 (by rw [Int32.lt_iff_toInt_lt]; exact h)
    refine ⟨b.toInt.toNat - 1, by omega, ?_⟩
    apply Int32.toInt_inj.mp
    rw [nI_toInt (by omega)]; omega
  obtain ⟨r, q, l, X1, r1, q1, l1, ok, mm, q2, l2, x1, x2, x3, x4, -, -⟩ := R.ctx hH hh
  obtain ⟨c0', pa, re, c1, pp1, e1, m0, m1, m2, y0, y1, y2⟩ := R.cctx (p := p) (by omega)
  have hp4 : p < 4 := by omega
  rw [eh, x1, Option.bind_some]
  generalize wOf X M h r = w at *
  have fin : ∃ (r : Int64 × hMem) (r' : Int64 × hMem), h_lp (fX9_odds_L74 (nI j) (nI (n + 1)) c (nI u)) h_FU (0, 0, X1) = some r ∧ h_lp (fX10_odds_L72 (nI j) (nI (n + 1)) c (nI u)) h_FU (0, 0, M) = some r' ∧ r.1 = r'.1 ∧ RR r.2 r'.2 := by
    refine lp20 (n + 1) (fun i z z' => ∃ (k : Nat) (Y N : hMem) (f g : Nat → Int32), z = (nI k, nI i, Y) ∧ z' = ((nI k).toInt64, nI i, N) ∧ k ≤ i ∧ kO X Y ∧ Y 40 5 = nI (stN (q, l)) ∧ MX (wD w f g) r Y ∧ kB M N) (fun (r r' : Int64 × hMem) => r.1 = r'.1 ∧ RR r.2 r'.2) _ _ ⟨0, X1, M, w.2.1, w.2.2.1, rfl, rfl, Nat.le_refl _, fun a h1 _ => x4 a h1, x3, x2, kB.rf M⟩ (by omega) ?_ ?_
    · rintro k k' z z' ⟨v, Y, N, f, g, rfl, rfl, hv, oY, h5, mY, kN⟩
      unfold fX9_odds_L74 fX10_odds_L72
      dsimp only
      rw [if_pos (nI_le (Nat.le_refl _) (by omega)), if_pos (nI_le (Nat.le_refl _) (by omega))]
      obtain ⟨o, o1, o2⟩ := lo_eq (c := v) (n := n) (b := u) (by omega) (by omega) hu
      have hx' : ((fX9_commonDivisor (nI v) (nI (n + 1)) Y).bind fun q125 => if nI u = 0 then (if q125 = 0 then none else some ((nI v / q125).toInt64, Y)) else (if q125 = 0 then none else some ((nI (n + 1) / q125).toInt64, Y))) = some (o, Y) := by
        have ec : fX9_commonDivisor (nI v) (nI (n + 1)) Y = fX9_commonDivisor (nI v) (nI (n + 1)) hM0 := rfl
        rw [ec]
        unfold loX at o1
        revert o1
        cases fX9_commonDivisor (nI v) (nI (n + 1)) hM0 with
        | none => intro o1; cases o1
        | some dd =>
          simp only [Option.bind_some]
          by_cases cu : nI u = 0
          · simp only [if_pos cu]
            by_cases cd : dd = 0
            · simp only [if_pos cd]; intro o1; cases o1
            · simp only [if_neg cd]; intro o1; cases o1; rfl
          · simp only [if_neg cu]
            by_cases cd : dd = 0
            · simp only [if_pos cd]; intro o1; cases o1
            · simp only [if_neg cd]; intro o1; cases o1; rfl
      have hm' : fX10_lowest (nI v).toInt64 (nI (n + 1)).toInt64 (nI u) N = some o := o2
      rw [hx', hm', Option.bind_some]
      exact ⟨_, _, rfl, rfl, rfl, R.keep oY.X kN.keep⟩
    · rintro k k' i z z' hi ⟨v, Y, N, f, g, rfl, rfl, hv, oY, h5, mY, kN⟩ hk
      unfold fX9_odds_L74 fX10_odds_L72
      dsimp only
      rw [if_neg (nI_ge hi (by omega)), if_neg (nI_ge hi (by omega)), nI_add]
      obtain ⟨s1, s2⟩ := seed1 (j := j + i) (by omega)
      obtain ⟨Y2, d1, d2, d3⟩ := x_drawG (nI (j + i)) Y
      rw [s1] at d3
      obtain ⟨M2, b1, b2, b3, b4⟩ := m_blows (nI (j + i)) N
      have hgW := gW_b s2 (by omega)
      generalize gW ((nI (j + i)).toInt64 + 1) = f' at *
      generalize gT ((nI (j + i)).toInt64 + 1) = g' at *
      have okd := wD_ok (g := g') ok hgW
      have mxd : MX (wD w f' g') r Y2 := mY.draw d2 d3
      have mmd := (mm.kB kN).draw b2 (fun t ht => ⟨(b3 t ht).1, (b3 t ht).2.1⟩)
      have br : ∀ a, (a = 0 ∨ a = 6 ∨ a = 7 ∨ a = 8) → M2 a = N a := fun a ha => b2 a (by omega) (by omega) (by omega) (by omega)
      obtain ⟨o', X3, N3, g1, g2, g3, g4, g5, g6⟩ := had_w okd mxd (by rw [d2 40 (by omega) (by omega)]; exact h5) q1 l1 mmd (by rw [br 0 (by omega), kN.2 39 (by omega) (by omega)]; exact R.hold) (by rw [br 6 (by omega), kN.1 6 (by omega)]; exact q2) (by rw [br 7 (by omega), kN.1 7 (by omega)]; exact l2) hp4 c1 pp1 e1 (by rw [d2 _ (by omega) (by omega), oY _ (by omega) (by omega)]; exact y0) (by rw [d2 _ (by omega) (by omega), oY _ (by omega) (by omega)]; exact y1) (by rw [d2 _ (by omega) (by omega), oY _ (by omega) (by omega)]; exact y2) (by rw [br 8 (by omega), kN.1 8 (by omega)]; exact m0) (by rw [br 8 (by omega), kN.1 8 (by omega)]; exact m1) (by rw [br 8 (by omega), kN.1 8 (by omega)]; exact m2)
      obtain ⟨M4, l1', l2', l3', l4'⟩ := m_lays N3
      rw [d1, Option.bind_some, ep, if_pos (ib_mk hp4 (by omega)), nI_clamp hp2, g1, Option.bind_some, b1, Option.bind_some, eh, g2, Option.bind_some]
      dsimp only
      rw [ans_m1 g3, l1', Option.bind_some, nI_1, nI_1, l_cnt (by omega), Int64.add_zero]
      have oY' : kO X X3 := oY.tr (fun a h1 h2 => by rw [g4 a (by omega) h2, d2 a (by omega) (by omega)])
      have h5' : X3 40 5 = nI (stN (q, l)) := by rw [g6, d2 40 (by omega) (by omega)]; exact h5
      have mX3 := mxd.kP g4
      have kN' : kB M M4 := kN.tr (back_Q b2 (fun t ht => ⟨(b3 t ht).2.2.1, (b3 t ht).2.2.2⟩) b4 ⟨fun a ha => g5.1 a ha, g5.2⟩ l2' l3' l4')
      cases o' with
      | none =>
        rw [if_pos (show ansI none < 0 from by decide), if_pos rfl]
        exact hk _ _ ⟨v, X3, M4, f', g', rfl, rfl, by omega, oY', h5', mX3, kN'⟩
      | some t =>
        rw [if_neg (show ¬ ansI (some t) < 0 from nI_pos (by have := g3 t rfl; omega)), if_neg (fun q => (by cases q))]
        exact hk _ _ ⟨v + 1, X3, M4, f', g', rfl, rfl, by omega, oY', h5', mX3, kN'⟩
  obtain ⟨z, z', f1, f2, f3, f4⟩ := fin
  exact ⟨z'.1, z.2, z'.2, by rw [f1, ← f3], f2, f4⟩
