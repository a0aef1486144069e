theorem gNow_h {T : Nat} {X M X' M' : hMem} (n : gNow T X M) (hx : ∀ a, 1 ≤ a → a ≤ 14 → a < 7 ∨ 10 < a → X' a = X a) (hm : ∀ a, 1 ≤ a → a ≤ 8 → a < 4 ∨ 7 < a → M' a = M a) (h0 : ∀ j, kM0 j → M' 0 j = M 0 j) (g : gHats (fun h => X' (7 + h)) (M' 4) (M' 5) (M' 6) (M' 7)) : gNow T X' M' := by
  obtain ⟨h1, h2, h3, h4, h5, h6, h7⟩ := n
  refine ⟨?_, ?_, g, gCats_c h4 (fun i hi => hx _ (by omega) (by omega) (by omega)) ?_, ?_, ?_, ?_⟩
  · rw [hx 2 (by omega) (by omega) (by omega), hm 1 (by omega) (by omega) (by omega)]; exact h1
  · rw [hx 3 (by omega) (by omega) (by omega), hx 4 (by omega) (by omega) (by omega), hm 2 (by omega) (by omega) (by omega), hm 3 (by omega) (by omega) (by omega)]; exact h2
  · intro i hi; rw [hm 8 (by omega) (by omega) (by omega)]
  · rw [hx 1 (by omega) (by omega) (by omega), h0 3 (by unfold kM0; omega)]; exact h5
  · rw [hx 1 (by omega) (by omega) (by omega), h0 8 (by unfold kM0; omega)]; exact h6
  · rw [hx 1 (by omega) (by omega) (by omega), h0 15 (by unfold kM0; omega)]; exact h7
/-- n seconds truly pass, for all hats -/
theorem eq_passes {X M : hMem} (R : RR X M) {H n : Nat} (hH : H ≤ 4) (hx : X 1 5 = nI H) (hm : M 0 3 = nI H) (hn : n ≤ 24) : ∃ X' M', fX9_letPass (nI n) X = some X' ∧ fX10_passes (nI n) M = some M' ∧ RR X' M' ∧ X' 1 5 = nI H ∧ M' 0 3 = nI H ∧ (∀ a, a < 7 ∨ (10 < a ∧ a < 40) → X' a = X a) ∧ (∀ a, a = 1 ∨ a = 2 ∨ a = 3 ∨ a = 4 ∨ a = 5 ∨ a = 8 → M' a = M a) := by
  unfold fX9_letPass fX10_passes
  obtain ⟨r, r', g1, g2, g3⟩ := lp20 (body := fX9_letPass_L2 (nI n)) (body' := fX10_passes_L2 (nI n)) H (fun i s s' => ∃ X' M', s = (nI i, X') ∧ s' = (nI i, M') ∧ RR X' M' ∧ X' 1 5 = nI H ∧ M' 0 3 = nI H ∧ (∀ a, a < 7 ∨ (10 < a ∧ a < 40) → X' a = X a) ∧ (∀ a, a = 1 ∨ a = 2 ∨ a = 3 ∨ a = 4 ∨ a = 5 ∨ a = 8 → M' a = M a)) (fun r r' => RR r r' ∧ r 1 5 = nI H ∧ r' 0 3 = nI H ∧ (∀ a, a < 7 ∨ (10 < a ∧ a < 40) → r a = X a) ∧ (∀ a, a = 1 ∨ a = 2 ∨ a = 3 ∨ a = 4 ∨ a = 5 ∨ a = 8 → r' a = M a)) (0, X) (0, M) ⟨X, M, rfl, rfl, R, hx, hm, fun _ _ => rfl, fun _ _ => rfl⟩ (by omega) (by
    rintro k k' s s' ⟨X', M', rfl, rfl, R', hx', hm', fx, fm⟩
    unfold fX9_letPass_L2 fX10_passes_L2
    dsimp only
    simp only [hx', hm']
    rw [if_pos (nI_le (Nat.le_refl _) (by omega)), if_pos (nI_le (Nat.le_refl _) (by omega))]
    exact ⟨_, _, rfl, rfl, R', hx', hm', fx, fm⟩) (by
    rintro k k' i s s' hi ⟨X', M', rfl, rfl, R', hx', hm', fx, fm⟩ hk
    unfold fX9_letPass_L2 fX10_passes_L2
    dsimp only
    simp only [hx', hm']
    rw [if_neg (nI_ge hi (by omega)), if_neg (nI_ge hi (by omega))]
    obtain ⟨r, q, l, X1, r1, q1, l1, ok, mm, q2, l2, x1, x2, x3, x4, -, -⟩ := R'.ctx hH hi
    obtain ⟨X2, y1, y2⟩ := x_later ok x2 (a := 0) (b := n) (s := (q, l)) (by omega) (by omega) q1 l1
    obtain ⟨M2, z1, z2, z3, z4⟩ := m_behind ok mm (n := n) (by omega) q1 l1 q2 l2
    rw [x1, Option.bind_some, x3, show fX8_later (nI (stN (q, l))) 0 (nI n) X1 = _ from y1, z1, Option.bind_some, Option.bind_some, if_pos (ib_mk (by omega) (by decide)), if_pos (ib_mk (by omega) (by decide)), if_pos (ib_mk (by omega) (by decide)), nI_clamp (by omega)]
    dsimp only
    have hL := runS_lt (hl := noH) (w := wOf X' M' i r) (a := 0) (s := (q, l)) q1 l1 n
    rw [runH0 R'] at z3 z4 ⊢
    rw [Nat.sub_zero, nI_1]
    have e37 : (h_up M2 6 i (nI (runS noH (wOf X' M' i r) 0 n (q, l)).1)) 0 37 = nI (runS noH (wOf X' M' i r) 0 n (q, l)).2 := by rw [m_row (by omega)]; exact z4
    rw [e37]
    generalize runS noH (wOf X' M' i r) 0 n (q, l) = z at hL ⊢
    have px : ∀ a, a < 40 ∨ 55 < a → ¬ (59 ≤ a ∧ a < 80 ∧ a % 4 = 3) → X2 a = X' a := fun a h1 h2 => by rw [y2 a (by omega) h2, x4 a h1]
    have pm := z2.1
    refine hk _ _ ⟨_, _, rfl, rfl, R'.now ?_ ?_ ?_ ?_ ?_, ?_, ?_, ?_, ?_⟩
    · intro a ka h2
      unfold kX at ka
      rw [m_row (by omega)]; exact px a (by omega) (by omega)
    · rw [m_row (by omega)]; rw [px 30 (by omega) (by omega)]
    · intro a ka h2
      unfold kM at ka
      rw [m_row (by omega), m_row (by omega)]; exact pm a (by omega) (by omega) (by omega)
    · intro j hj h3 h8 h15
      unfold kM0 at hj
      rw [m_row (by omega), m_row (by omega)]; exact z2.2 j (by omega) (by omega)
    · intro T _ _ _ nn
      refine gNow_h nn ?_ ?_ ?_ ?_
      · intro a h1 h2 h3; rw [m_row (by omega)]; exact px a (by omega) (by omega)
      · intro a h1 h2 h3; rw [m_row (by omega), m_row (by omega)]; exact pm a (by omega) (by omega) (by omega)
      · intro j hj
        unfold kM0 at hj
        rw [m_row (by omega), m_row (by omega)]; exact z2.2 j (by omega) (by omega)
      · intro u hu
        simp (disch := omega) only [m_row, m_own]
        rw [pm 4 (by omega) (by omega) (by omega), pm 5 (by omega) (by omega) (by omega), pm 6 (by omega) (by omega) (by omega), pm 7 (by omega) (by omega) (by omega)]
        have ho := nn.2.2.1 u hu
        dsimp only at ho
        by_cases e : u = i
        · rw [e] at ho ⊢
          rw [m_own, u_n (by omega), u_n (by omega), u_s, u_s, u_s, px (7 + i) (by omega) (by omega)]
          refine ⟨ho.1, ho.2.1, ?_, ho.2.2.2.1, ho.2.2.2.2.1, ib_mk hL.1 (by decide), ib_mk hL.2 (by decide)⟩
          rw [show (32 : Int32) = nI 32 from rfl, pk_mul, nI_add]
          congr 1
          show 32 * z.2 + z.1 = _
          omega
        · rw [m_row (by omega), u_n e, u_n e, px (7 + u) (by omega) (by omega)]
          exact ho
    · rw [m_row (by omega), px 1 (by omega) (by omega)]; exact hx'
    · rw [m_row (by omega), m_row (by omega), z2.2 3 (by omega) (by omega)]; exact hm'
    · intro a ha; rw [m_row (by omega), px a (by omega) (by omega)]; exact fx a ha
    · intro a ha; rw [m_row (by omega), m_row (by omega), pm a (by omega) (by omega) (by omega)]; exact fm a ha)
  exact ⟨r, r', g1, g2, g3⟩
theorem eq_pass {X M : hMem} (R : RR X M) (a : Int32) : EqC (fX9_pass a X) (fX10_pass a M) := by
  obtain ⟨H, hH, hx, hm⟩ := R.hats
  unfold fX9_pass fX10_pass
  rw [xe_beh, me_sec, b01, b01]
  by_cases ha : h_ib a 25
  · simp only [if_pos ha]
    obtain ⟨n, n1, n2, rfl⟩ := ib_ex ha
    obtain ⟨X', M', e1, e2, R', hx', hm', -, -⟩ := eq_passes R hH hx hm (n := n) (by omega)
    rw [e1, e2, Option.bind_some, Option.bind_some]
    refine EqC.of (lp20 (body := fX9_pass_L19 X') (body' := fX10_pass_L19 M') H (fun i s s' => ∃ v, s = (v, nI i) ∧ s' = (v, nI i)) EqQ (0, 0) (0, 0) ⟨0, rfl, rfl⟩ (by omega) ?_ ?_)
    · rintro k k' s s' ⟨v, rfl, rfl⟩
      unfold fX9_pass_L19 fX10_pass_L19
      dsimp only
      rw [hx', hm', if_pos (nI_le (Nat.le_refl _) (by omega)), if_pos (nI_le (Nat.le_refl _) (by omega))]
      exact ⟨_, _, rfl, rfl, rfl, R'⟩
    · rintro k k' i s s' hi ⟨v, rfl, rfl⟩ hk
      unfold fX9_pass_L19 fX10_pass_L19
      dsimp only
      obtain ⟨q, l, q1, l1, q2, l2, e5⟩ := R'.sqE (h := i) (by omega)
      rw [hx', hm', if_neg (nI_ge hi (by omega)), if_neg (nI_ge hi (by omega)), if_pos (ib_mk (by omega) (by decide)), if_pos (ib_mk (by omega) (by decide)), nI_clamp (by omega), e5, x_sqS q1 l1, R'.setsE (k := 1) (by omega), bit_u _ q1, q2, me_has1 q1, Option.bind_some, b01, nI_1]
      by_cases hb : bt (M' 1 1) q = true
      · rw [if_pos hb, if_pos hb]; exact hk _ _ ⟨_, rfl, rfl⟩
      · rw [if_neg hb, if_neg hb]; exact hk _ _ ⟨_, rfl, rfl⟩
  · simp only [if_neg ha]; exact EqC.now R
/-! from where -/
def bitsS (p : Nat → Bool) : Nat → Int32
  | 0 => 0
  | n + 1 => if p n = true then bitsS p n ||| (1 <<< (nI n &&& 31)) else bitsS p n
theorem xe_op {X : hMem} {c : Nat} (hc : c < 32) : fX9_isOpen (nI c) X = if bt (X 2 0) c = true then 0 else 1 := by
  rw [xe_open, if_pos (ib_mk hc (by decide)), nI_clamp (by omega)]
theorem m_comes {w : hWd} {h : Nat} {c e : Nat → Int32} {M : hMem} (hw : okW w) (m : MM w h c e M) (h0 : M 0 39 = 0) {n l : Nat} (hn : n ≤ 24) (hl : l < 3) (h7 : M 7 h = nI l) : ∃ M', fX10_comesFromAll (nI h) (nI n) M = some M' ∧ kQ M M' ∧ ∀ c, c < 32 → M' 22 c = if bt (M 1 0) c = true then -1 else nI (runS noH w 0 n (c, l)).1 := by
  unfold fX10_comesFromAll
  obtain ⟨r, g1, g2⟩ := lp_u0 (body := fX10_comesFromAll_L2 (nI h) (nI n)) 32 (fun i z => ∃ Y : hMem, z = (nI i, Y) ∧ kQ M Y ∧ ∀ c, c < i → Y 22 c = if bt (M 1 0) c = true then -1 else nI (runS noH w 0 n (c, l)).1) (fun r => kQ M r ∧ ∀ c, c < 32 → r 22 c = if bt (M 1 0) c = true then -1 else nI (runS noH w 0 n (c, l)).1) (0, M) ⟨M, rfl, kQ.rf M, fun c hc => absurd hc (Nat.not_lt_zero _)⟩ (by decide) (by
    rintro k z ⟨Y, rfl, hY, hv⟩
    unfold fX10_comesFromAll_L2
    dsimp only
    rw [if_pos (by decide)]
    exact ⟨_, rfl, hY, hv⟩) (by
    rintro k i z hi ⟨Y, rfl, hY, hv⟩ hk
    unfold fX10_comesFromAll_L2
    dsimp only
    have hh := m.1
    rw [if_neg (show ¬ (32 : Int32) ≤ nI i from nI_ge (b := 32) hi (by decide)), if_pos (ib_mk hh (by decide)), nI_clamp (by omega), m_row (by omega), hY.1 7 (by omega), h7]
    have kb : kQ M (h_up (h_up Y 0 36 (nI i)) 0 37 (nI l)) := hY.tr (kS_b Y _ _).Q
    have v36 : (h_up (h_up Y 0 36 (nI i)) 0 37 (nI l)) 0 36 = nI i := by rw [m_own, u_n (by omega), m_own, u_s]
    have v37 : (h_up (h_up Y 0 36 (nI i)) 0 37 (nI l)) 0 37 = nI l := by rw [m_own, u_s]
    have v22 : (h_up (h_up Y 0 36 (nI i)) 0 37 (nI l)) 22 = Y 22 := by rw [m_row (by omega), m_row (by omega)]
    generalize (h_up (h_up Y 0 36 (nI i)) 0 37 (nI l)) = Z at kb v36 v37 v22 ⊢
    have L38 : ∀ Z2 : hMem, kQ M Z2 → Z2 22 = Y 22 → (bt (M 1 0) i = false → Z2 0 36 = nI (runS noH w 0 n (i, l)).1) → ∃ r, fX10_comesFromAll_L38 k (nI h) (nI n) (nI i) Z2 = some r ∧ (kQ M r ∧ ∀ c, c < 32 → r 22 c = if bt (M 1 0) c = true then -1 else nI (runS noH w 0 n (c, l)).1) := by
      intro Z2 k2 w22 w36
      unfold fX10_comesFromAll_L38
      rw [me_has0 hi, Option.bind_some, b01, k2.1 1 (by omega), nI_1]
      have fr : ∀ x : Int32, kQ M (h_up Z2 22 i x) := fun x => k2.tr ⟨fun a h => m_row (by omega), fun j _ _ => by rw [m_row (by omega)]⟩
      by_cases hb : bt (M 1 0) i = true
      · rw [if_pos hb, if_pos (ib_mk hi (by decide)), nI_clamp (by omega)]
        refine hk _ ⟨_, rfl, fr _, fun c hc => ?_⟩
        rw [m_own, w22]
        by_cases e : c = i
        · rw [e, u_s, if_pos hb]
        · rw [u_n e]; exact hv c (by omega)
      · rw [if_neg hb, if_pos (ib_mk hi (by decide)), nI_clamp (by omega)]
        refine hk _ ⟨_, rfl, fr _, fun c hc => ?_⟩
        rw [m_own, w22]
        by_cases e : c = i
        · rw [e, u_s, if_neg hb]
          exact w36 (by cases h : bt (M 1 0) i with | true => exact absurd h hb | false => rfl)
        · rw [u_n e]; exact hv c (by omega)
    rw [me_has0 hi, Option.bind_some, b01, kb.1 1 (by omega)]
    by_cases hb : bt (M 1 0) i = true
    · rw [if_pos hb]
      exact L38 Z kb v22 (fun h => by rw [hb] at h; cases h)
    · rw [if_neg hb]
      obtain ⟨Z2, e1, e2, e3, e4⟩ := m_goesOn hw (m.kQ kb) (n := n) hn hi hl v36 v37
      rw [e1, Option.bind_some]
      refine L38 Z2 (kb.tr e2.Q) (by rw [e2.1 22 (by omega) (by omega) (by omega), v22]) (fun _ => ?_)
      rw [e3, hldM_q kb, runS_c (hl := hldM M) (hl' := noH) (fun j _ => hldM_0 h0 _)])
  exact ⟨r, g1, g2⟩
theorem eq_from {X M : hMem} (R : RR X M) (a b c : Int32) : EqC (fX9_from a b c X) (fX10_from a b c M) := by
  obtain ⟨H, hH, hx, hm⟩ := R.hats
  unfold fX9_from fX10_from
  rw [xe_hat hx (by omega), me_hat hm (by omega), b01, b01, xe_beh, me_sec, b01, b01, xe_sq, me_sq, b01, b01]
  by_cases ha : h_ib a H
  · by_cases hb : h_ib b 25
    · by_cases hc : h_ib c 32
      · simp only [if_pos ha, if_pos hb, if_pos hc]
        obtain ⟨h, h1, h2, rfl⟩ := ib_ex ha
        obtain ⟨n, n1, n2, rfl⟩ := ib_ex hb
        obtain ⟨d, d1, d2, rfl⟩ := ib_ex hc
        obtain ⟨r, q, l, X1, r1, q1, l1, ok, mm, q2, l2, x1, x2, x3, x4, -, -⟩ := R.ctx hH h1
        obtain ⟨M1, e1, e2, e3⟩ := m_comes ok mm R.hold (n := n) (by omega) l1 l2
        rw [x1, Option.bind_some, e1, Option.bind_some]
        have hW : X 2 0 = M 1 0 := R.setsE (by omega)
        have gx := lp_u0 (body := fX9_from_L35 (nI n) (nI d)) 32 (fun i z => ∃ Y : hMem, z = (bitsS (fun k => !bt (M 1 0) k && decide ((runS noH (wOf X M h r) 0 n (k, l)).1 = d)) i, nI i, Y) ∧ kT X1 Y) (fun z => z.1 = bitsS (fun k => !bt (M 1 0) k && decide ((runS noH (wOf X M h r) 0 n (k, l)).1 = d)) 32 ∧ kT X1 z.2) (0, 0, X1) ⟨X1, rfl, kT.rf X1⟩ (by decide) (by
          rintro k z ⟨Y, rfl, hY⟩
          unfold fX9_from_L35
          dsimp only
          rw [if_pos (by decide)]
          exact ⟨_, rfl, rfl, hY⟩) (by
          rintro k i z hi ⟨Y, rfl, hY⟩ hk
          unfold fX9_from_L35
          dsimp only
          rw [if_neg (show ¬ (32 : Int32) ≤ nI i from nI_ge (b := 32) hi (by decide)), xe_op hi, b10, hY 2 (by omega) (by omega), x4 2 (by omega), hW, hY 40 (by omega) (by omega), x3, x_lieS q1 l1, x_stOf, nI_1]
          by_cases hb : bt (M 1 0) i = true
          · rw [if_pos hb]
            refine hk _ ⟨Y, ?_, hY⟩
            show _ = ((if (!bt (M 1 0) i && _) = true then _ else _), _, _)
            rw [hb]; rfl
          · rw [if_neg hb]
            have hb' : bt (M 1 0) i = false := by cases h : bt (M 1 0) i with | true => exact absurd h hb | false => rfl
            obtain ⟨Y2, f1, f2⟩ := x_later ok (x2.kT hY) (a := 0) (b := n) (s := (i, l)) (by omega) (by omega) hi l1
            rw [show fX8_later (nI (32 * l + i)) 0 (nI n) Y = _ from f1, Option.bind_some]
            dsimp only
            have hL := runS_lt (hl := noH) (w := wOf X M h r) (a := 0) (s := (i, l)) hi l1 n
            rw [Nat.sub_zero, x_sqS hL.1 hL.2]
            by_cases e : (runS noH (wOf X M h r) 0 n (i, l)).1 = d
            · rw [if_pos (by rw [e])]
              refine hk _ ⟨Y2, ?_, hY.tr f2⟩
              show _ = ((if (!bt (M 1 0) i && decide ((runS noH (wOf X M h r) 0 n (i, l)).1 = d)) = true then _ else _), _, _)
              rw [hb', decide_eq_true e]; rfl
            · rw [if_neg (nI_neq d (by omega) (by omega) e)]
              refine hk _ ⟨Y2, ?_, hY.tr f2⟩
              show _ = ((if (!bt (M 1 0) i && decide ((runS noH (wOf X M h r) 0 n (i, l)).1 = d)) = true then _ else _), _, _)
              rw [hb', decide_eq_false e]; rfl)
        obtain ⟨z, z1, z2, z3⟩ := gx
        rw [z1]
        refine EqC.m ?_
        obtain ⟨u, u1, u2⟩ := lp_u0 (body := fX10_from_L36 (nI d) M1) 32 (fun i z => z = (bitsS (fun k => !bt (M 1 0) k && decide ((runS noH (wOf X M h r) 0 n (k, l)).1 = d)) i, nI i)) (fun u => u = (bitsS (fun k => !bt (M 1 0) k && decide ((runS noH (wOf X M h r) 0 n (k, l)).1 = d)) 32, M1)) (0, 0) rfl (by decide) (by
          rintro k z rfl
          unfold fX10_from_L36
          dsimp only
          rw [if_pos (by decide)]
          exact ⟨_, rfl, rfl⟩) (by
          rintro k i z hi rfl hk
          unfold fX10_from_L36
          dsimp only
          rw [if_neg (show ¬ (32 : Int32) ≤ nI i from nI_ge (b := 32) hi (by decide)), if_pos (ib_mk hi (by decide))]
          simp only [nI_clamp (show i < 2 ^ 31 by omega), e3 i hi]
          have hL := runS_lt (hl := noH) (w := wOf X M h r) (a := 0) (s := (i, l)) hi l1 n
          rw [Int32.or_zero, nI_1]
          cases hb : bt (M 1 0) i with
          | true =>
            rw [if_pos rfl, if_neg (n_m1' (by omega))]
            refine hk _ ?_
            show _ = ((if (!bt (M 1 0) i && _) = true then _ else _), _)
            rw [hb]; rfl
          | false =>
            simp only [Bool.false_eq_true, if_false]
            by_cases e : (runS noH (wOf X M h r) 0 n (i, l)).1 = d
            · rw [if_pos (by rw [e])]
              refine hk _ ?_
              show _ = ((if (!bt (M 1 0) i && decide ((runS noH (wOf X M h r) 0 n (i, l)).1 = d)) = true then _ else _), _)
              rw [hb, decide_eq_true e]; rfl
            · rw [if_neg (nI_neq d (by omega) (by omega) e)]
              refine hk _ ?_
              show _ = ((if (!bt (M 1 0) i && decide ((runS noH (wOf X M h r) 0 n (i, l)).1 = d)) = true then _ else _), _)
              rw [hb, decide_eq_false e]; rfl)
        exact ⟨u, u1, by rw [u2, z2], by rw [u2]; exact R.keep (kP.X x4 z3.P) e2.keep⟩
      · simp only [if_pos ha, if_pos hb, if_neg hc]; exact EqC.now R
    · simp only [if_pos ha, if_neg hb]; exact EqC.now R
  · simp only [if_neg ha]; exact EqC.now R
