/-! WHAT IT IS WORTH -/
theorem x_tell {w : hWd} {T : Nat} {X : hMem} (h : MX w T X) {q l : Nat} (hq : q < 32) (hl : l < 3) (s t : Int32) : ∃ Y, fX8_tell s t (nI (stN (q, l))) X = some Y ∧ kT X Y ∧ ∀ j, j < 6 → Y 48 j = nmS s (nI l) (nI w.2.2.2.2.1) t (nI q) (nI w.2.2.2.1) j := by
  obtain ⟨h1, h2, h3, h4, h5, h6, h7, h8, h9, h10⟩ := h
  unfold fX8_tell fX8_tell_L44
  simp only [show nI (stN (q, l)) = nI (32 * l + q) from rfl, x_lieOf hq hl, x_sqOf hq hl]
  refine ⟨_, rfl, ?_, ?_⟩
  · intro a ha _
    simp (disch := omega) only [m_row]
  · intro j hj
    simp (disch := omega) only [m_row, m_own, u_e, h4, h5]
    rcases (by omega : j = 0 ∨ j = 1 ∨ j = 2 ∨ j = 3 ∨ j = 4 ∨ j = 5) with rfl | rfl | rfl | rfl | rfl | rfl <;> rfl
theorem worth_eq {X M : hMem} (R : RR X M) {h p H : Nat} (hH : H ≤ 4) (hh : h < H) (hp : p < 4) : ∃ (v : Int32) (X' M' : hMem), fX9_worthHad (nI h) (nI p) X = some (v, X') ∧ fX10_gainOf (nI h) (nI p) M = some (v, M') ∧ RR X' M' ∧ (∀ a, a < 40 ∨ 55 < a → ¬ (59 ≤ a ∧ a < 80 ∧ a % 4 = 3) → X' a = X a) ∧ kQ M M' := by
  obtain ⟨r, q, l, X1, r1, q1, l1, ok, mm, q2, l2, x1, x2, x3, x4, -, -⟩ := R.ctx hH hh
  obtain ⟨c0, pa, re, c1, p1, e1, m0, m1, m2, y0, y1, y2⟩ := R.cctx hp
  obtain ⟨X2, f1, f2, f3⟩ := x_hadBy ok x2 (s := (q, l)) x3 q1 l1 hp c1 p1 e1 (by rw [x4 _ (by omega)]; exact y0) (by rw [x4 _ (by omega)]; exact y1) (by rw [x4 _ (by omega)]; exact y2)
  obtain ⟨M2, g1, g2, g3⟩ := m_hadBy ok mm R.hold q1 l1 q2 l2 hp c1 p1 e1 m0 m1 m2
  have k2 : kP X1 X2 := fun a h1 h2 => f2 a (by omega) (by omega) h2
  have fx : ∀ Z : hMem, kP X2 Z → ∀ a, a < 40 ∨ 55 < a → ¬ (59 ≤ a ∧ a < 80 ∧ a % 4 = 3) → Z a = X a := fun Z kZ a h1 h2 => by rw [kZ a (by omega) h2, k2 a (by omega) h2, x4 a h1]
  unfold fX9_worthHad fX10_gainOf
  rw [x1, Option.bind_some, if_pos (ib_mk hp (by decide))]
  simp only [nI_clamp (show p < 2 ^ 31 by omega)]
  rw [f1, Option.bind_some, g1, Option.bind_some]
  dsimp only
  have bl := fun n => runS_lt (hl := noH) (w := wOf X M h r) (a := 0) (s := (q, l)) q1 l1 n
  cases eo : hadS ((wOf X M h r).1 0) c0 0 pa re (fun n => (runS noH (wOf X M h r) 0 n (q, l)).1) with
  | none =>
    rw [show ansI none = -1 from rfl, if_neg (by decide), if_pos rfl]
    exact ⟨-100, X2, M2, rfl, rfl, R.keep (kP.X x4 k2) g2.keep, fx X2 (kP.rf X2), g2⟩
  | some n =>
    have hn := hadS_lt eo (by omega)
    obtain ⟨n36, n37⟩ := g3 n eo
    obtain ⟨b1, b2⟩ := bl n
    rw [show ansI (some n) = nI n from rfl, if_pos (nI_pos' (by omega)), if_neg (n_m1 (by omega)), if_pos (ib_mk hp (by decide)), if_pos (ib_mk (by omega) (by decide))]
    simp only [nI_clamp (show n < 2 ^ 31 by omega)]
    rw [f3 n (by omega), f2 (11 + p) (by omega) (by omega) (by omega), x4 (11 + p) (by omega), y1]
    have mx2 := x2.kP k2
    obtain ⟨Y, t1, t2, t3⟩ := x_tell mx2 (q := (runS noH (wOf X M h r) 0 n (q, l)).1) (l := (runS noH (wOf X M h r) 0 n (q, l)).2) b1 b2 (nI pa) (nI n)
    rw [show fX8_tell (nI pa) (nI n) (nI (stN (runS noH (wOf X M h r) 0 n (q, l)))) X2 = some Y from t1, Option.bind_some]
    obtain ⟨z1, z2, z3, z4, z5, z6, z7, z8, ⟨mc, ms, z9⟩, z10⟩ := mx2.kT t2
    have hB : h_isB hYx (56 + 4 * r) 3 0 = true := h_forall (N := 6) (p := fun T => h_isB hYx (56 + 4 * T) 3 0) (by decide +kernel) z7
    obtain ⟨Y2, s1, s2⟩ := x_says (p := 2) z7 (by omega) z9 rfl rfl (rfl : Y 48 = Y 48)
    have ev : evX (Y (57 + 4 * r)) (Y (58 + 4 * r)) 2 (Y 48) = (wOf X M h r).2.2.2.2.2 2 (nmS (nI pa) (nI (runS noH (wOf X M h r) 0 n (q, l)).2) (nI (wOf X M h r).2.2.2.2.1) (nI n) (nI (runS noH (wOf X M h r) 0 n (q, l)).1) (nI (wOf X M h r).2.2.2.1)) := by
      rw [z10]; exact evX_c (by omega) z9 t3
    rw [z8, nI_clamp (by omega), if_pos hB, show fX4_says (56 + 4 * r) 2 Y = _ from s1, Option.bind_some, ev]
    obtain ⟨u1, u2, u3, u4, u5, ⟨r', u6, u7, u8⟩, u9⟩ := mm.kQ g2
    have hp3 : (3 : Int32) * nI p + 1 = nI (3 * p + 1) := by rw [c3a hp, nI_1]
    rw [hp3, if_pos (ib_mk (by omega) (by decide)), if_pos (ib_mk u1 (by decide)), if_pos (ib_mk u1 (by decide)), nI_clamp (by omega), nI_clamp (by omega), g2.1 8 (by omega), m1, n37, u5, n36, u4]
    obtain ⟨M3, v1, v2⟩ := m_asksOf (p := 2) (s := nI pa) (l := nI (runS noH (wOf X M h r) 0 n (q, l)).2) (mo := nI (wOf X M h r).2.2.2.2.1) (t := nI n) (q := nI (runS noH (wOf X M h r) 0 n (q, l)).1) (k := nI (wOf X M h r).2.2.2.1) u6 (by omega) u7 u8 (fun _ _ => trivial)
    have ev2 : evX (X (57 + 4 * r)) (X (58 + 4 * r)) 2 (fun j => if j < 6 then nmS (nI pa) (nI (runS noH (wOf X M h r) 0 n (q, l)).2) (nI (wOf X M h r).2.2.2.2.1) (nI n) (nI (runS noH (wOf X M h r) 0 n (q, l)).1) (nI (wOf X M h r).2.2.2.1) j else M2 20 j) = (wOf X M h r).2.2.2.2.2 2 (nmS (nI pa) (nI (runS noH (wOf X M h r) 0 n (q, l)).2) (nI (wOf X M h r).2.2.2.2.1) (nI n) (nI (runS noH (wOf X M h r) 0 n (q, l)).1) (nI (wOf X M h r).2.2.2.1)) := evX_c (by omega) u8 (fun j hj => if_pos hj)
    rw [show fX10_asksOf 2 (nI pa) (nI (runS noH (wOf X M h r) 0 n (q, l)).2) (nI (wOf X M h r).2.2.2.2.1) (nI n) (nI (runS noH (wOf X M h r) 0 n (q, l)).1) (nI (wOf X M h r).2.2.2.1) M2 = _ from v1, Option.bind_some, ev2]
    have kq : kQ M M3 := g2.tr ⟨fun a ha => v2 a (by omega) (by omega), fun j _ _ => by rw [v2 0 (by omega) (by omega)]⟩
    have kz : kP X2 Y2 := t2.P.tr (fun a h1 h2 => s2 a (by omega))
    exact ⟨_, Y2, M3, rfl, rfl, R.keep (kP.X x4 (k2.tr kz)) kq.keep, fx Y2 kz, kq⟩
theorem eq_gain {X M : hMem} (R : RR X M) (a b : Int32) : EqC (fX9_gain a b X) (fX10_gain a b M) := by
  obtain ⟨H, hH, hx, hm⟩ := R.hats
  obtain ⟨C, hC, cx, cm⟩ := R.cats
  unfold fX9_gain fX10_gain
  rw [xe_hat hx (by omega), xe_cat cx (by omega), there_m hm cm (by omega) (by omega), b01, b01]
  by_cases ha : h_ib a H
  · by_cases hb : h_ib b C
    · simp only [if_pos ha, if_pos hb]
      rw [if_neg (by decide)]
      obtain ⟨h, h1, h2, rfl⟩ := ib_ex ha
      obtain ⟨p, p1, p2, rfl⟩ := ib_ex hb
      obtain ⟨v, X', M', e1, e2, R', -, -⟩ := worth_eq R hH h1 (p := p) (by omega)
      rw [e1, e2]
      exact EqC.now R'
    · simp only [if_pos ha, if_neg hb]
      rw [if_pos trivial]; exact EqC.now R
  · simp only [if_neg ha]
    rw [if_pos trivial]; exact EqC.now R
theorem eq_whom {X M : hMem} (R : RR X M) (b c : Int32) : EqC (fX9_whom b c X) (fX10_whom b c M) := by
  obtain ⟨H, hH, hx, hm⟩ := R.hats
  obtain ⟨C, hC, cx, cm⟩ := R.cats
  unfold fX9_whom fX10_whom
  rw [xe_cat cx (by omega), me_cat cm (by omega), xe_01, me_in1, b01, b01, b01, b01]
  by_cases hb : h_ib b C
  · by_cases hc : h_ib c 2
    · simp only [if_pos hb, if_pos hc]
      obtain ⟨p, p1, p2, rfl⟩ := ib_ex hb
      refine EqC.of (lp20 (body := fX9_whom_L29 (nI p) c) (body' := fX10_whom_L31 (nI p) c) H (fun i s s' => ∃ (u v : Int32) (X' M' : hMem), s = (u, v, nI i, X') ∧ s' = (u, v, nI i, M') ∧ RR X' M' ∧ X' 1 5 = nI H ∧ M' 0 3 = nI H) EqQ _ _ ⟨-1, 0, X, M, rfl, rfl, R, hx, hm⟩ (by omega) ?_ ?_)
      · rintro k k' s s' ⟨u, v, X', M', rfl, rfl, R', hx', hm'⟩
        unfold fX9_whom_L29 fX10_whom_L31
        dsimp only
        simp only [hx', hm']
        rw [if_pos (nI_le (Nat.le_refl _) (by omega)), if_pos (nI_le (Nat.le_refl _) (by omega))]
        by_cases ec : c = 0
        · rw [if_pos ec, if_pos ec]; exact ⟨_, _, rfl, rfl, rfl, R'⟩
        · rw [if_neg ec, if_neg ec]; exact ⟨_, _, rfl, rfl, rfl, R'⟩
      · rintro k k' i s s' hi ⟨u, v, X', M', rfl, rfl, R', hx', hm'⟩ hk
        unfold fX9_whom_L29 fX10_whom_L31 fX10_whom_L62
        dsimp only
        simp only [hx', hm']
        rw [if_neg (nI_ge hi (by omega)), if_neg (nI_ge hi (by omega))]
        obtain ⟨z, X2, M2, e1, e2, R2, fx, kq⟩ := worth_eq R' hH hi (p := p) (by omega)
        rw [e1, e2, Option.bind_some, Option.bind_some, nI_1]
        dsimp only
        have hx2 : X2 1 5 = nI H := by rw [fx 1 (by omega) (by omega)]; exact hx'
        have hm2 : M2 0 3 = nI H := by rw [kq.2 3 (by omega) (by omega)]; exact hm'
        by_cases g : z ≤ v
        · simp only [if_pos g]; exact hk _ _ ⟨_, _, X2, M2, rfl, rfl, R2, hx2, hm2⟩
        · simp only [if_neg g]; exact hk _ _ ⟨_, _, X2, M2, rfl, rfl, R2, hx2, hm2⟩
    · simp only [if_pos hb, if_neg hc]; exact EqC.now R
  · simp only [if_neg hb]; exact EqC.now R
/-! held -/
theorem runS_all {hl : Nat → Bool} {w : hWd} {a : Nat} {s : Nat × Nat} : ∀ {n : Nat}, (∀ j, j < n → hl (a + j) = true) → runS hl w a n s = s
  | 0, _ => rfl
  | n + 1, h => by rw [runS_s, if_pos (h n (by omega)), runS_all (n := n) (fun j hj => h j (by omega))]
theorem run_held (w : hWd) (s : Nat × Nat) (f m n : Nat) : runS (fun t => decide (f ≤ t ∧ t < f + m)) w 0 n s = runS noH w (min n (f + m)) (n - min n (f + m)) (runS noH w 0 (min n f) s) := by
  have e1 : n = min n f + ((min n (f + m) - min n f) + (n - min n (f + m))) := by omega
  have e2 : runS (fun t => decide (f ≤ t ∧ t < f + m)) w 0 n s = runS (fun t => decide (f ≤ t ∧ t < f + m)) w 0 (min n f + ((min n (f + m) - min n f) + (n - min n (f + m)))) s := by rw [← e1]
  rw [e2, runS_add, runS_add, Nat.zero_add]
  have a1 : runS (fun t => decide (f ≤ t ∧ t < f + m)) w 0 (min n f) s = runS noH w 0 (min n f) s := runS_c (fun j hj => decide_eq_false (by omega))
  rw [a1, runS_all (n := min n (f + m) - min n f) (fun j hj => decide_eq_true (by omega)), show min n f + (min n (f + m) - min n f) = min n (f + m) from by omega]
  exact runS_c (fun j hj => decide_eq_false (by omega))
theorem fj_min (a b : Nat) (ha : a < 2 ^ 31) (hb : b < 2 ^ 31) (M : hMem) : fJ9_min_7cf53 (nI a) (nI b) M = nI (min a b) := by
  unfold fJ9_min_7cf53
  by_cases h : b < a
  · rw [if_pos (nI_lt h ha), Nat.min_eq_right (by omega)]
  · rw [if_neg (nI_nlt (by omega) hb), Nat.min_eq_left (by omega)]
/-- held, the other one's -/
theorem m_sqHeld {w : hWd} {h : Nat} {c e : Nat → Int32} {M : hMem} (hw : okW w) (m : MM w h c e M) {n q l f k : Nat} (hn : n ≤ 24) (hq : q < 32) (hl : l < 3) (h6 : M 6 h = nI q) (h7 : M 7 h = nI l) (hf : f < 100) (hk : k < 100) : ∃ M', fX10_squareHeld (nI h) (nI n) (nI f) (nI k) M = some (nI (runS (fun t => decide (f ≤ t ∧ t < f + k)) w 0 n (q, l)).1, M') ∧ (∀ a, a ≠ 0 → a ≠ 19 → a ≠ 20 → M' a = M a) ∧ (∀ j, j ≠ 36 → j ≠ 37 → j ≠ 38 → j ≠ 39 → M' 0 j = M 0 j) ∧ M' 0 39 = 0 := by
  unfold fX10_squareHeld
  have mm : MM w h c e (h_up (h_up M 0 38 (nI f)) 0 39 (nI k)) := by
    obtain ⟨h1, h2, h3, h4, h5, ⟨r, h8, h9, h10⟩, h11⟩ := m
    refine ⟨h1, ?_, ?_, ?_, ?_, ⟨r, h8, ?_, ?_⟩, h11⟩
    · simp (disch := omega) only [m_row]; exact h2
    · simp (disch := omega) only [m_row]; exact h3
    · simp (disch := omega) only [m_row]; exact h4
    · simp (disch := omega) only [m_row]; exact h5
    · simp (disch := omega) only [m_own, u_n]; exact h9
    · simp (disch := omega) only [m_row]; exact h10
  obtain ⟨M', e1, e2, e3, e4⟩ := m_behind hw mm (n := n) hn hq hl (by simp (disch := omega) only [m_row]; exact h6) (by simp (disch := omega) only [m_row]; exact h7)
  rw [e1, Option.bind_some]
  have hh : runS (hldM (h_up (h_up M 0 38 (nI f)) 0 39 (nI k))) w 0 n (q, l) = runS (fun t => decide (f ≤ t ∧ t < f + k)) w 0 n (q, l) := runS_c (fun j hj => by
    rw [Nat.zero_add]
    exact hldM_f (by simp (disch := omega) only [m_own, u_n, u_s]) (by simp (disch := omega) only [m_own, u_s]) (by omega) (by omega) (by omega))
  rw [hh]
  refine ⟨_, rfl, fun a h1 h2 h3 => ?_, fun j h1 h2 h3 h4 => ?_, ?_⟩ <;> dsimp only
  · rw [m_row h1, e2.1 a h1 h2 h3, m_row h1, m_row h1]
  · rw [m_own, u_n h4, e2.2 j h1 h2, m_own, u_n h4, m_own, u_n h3]
  · rw [m_own, u_s]
theorem eq_held {X M : hMem} (R : RR X M) (a b c : Int32) : EqC (fX9_held a b c X) (fX10_held a b c M) := by
  obtain ⟨H, hH, hx, hm⟩ := R.hats
  unfold fX9_held fX10_held
  rw [xe_hat hx (by omega), me_hat hm (by omega), b01, b01, xe_beh, me_sec, b01, b01]
  by_cases ha : h_ib a H
  · by_cases hb : h_ib b 25
    · simp only [if_pos ha, if_pos hb]
      by_cases c0 : c < 0
      · rw [if_pos c0, if_pos c0]; exact EqC.now R
      · rw [if_neg c0, if_neg c0]
        obtain ⟨h, h1, h2, rfl⟩ := ib_ex ha
        obtain ⟨n, n1, n2, rfl⟩ := ib_ex hb
        obtain ⟨d, d1, rfl⟩ := nI_of c0
        rw [show nI d / 100 = nI (d / 100) from pk_div (d := 100) d1 (by decide) (by decide), show h_rem (nI d) 100 = nI (d % 100) from n_rem (d := 100) d1 (by decide) (by decide), xe_sec, xe_beh, b01, b01]
        by_cases hf : d / 100 < 24
        · rw [if_pos (ib_mk hf (by decide)), if_neg (show ¬ (24 : Int32) ≤ nI (d / 100) from nI_ge (b := 24) hf (by decide))]
          by_cases hk : d % 100 < 25
          · rw [if_pos (ib_mk hk (by decide)), if_pos (show nI (d % 100) ≤ (24 : Int32) from nI_le (b := 24) (by omega) (by decide))]
            obtain ⟨r, q, l, X1, r1, q1, l1, ok, mm, q2, l2, x1, x2, x3, x4, -, -⟩ := R.ctx hH h1
            rw [x1, Option.bind_some, x3, nI_add, fj_min _ _ (by omega) (by omega), fj_min _ _ (by omega) (by omega)]
            obtain ⟨X2, y1, y2⟩ := x_later ok x2 (a := 0) (b := min n (d / 100)) (s := (q, l)) (by omega) (by omega) q1 l1
            have hL := runS_lt (hl := noH) (w := wOf X M h r) (a := 0) (s := (q, l)) q1 l1 (min n (d / 100))
            rw [Nat.sub_zero] at y1
            obtain ⟨X3, z1, z2⟩ := x_later ok (x2.kT y2) (a := min n (d / 100 + d % 100)) (b := n) (s := runS noH (wOf X M h r) 0 (min n (d / 100)) (q, l)) (by omega) (by omega) hL.1 hL.2
            have hL2 := runS_lt (hl := noH) (w := wOf X M h r) (a := min n (d / 100 + d % 100)) hL.1 hL.2 (n - min n (d / 100 + d % 100))
            rw [show fX8_later (nI (stN (q, l))) 0 (nI (min n (d / 100))) X1 = _ from y1, Option.bind_some]
            dsimp only
            rw [z1, Option.bind_some]
            dsimp only
            rw [x_sqS hL2.1 hL2.2]
            obtain ⟨M2, g1, g2, g3, g4⟩ := m_sqHeld ok mm (n := n) (f := d / 100) (k := d % 100) (by omega) q1 l1 q2 l2 (by omega) (by omega)
            rw [g1, Option.bind_some, run_held]
            dsimp only
            refine EqC.now (R.keep (kP.X x4 (y2.P.tr z2.P)) ⟨fun a ha => ?_, fun j hj => ?_⟩)
            · unfold kM at ha; exact g2 a (by omega) (by omega) (by omega)
            · unfold kM0 at hj
              by_cases e : j = 39
              · rw [e, g4, R.hold]
              · exact g3 j (by omega) (by omega) (by omega) e
          · rw [if_neg (fun hh => hk ((ib_iff (by omega)).mp hh)), if_neg (show ¬ nI (d % 100) ≤ (24 : Int32) from nI_ge (a := 24) (by omega) (by omega))]; exact EqC.now R
        · rw [if_neg (fun hh => hf ((ib_iff (by omega)).mp hh)), if_pos (show (24 : Int32) ≤ nI (d / 100) from nI_le (a := 24) (by omega) (by omega))]; exact EqC.now R
    · simp only [if_pos ha, if_neg hb]; exact EqC.now R
  · simp only [if_neg ha]; exact EqC.now R
