theorem q_le25x {α : Type} {a : Int32} {A B : α} : (if a < 0 then A else if a ≤ 24 then B else A) = if h_ib a 25 then B else A := if_le a 24 A B (by decide)
theorem pair_x {X : hMem} {H C : Nat} (hx : X 1 5 = nI H) (cx : X 1 6 = nI C) (hH : H < 2 ^ 31) (hC : C < 2 ^ 31) (a b c : Int32) : fX9_refusalOfPair a b c X = if h_ib a H then (if h_ib b C then (if h_ib c 2 then 0 else -7) else -5) else -5 := by
  unfold fX9_refusalOfPair
  rw [xe_hat hx hH, xe_cat cx hC, xe_01, b01, b01, b01]
theorem there_m {M : hMem} {H C : Nat} (hm : M 0 3 = nI H) (cm : M 0 8 = nI C) (hH : H < 2 ^ 30) (hC : C < 2 ^ 30) (a b : Int32) : fX10_areThere a b M = if h_ib a H then (if h_ib b C then 1 else 0) else 0 := by
  unfold fX10_areThere
  rw [me_hat hm hH, me_cat cm hC, b01, b01]
theorem eq_stand {X M : hMem} (R : RR X M) (a b c : Int32) : EqC (fX9_stand a b c X) (fX10_stand a b c M) := by
  obtain ⟨H, hH, hx, hm⟩ := R.hats
  obtain ⟨C, hC, cx, cm⟩ := R.cats
  unfold fX9_stand fX10_stand
  rw [pair_x hx cx (by omega) (by omega), there_m hm cm (by omega) (by omega), me_in1, b01]
  by_cases ha : h_ib a H
  · by_cases hb : h_ib b C
    · by_cases hc : h_ib c 2
      · simp only [if_pos ha, if_pos hb, if_pos hc]
        rw [if_pos trivial, if_neg (by decide)]
        obtain ⟨h, h1, h2, rfl⟩ := ib_ex ha
        obtain ⟨p, p1, p2, rfl⟩ := ib_ex hb
        obtain ⟨r, q, l, X1, r1, q1, l1, ok, mm, q2, l2, x1, x2, x3, x4, -, -⟩ := R.ctx hH h1
        obtain ⟨c0, pa, re, c1, pp1, e1, m0, m1, m2, y0, y1, y2⟩ := R.cctx (p := p) (by omega)
        obtain ⟨X2, f1, f2, f3⟩ := x_follow ok x2 (a := 47) (Or.inl rfl) x3 q1 l1
        rw [x1, Option.bind_some, f1, Option.bind_some, if_pos (ib_mk (by omega) (by decide)), nI_clamp (by omega)]
        have kx : keepX X X2 := kP.X x4 (fun a h1 h2 => f2 a (by omega) (by omega) h2)
        have hp3 : (3 : Int32) * nI p + 1 = nI (3 * p + 1) := by rw [c3a (by omega), nI_1]
        have hp4 : (3 : Int32) * nI p + 2 = nI (3 * p + 2) := by rw [c3a (by omega)]; exact nI_add _ 2
        refine EqC.of (lp20 (body := fX9_stand_L56 c (11 + p) X2) (body' := fX10_stand_L33 (nI h) (nI p) c) 32 (fun i s s' => ∃ (b : Int32) (f : Option Nat) (N : hMem), s = (b, ansI f, nI i) ∧ s' = (b, ansI f, nI i, N) ∧ okO f ∧ okB b f ∧ kQ M N) EqQ _ _ ⟨-1, none, M, rfl, rfl, fun n h => (by cases h), Or.inl ⟨rfl, rfl⟩, kQ.rf M⟩ (by omega) ?_ ?_)
        · rintro k k' s s' ⟨b, f, N, rfl, rfl, of, ob, kN⟩
          unfold fX9_stand_L56 fX10_stand_L33
          dsimp only
          have R' := R.keep kx kN.keep
          simp only [show (32 : Int32) ≤ nI 32 from by decide, if_true]
          by_cases ec : c = 0
          · rw [if_pos ec, if_pos ec]; exact ⟨_, _, rfl, rfl, rfl, R'⟩
          · rw [if_neg ec, if_neg ec]; exact ⟨_, _, rfl, rfl, rfl, R'⟩
        · rintro k k' i s s' hi ⟨b, f, N, rfl, rfl, of, ob, kN⟩ hk
          unfold fX9_stand_L56 fX10_stand_L33
          dsimp only
          rw [if_neg (show ¬ (32 : Int32) ≤ nI i from nI_ge (b := 32) hi (by decide)), if_neg (show ¬ (32 : Int32) ≤ nI i from nI_ge (b := 32) hi (by decide)), xe_op hi, b10, me_has0 hi, Option.bind_some, b01, f2 2 (by omega) (by omega) (by omega), x4 2 (by omega), R.setsE (k := 0) (by omega), kN.1 1 (by omega), nI_1]
          by_cases hw : bt (M 1 0) i = true
          · rw [if_pos hw, if_pos hw]
            exact hk _ _ ⟨b, f, N, rfl, rfl, of, ob, kN⟩
          · rw [if_neg hw, if_neg hw, f2 40 (by omega) (by omega) (by omega), x3, x_sqS q1 l1, if_pos (ib_mk (by omega) (by decide))]
            simp only [nI_clamp (show h < 2 ^ 31 by omega), kN.1 6 (by omega), q2]
            by_cases eq : i = q
            · rw [if_pos (by rw [eq]), if_pos (by rw [eq])]
              exact hk _ _ ⟨b, f, N, rfl, rfl, of, ob, kN⟩
            · rw [if_neg (nI_neq q (by omega) (by omega) eq), if_neg (nI_neq q (by omega) (by omega) eq), hp3, hp4, if_pos (ib_mk (by omega) (by decide)), if_pos (ib_mk (by omega) (by decide)), nI_clamp (by omega), nI_clamp (by omega), kN.1 8 (by omega), m1, m2]
              have hh := x_had (X := X2) (W := M 1 0) (a := 47) (s := fun n => runS noH (wOf X M h r) 0 n (q, l)) (by rw [f2 40 (by omega) (by omega) (by omega)]; exact x2.1) (Or.inl rfl) (fun n hn => ⟨f3 n hn, (runS_lt (s := (q, l)) q1 l1 n).1, (runS_lt (s := (q, l)) q1 l1 n).2⟩) (c0 := i) (m := 0) hi (by omega) pp1 e1
              obtain ⟨N2, g1, g2, -⟩ := m_had ok (mm.kQ kN) (by rw [kN.2 39 (by omega) (by omega)]; exact R.hold) (m := 0) q1 l1 (by rw [kN.1 6 (by omega)]; exact q2) (by rw [kN.1 7 (by omega)]; exact l2) (c0 := i) hi (by omega) pp1 e1
              rw [show (wOf X M h r).1 0 = M 1 0 from rfl] at g1
              have oo := hadS_ok (W := M 1 0) (c0 := i) (m := 0) (pace := pa) (reach := re) (sq := fun n => (runS noH (wOf X M h r) 0 n (q, l)).1) (by omega)
              generalize hadS (M 1 0) i 0 pa re (fun n => (runS noH (wOf X M h r) 0 n (q, l)).1) = o at oo hh g1
              rw [f2 (11 + p) (by omega) (by omega) (by omega), x4 (11 + p) (by omega), y1, y2, show fX8_had 47 (nI i) 0 (nI pa) (nI re) X2 = _ from hh, show fX10_had (nI h) (nI i) 0 (nI pa) (nI re) N = _ from g1, Option.bind_some, Option.bind_some]
              dsimp only
              rw [x_sooner oo of, b01, m_less oo of ob]
              unfold fX10_stand_L114 fX10_stand_L110 fX10_stand_L115 fX10_stand_L129
              have kN2 := kN.tr g2
              by_cases hs : soon o f = true
              · rw [if_pos hs, if_pos hs, if_neg (by decide), if_neg (by decide), nI_1]
                exact hk _ _ ⟨_, o, N2, rfl, rfl, oo, okB_new (by omega) hs, kN2⟩
              · rw [if_neg hs, if_neg hs, if_pos rfl, if_pos rfl, nI_1]
                exact hk _ _ ⟨_, f, N2, rfl, rfl, of, ob, kN2⟩
      · simp only [if_pos ha, if_pos hb, if_neg hc]
        rw [if_neg (by decide), if_neg (by decide)]; exact EqC.now R
    · simp only [if_pos ha, if_neg hb]
      rw [if_neg (by decide), if_pos trivial]; exact EqC.now R
  · simp only [if_neg ha]
    rw [if_neg (by decide), if_pos trivial]; exact EqC.now R
theorem eq_pace {X M : hMem} (R : RR X M) (a b c : Int32) : EqC (fX9_pace a b c X) (fX10_pace a b c M) := by
  obtain ⟨H, hH, hx, hm⟩ := R.hats
  obtain ⟨C, hC, cx, cm⟩ := R.cats
  unfold fX9_pace fX10_pace
  rw [xe_hat hx (by omega), xe_cat cx (by omega), there_m hm cm (by omega) (by omega), me_sec, b01, b01, b01, q_le25x]
  by_cases ha : h_ib a H
  · by_cases hb : h_ib b C
    · by_cases hc : h_ib c 25
      · simp only [if_pos ha, if_pos hb, if_pos hc]
        rw [if_neg (by decide)]
        obtain ⟨h, h1, h2, rfl⟩ := ib_ex ha
        obtain ⟨p, p1, p2, rfl⟩ := ib_ex hb
        obtain ⟨sec, s1, s2, rfl⟩ := ib_ex hc
        obtain ⟨r, q, l, X1, r1, q1, l1, ok, mm, q2, l2, x1, x2, x3, x4, -, -⟩ := R.ctx hH h1
        obtain ⟨c0, pa, re, c1, pp1, e1, m0, m1, m2, y0, y1, y2⟩ := R.cctx (p := p) (by omega)
        obtain ⟨X2, f1, f2, f3⟩ := x_follow ok x2 (a := 47) (Or.inl rfl) x3 q1 l1
        rw [x1, Option.bind_some, f1, Option.bind_some, if_pos (ib_mk (by omega) (by decide)), nI_clamp (by omega)]
        have kx : keepX X X2 := kP.X x4 (fun a h1 h2 => f2 a (by omega) (by omega) h2)
        have hp4 : (3 : Int32) * nI p + 2 = nI (3 * p + 2) := by rw [c3a (by omega)]; exact nI_add _ 2
        refine EqC.of (lp20 (body := fX9_pace_L65 (nI sec) (11 + p) X2) (body' := fX10_pace_L25 (nI h) (nI p) (nI sec)) 5 (fun i s s' => ∃ N : hMem, s = nI i ∧ s' = (nI i, N) ∧ kQ M N) EqQ _ _ ⟨M, rfl, rfl, kQ.rf M⟩ (by omega) ?_ ?_)
        · rintro k k' s s' ⟨N, rfl, rfl, kN⟩
          unfold fX9_pace_L65 fX10_pace_L25
          dsimp only
          simp only [show (4 : Int32) < nI 5 from by decide, if_true]
          exact ⟨_, _, rfl, rfl, rfl, R.keep kx kN.keep⟩
        · rintro k k' i s s' hi ⟨N, rfl, rfl, kN⟩ hk
          unfold fX9_pace_L65 fX10_pace_L25
          dsimp only
          rw [if_neg (show ¬ (4 : Int32) < nI i from nI_nlt (b := i) (a := 4) (by omega) (by decide)), if_neg (show ¬ (4 : Int32) < nI i from nI_nlt (b := i) (a := 4) (by omega) (by decide)), c3a (by omega), show nI (3 * p) + 2 = nI (3 * p + 2) from nI_add _ 2, if_pos (ib_mk (by omega) (by decide)), if_pos (ib_mk (by omega) (by decide)), nI_clamp (by omega), nI_clamp (by omega), kN.1 8 (by omega), m0, m2]
          have hh := x_had (X := X2) (W := M 1 0) (a := 47) (s := fun n => runS noH (wOf X M h r) 0 n (q, l)) (by rw [f2 40 (by omega) (by omega) (by omega)]; exact x2.1) (Or.inl rfl) (fun n hn => ⟨f3 n hn, (runS_lt (s := (q, l)) q1 l1 n).1, (runS_lt (s := (q, l)) q1 l1 n).2⟩) (c0 := c0) (m := 0) (pace := i) c1 (by omega) (by omega) e1
          obtain ⟨N2, g1, g2, -⟩ := m_had ok (mm.kQ kN) (by rw [kN.2 39 (by omega) (by omega)]; exact R.hold) (m := 0) q1 l1 (by rw [kN.1 6 (by omega)]; exact q2) (by rw [kN.1 7 (by omega)]; exact l2) (c0 := c0) (pace := i) c1 (by omega) (by omega) e1
          rw [show (wOf X M h r).1 0 = M 1 0 from rfl] at g1
          have oo := hadS_ok (W := M 1 0) (c0 := c0) (m := 0) (pace := i) (reach := re) (sq := fun n => (runS noH (wOf X M h r) 0 n (q, l)).1) (by omega)
          generalize hadS (M 1 0) c0 0 i re (fun n => (runS noH (wOf X M h r) 0 n (q, l)).1) = o at oo hh g1
          have kN2 := kN.tr g2
          have R2 := R.keep kx kN2.keep
          rw [f2 (11 + p) (by omega) (by omega) (by omega), x4 (11 + p) (by omega), y0, y2, show fX8_had 47 (nI c0) 0 (nI i) (nI re) X2 = _ from hh, show fX10_had (nI h) (nI c0) 0 (nI i) (nI re) N = _ from g1, Option.bind_some, Option.bind_some, nI_1]
          dsimp only
          cases o with
          | none =>
            rw [show ansI none = -1 from rfl, if_pos (by decide), if_pos rfl]
            exact hk _ _ ⟨N2, rfl, rfl, kN2⟩
          | some n =>
            have := oo n rfl
            rw [show ansI (some n) = nI n from rfl, if_neg (nI_pos (by omega)), if_neg (n_m1 (by omega))]
            by_cases e0 : nI sec = 0
            · rw [if_pos e0, if_pos e0]; exact ⟨_, _, rfl, rfl, rfl, R2⟩
            · rw [if_neg e0, if_neg e0]
              by_cases e2 : nI sec ≤ nI n
              · rw [if_pos e2, if_pos e2]; exact hk _ _ ⟨N2, rfl, rfl, kN2⟩
              · rw [if_neg e2, if_neg e2]; exact ⟨_, _, rfl, rfl, rfl, R2⟩
      · simp only [if_pos ha, if_pos hb, if_neg hc]
        rw [if_neg (by decide)]; exact EqC.now R
    · simp only [if_pos ha, if_neg hb]
      rw [if_pos trivial]; exact EqC.now R
  · simp only [if_neg ha]
    rw [if_pos trivial]; exact EqC.now R
/-- how long one may wait: the first of 1 .. 24 that is too late, less 1 -/
def badW (W : Int32) (c0 pace reach first : Nat) (sq : Nat → Nat) (m : Nat) : Bool := match hadS W c0 m pace reach sq with | none => true | some n => decide (first < n)
def waitA (o : Option Nat) : Int32 := match o with | none => nI 24 | some k => nI (k - 1)
theorem eq_wait {X M : hMem} (R : RR X M) (a b : Int32) : EqC (fX9_wait a b X) (fX10_wait a b M) := by
  obtain ⟨H, hH, hx, hm⟩ := R.hats
  obtain ⟨C, hC, cx, cm⟩ := R.cats
  unfold fX9_wait fX10_wait
  rw [xe_hat hx (by omega), xe_cat cx (by omega), there_m hm cm (by omega) (by omega), b01, b01]
  by_cases ha : h_ib a H
  · by_cases hb : h_ib b C
    · simp only [if_pos ha, if_pos hb]
      rw [if_neg (by decide)]
      obtain ⟨h, h1, h2, rfl⟩ := ib_ex ha
      obtain ⟨p, p1, p2, rfl⟩ := ib_ex hb
      obtain ⟨r, q, l, X1, r1, q1, l1, ok, mm, q2, l2, x1, x2, x3, x4, -, -⟩ := R.ctx hH h1
      obtain ⟨c0, pa, re, c1, pp1, e1, m0, m1, m2, y0, y1, y2⟩ := R.cctx (p := p) (by omega)
      obtain ⟨X2, f1, f2, f3⟩ := x_hadBy ok x2 (s := (q, l)) x3 q1 l1 (p := p) (by omega) c1 pp1 e1 (by rw [x4 _ (by omega)]; exact y0) (by rw [x4 _ (by omega)]; exact y1) (by rw [x4 _ (by omega)]; exact y2)
      obtain ⟨M2, g1, g2, g3⟩ := m_hadBy ok mm R.hold q1 l1 q2 l2 (p := p) (by omega) c1 pp1 e1 m0 m1 m2
      have kx : keepX X X2 := kP.X x4 (fun a h1 h2 => f2 a (by omega) (by omega) h2)
      unfold fX9_hadNow
      rw [show (wOf X M h r).1 0 = M 1 0 from rfl] at f1 g1 g3
      rw [x1, Option.bind_some, if_pos (ib_mk (by omega) (by decide))]
      simp only [nI_clamp (show p < 2 ^ 31 by omega)]
      rw [f1, Option.bind_some, g1, Option.bind_some, Option.bind_some]
      dsimp only
      have hadM : ∀ m, m ≤ 24 → fX8_had 47 (X2 (11 + p) 0) (nI m) (X2 (11 + p) 1) (X2 (11 + p) 2) X2 = some (ansI (hadS (M 1 0) c0 m pa re (fun n => (runS noH (wOf X M h r) 0 n (q, l)).1))) := fun m hm => by
        rw [f2 (11 + p) (by omega) (by omega) (by omega), x4 (11 + p) (by omega), y0, y1, y2]
        exact x_had (X := X2) (W := M 1 0) (a := 47) (s := fun n => runS noH (wOf X M h r) 0 n (q, l)) (by rw [f2 40 (by omega) (by omega) (by omega)]; exact x2.1) (Or.inl rfl) (fun n hn => ⟨f3 n hn, (runS_lt (s := (q, l)) q1 l1 n).1, (runS_lt (s := (q, l)) q1 l1 n).2⟩) c1 (by omega) pp1 e1
      rw [if_pos (ib_mk (by omega) (by decide))]
      cases eo : hadS (M 1 0) c0 0 pa re (fun n => (runS noH (wOf X M h r) 0 n (q, l)).1) with
      | none =>
        rw [show ansI none = -1 from rfl, if_pos rfl]
        refine EqC.of ⟨(-1, X2), (-1, M2), ?_, rfl, rfl, R.keep kx g2.keep⟩
        show h_lp (fX9_wait_L43 (-1) (11 + p) X2) (19999 + 1) (-1, 0) = _
        rw [lp_s]
        unfold fX9_wait_L43
        rw [if_pos (by decide)]
      | some first =>
        obtain ⟨-, hf24⟩ := hadS_lt eo (by omega)
        rw [show ansI (some first) = nI first from rfl, if_neg (n_m1 (by omega))]
        have hB : ∀ m, badW (M 1 0) c0 pa re first (fun n => (runS noH (wOf X M h r) 0 n (q, l)).1) m = (match hadS (M 1 0) c0 m pa re (fun n => (runS noH (wOf X M h r) 0 n (q, l)).1) with | none => true | some n => decide (first < n)) := fun _ => rfl
        generalize badW (M 1 0) c0 pa re first (fun n => (runS noH (wOf X M h r) 0 n (q, l)).1) = bad at hB
        have late : ∀ m, m ≤ 24 → first < m → bad m = true := fun m hm hlt => by
          rw [hB]
          cases e : hadS (M 1 0) c0 m pa re (fun n => (runS noH (wOf X M h r) 0 n (q, l)).1) with
          | none => rfl
          | some n =>
            have := hadS_lt e (by omega)
            exact decide_eq_true (by omega)
        -- x
        obtain ⟨u, u1, u2⟩ := lp_h (body := fX9_wait_L43 (nI first) (11 + p) X2) (fun z => (z = (-1, 0)) ∨ ∃ i, 1 ≤ i ∧ i ≤ 25 ∧ z = (nI (i - 1), nI i) ∧ frst bad (25 - i) i = frst bad 24 1) (fun u => u = (waitA (frst bad 24 1), X2)) (fun z => 30 - z.2.toNatClampNeg) (by
          rintro k z (rfl | ⟨i, i1, i2, rfl, hz⟩) hk
          · unfold fX9_wait_L43
            dsimp only
            rw [if_neg (nI_pos (by omega)), show fX8_had 47 (X2 (11 + p) 0) 0 (X2 (11 + p) 1) (X2 (11 + p) 2) X2 = _ from hadM 0 (by omega), eo, Option.bind_some, show ansI (some first) = nI first from rfl, if_neg (nI_pos (by omega)), if_pos (nI_le (Nat.le_refl _) (by omega))]
            exact hk _ (Or.inr ⟨1, by omega, by omega, rfl, rfl⟩) (by decide)
          · unfold fX9_wait_L43
            dsimp only
            by_cases hlt : first < i
            · rw [if_pos (nI_lt hlt (by omega))]
              refine ⟨_, rfl, ?_⟩
              rw [← hz]
              rcases (by omega : i = 25 ∨ i ≤ 24) with g | g
              · rw [g]; rfl
              · obtain ⟨t, ht⟩ : ∃ t, 25 - i = t + 1 := ⟨24 - i, by omega⟩
                rw [ht, frst_s, if_pos (late i g hlt)]; rfl
            · obtain ⟨t, ht⟩ : ∃ t, 25 - i = t + 1 := ⟨24 - i, by omega⟩
              rw [ht, frst_s] at hz
              rw [if_neg (nI_nlt (by omega) (by omega)), hadM i (by omega), Option.bind_some]
              have hb := hB i
              cases e : hadS (M 1 0) c0 i pa re (fun n => (runS noH (wOf X M h r) 0 n (q, l)).1) with
              | none =>
                rw [e] at hb
                rw [if_pos hb] at hz
                rw [show ansI none = -1 from rfl, if_pos (by decide)]
                exact ⟨_, rfl, by rw [← hz]; rfl⟩
              | some n =>
                rw [e] at hb
                have hn := hadS_lt e (by omega)
                rw [show ansI (some n) = nI n from rfl, if_neg (nI_pos (by omega))]
                by_cases g : first < n
                · rw [if_pos (by rw [hb]; exact decide_eq_true g)] at hz
                  rw [if_neg (nI_ge g (by omega))]
                  exact ⟨_, rfl, by rw [← hz]; rfl⟩
                · rw [if_neg (by rw [hb]; show ¬ decide (first < n) = true; rw [decide_eq_false g]; decide)] at hz
                  rw [if_pos (nI_le (by omega) (by omega)), nI_1]
                  refine hk _ (Or.inr ⟨i + 1, by omega, by omega, rfl, by rw [show 25 - (i + 1) = t from by omega]; exact hz⟩) ?_
                  dsimp only
                  rw [nI_clamp (by omega), nI_clamp (by omega)]
                  omega) h_FU (-1, 0) (Or.inl rfl) (by unfold h_FU; show 30 - _ < 20000; omega)
        rw [u1, u2]
        refine EqC.m ?_
        have a1 : (1 : Int32).toNatClampNeg = 1 := by decide
        obtain ⟨v, v1, v2, v3⟩ := lp_h (body := fX10_wait_L32 (nI h) (nI p) (nI first)) (fun z => ∃ (i : Nat) (N : hMem), 1 ≤ i ∧ i ≤ 25 ∧ kQ M N ∧ ((z = (nI (i - 1), 1, N) ∧ frst bad (25 - i) i = frst bad 24 1) ∨ (z = (nI (i - 1), 0, N) ∧ frst bad 24 1 = some i))) (fun v => v.1 = waitA (frst bad 24 1) ∧ kQ M v.2) (fun z => 60 - 2 * z.1.toNatClampNeg + z.2.1.toNatClampNeg) (by
          rintro k z ⟨i, N, i1, i2, kN, ⟨rfl, hz⟩ | ⟨rfl, hz⟩⟩ hk
          · unfold fX10_wait_L32
            dsimp only
            rw [if_neg (by decide)]
            rcases (by omega : i = 25 ∨ i ≤ 24) with g | g
            · subst g
              rw [if_pos (by decide)]
              exact ⟨_, rfl, by rw [← hz]; rfl, kN⟩
            · obtain ⟨t, ht⟩ : ∃ t, 25 - i = t + 1 := ⟨24 - i, by omega⟩
              rw [ht, frst_s] at hz
              have ei : nI (i - 1) + 1 = nI i := by rw [nI_1]; congr 1; omega
              rw [if_neg (show ¬ (24 : Int32) ≤ nI (i - 1) from nI_ge (b := 24) (by omega) (by decide)), c3a (by omega), show nI (3 * p) + 1 = nI (3 * p + 1) from nI_1 _, show nI (3 * p) + 2 = nI (3 * p + 2) from nI_add _ 2, if_pos (ib_mk (by omega) (by decide)), if_pos (ib_mk (by omega) (by decide)), if_pos (ib_mk (by omega) (by decide)), nI_clamp (by omega), nI_clamp (by omega), nI_clamp (by omega), kN.1 8 (by omega), m0, m1, m2, ei]
              obtain ⟨N2, w1, w2, -⟩ := m_had ok (mm.kQ kN) (by rw [kN.2 39 (by omega) (by omega)]; exact R.hold) (m := i) q1 l1 (by rw [kN.1 6 (by omega)]; exact q2) (by rw [kN.1 7 (by omega)]; exact l2) (c0 := c0) c1 g pp1 e1
              rw [show (wOf X M h r).1 0 = M 1 0 from rfl] at w1
              rw [w1, Option.bind_some]
              dsimp only
              have kN2 := kN.tr w2
              unfold fX10_wait_L99 fX10_wait_L100
              have hb := hB i
              have stop : bad i = true → ∃ r_1, k (nI (i - 1) + 0, 0, N2) = some r_1 ∧ (r_1.1 = waitA (frst bad 24 1) ∧ kQ M r_1.2) := fun hbi => by
                rw [if_pos hbi] at hz
                rw [show nI (i - 1) + 0 = nI (i - 1) from Int32.add_zero _]
                refine hk _ ⟨i, N2, i1, i2, kN2, Or.inr ⟨rfl, hz.symm⟩⟩ ?_
                dsimp only
                have a1 : (1 : Int32).toNatClampNeg = 1 := by decide
                have a0 : (0 : Int32).toNatClampNeg = 0 := by decide
                rw [a1, a0]; omega
              cases e : hadS (M 1 0) c0 i pa re (fun n => (runS noH (wOf X M h r) 0 n (q, l)).1) with
              | none =>
                rw [e] at hb
                rw [show ansI none = -1 from rfl, if_pos rfl, if_pos rfl]
                exact stop hb
              | some n =>
                rw [e] at hb
                have hn := hadS_lt e (by omega)
                rw [show ansI (some n) = nI n from rfl, if_neg (n_m1 (by omega))]
                by_cases gg : first < n
                · rw [if_pos (nI_lt gg (by omega)), if_pos rfl]
                  exact stop (by rw [hb]; exact decide_eq_true gg)
                · rw [if_neg (nI_nlt (by omega) (by omega)), if_neg (by decide), ei]
                  rw [if_neg (by rw [hb]; show ¬ decide (first < n) = true; rw [decide_eq_false gg]; decide)] at hz
                  refine hk _ ⟨i + 1, N2, by omega, by omega, kN2, Or.inl ⟨rfl, by rw [show 25 - (i + 1) = t from by omega]; exact hz⟩⟩ ?_
                  dsimp only
                  rw [nI_clamp (by omega), nI_clamp (by omega)]
                  omega
          · unfold fX10_wait_L32
            dsimp only
            rw [if_pos rfl]
            exact ⟨_, rfl, by rw [hz]; rfl, kN⟩) h_FU (0, 1, M2) ⟨1, M2, by omega, by omega, g2, Or.inl ⟨rfl, rfl⟩⟩ (by show 60 - _ + (1 : Int32).toNatClampNeg < 20000; rw [a1]; omega)
        exact ⟨v, v1, v2, R.keep kx v3.keep⟩
    · simp only [if_pos ha, if_neg hb]
      rw [if_pos trivial]; exact EqC.now R
  · simp only [if_neg ha]
    rw [if_pos trivial]; exact EqC.now R
