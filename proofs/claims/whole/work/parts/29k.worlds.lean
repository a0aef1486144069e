/-! ANOTHER WORLD: a gust or a wall as it is supposed; turned, lull, fence -/
def wW (w : hWd) (t : Nat) (v : Int32) : hWd := (w.1, upd w.2.1 t v, w.2.2)
def wB (w : hWd) (S : Int32) : hWd := (upd w.1 0 S, w.2)
theorem h_up2 (M : hMem) (k j : Nat) (v v' : Int32) : h_up (h_up M k j v) k j v' = h_up M k j v' := by
  funext a i
  unfold h_up
  by_cases h : a = k
  · by_cases h2 : i = j
    · simp only [if_pos h, if_pos h2]
    · simp only [if_pos h, if_neg h2, if_true]
  · simp only [if_neg h]
theorem h_upid (M : hMem) (k j : Nat) (v : Int32) (h : M k j = v) : h_up M k j v = M := by
  funext a i
  unfold h_up
  by_cases h1 : a = k
  · by_cases h2 : i = j
    · rw [if_pos h1]
      rw [if_pos h2, h1, h2, h]
    · rw [if_pos h1]
      rw [if_neg h2, h1]
  · rw [if_neg h1]
theorem wW_ok {w : hWd} (h : okW w) {t : Nat} {v : Int32} (hv : h_ib v 5) : okW (wW w t v) := by
  obtain ⟨h1, h2⟩ := h
  refine ⟨fun j hj => ?_, h2⟩
  show h_ib (upd w.2.1 t v j) 5
  by_cases e : j = t
  · subst e; rw [u_s]; exact hv
  · rw [u_n e]; exact h1 j hj
theorem wB_ok {w : hWd} (h : okW w) (S : Int32) : okW (wB w S) := h
theorem MX.way {w : hWd} {T : Nat} {X : hMem} (h : MX w T X) (t : Nat) (v : Int32) : MX (wW w t v) T (h_up X 45 t v) := by
  obtain ⟨h1, h2, h3, h4, h5, h6, h7, h8, h9, h10⟩ := h
  refine ⟨?_, ?_, ?_, ?_, ?_, fun j hj => ?_, h7, ?_, ?_, ?_⟩
  · rw [m_row (by omega)]; exact h1
  · rw [m_row (by omega)]; exact h2
  · rw [m_row (by omega)]; exact h3
  · rw [m_row (by omega)]; exact h4
  · rw [m_row (by omega)]; exact h5
  · rw [m_row (k := 45) (a := 46) (by omega), m_own]
    refine ⟨?_, (h6 j hj).2⟩
    show upd (X 45) t v j = upd w.2.1 t v j
    by_cases e : j = t
    · subst e; rw [u_s, u_s]
    · rw [u_n e, u_n e]; exact (h6 j hj).1
  · rw [m_row (by omega)]; exact h8
  · rw [m_row (by omega), m_row (by omega)]; exact h9
  · rw [m_row (by omega), m_row (by omega)]; exact h10
theorem wWW (w : hWd) (t : Nat) (v : Int32) : wW (wW w t v) t (w.2.1 t) = w := by
  obtain ⟨a, b, c⟩ := w
  unfold wW
  have : upd (upd b t v) t (b t) = b := by
    funext j
    by_cases e : j = t
    · subst e; rw [u_s]
    · rw [u_n e, u_n e]
  simp only [this]
theorem wBB (w : hWd) (S : Int32) : wB (wB w S) (w.1 0) = w := by
  obtain ⟨a, c⟩ := w
  unfold wB
  have : upd (upd a 0 S) 0 (a 0) = a := by
    funext j
    by_cases e : j = 0
    · subst e; rw [u_s]
    · rw [u_n e, u_n e]
  simp only [this]
theorem MX.wall {w : hWd} {T : Nat} {X : hMem} (h : MX w T X) (S : Int32) : MX (wB w S) T (h_up X 40 0 S) := by
  obtain ⟨h1, h2, h3, h4, h5, h6, h7, h8, h9, h10⟩ := h
  refine ⟨?_, ?_, ?_, ?_, ?_, fun j hj => ?_, h7, ?_, ?_, ?_⟩
  · rw [m_own, u_s]; exact (u_s w.1 0 S).symm
  · rw [m_own, u_n (by omega)]; exact h2.trans (u_n (f := w.1) (k := 0) (x := S) (by omega)).symm
  · rw [m_own, u_n (by omega)]; exact h3.trans (u_n (f := w.1) (k := 0) (x := S) (by omega)).symm
  · rw [m_own, u_n (by omega)]; exact h4
  · rw [m_own, u_n (by omega)]; exact h5
  · rw [m_row (by omega), m_row (by omega)]; exact h6 j hj
  · rw [m_own, u_n (by omega)]; exact h8
  · rw [m_row (by omega), m_row (by omega)]; exact h9
  · rw [m_row (by omega), m_row (by omega)]; exact h10
theorem MM.way {w : hWd} {h : Nat} {c e : Nat → Int32} {M : hMem} (m : MM w h c e M) (t : Nat) (v : Int32) : MM (wW w t v) h c e (h_up M 2 t v) := by
  obtain ⟨h1, h2, h3, h4, h5, ⟨r, h6, h7, h8⟩, h9⟩ := m
  refine ⟨h1, ?_, fun j hj => ?_, ?_, ?_, ⟨r, h6, ?_, ?_⟩, h9⟩
  · rw [m_row (by omega)]; exact h2
  · rw [m_row (k := 2) (a := 3) (by omega), m_own]
    refine ⟨?_, (h3 j hj).2⟩
    show upd (M 2) t v j = upd w.2.1 t v j
    by_cases e : j = t
    · subst e; rw [u_s, u_s]
    · rw [u_n e, u_n e]; exact (h3 j hj).1
  · rw [m_row (by omega)]; exact h4
  · rw [m_row (by omega)]; exact h5
  · rw [m_row (by omega)]; exact h7
  · rw [m_row (by omega), m_row (by omega)]; exact h8
theorem MM.wall {w : hWd} {h : Nat} {c e : Nat → Int32} {M : hMem} (m : MM w h c e M) (S : Int32) : MM (wB w S) h c e (h_up M 1 0 S) := by
  obtain ⟨h1, h2, h3, h4, h5, ⟨r, h6, h7, h8⟩, h9⟩ := m
  refine ⟨h1, fun k hk => ?_, ?_, ?_, ?_, ⟨r, h6, ?_, ?_⟩, h9⟩
  · rw [m_own]
    show upd (M 1) 0 S k = upd w.1 0 S k
    by_cases e : k = 0
    · subst e; rw [u_s, u_s]
    · rw [u_n e, u_n e]; exact h2 k hk
  · rw [m_row (by omega), m_row (by omega)]; exact h3
  · rw [m_row (by omega)]; exact h4
  · rw [m_row (by omega)]; exact h5
  · rw [m_row (by omega)]; exact h7
  · rw [m_row (by omega), m_row (by omega)]; exact h8
def kO (X X' : hMem) : Prop := ∀ a, a < 40 ∨ 55 < a → ¬ (59 ≤ a ∧ a < 80 ∧ a % 4 = 3) → X' a = X a
theorem kO.tr {X Y Z : hMem} (h : kO X Y) (g : kO Y Z) : kO X Z := fun a h1 h2 => (g a h1 h2).trans (h a h1 h2)
theorem kP.O {X Y : hMem} (h : kP X Y) : kO X Y := fun a h1 h2 => h a (by omega) h2
theorem kO.X {X Y : hMem} (h : kO X Y) : keepX X Y := by
  refine ⟨fun a ha => ?_, ?_⟩
  · unfold kX at ha; exact h a (by omega) (by omega)
  · rw [h 30 (by omega) (by omega)]
theorem kO.up (X : hMem) {k : Nat} (hk : 40 ≤ k) (hk2 : k ≤ 55) (j : Nat) (v : Int32) : kO X (h_up X k j v) := fun a h1 _ => m_row (by omega)
theorem had_w {w : hWd} {T h p q l c0 pace reach : Nat} {c e : Nat → Int32} {X N : hMem} (ok : okW w) (mx : MX w T X) (h5 : X 40 5 = nI (stN (q, l))) (hq : q < 32) (hl : l < 3) (mm : MM w h c e N) (h0 : N 0 39 = 0) (n6 : N 6 h = nI q) (n7 : N 7 h = nI l) (hp : p < 4) (c1 : c0 < 32) (p1 : pace ≤ 4) (e1 : reach ≤ 3) (y0 : X (11 + p) 0 = nI c0) (y1 : X (11 + p) 1 = nI pace) (y2 : X (11 + p) 2 = nI reach) (m0 : N 8 (3 * p) = nI c0) (m1 : N 8 (3 * p + 1) = nI pace) (m2 : N 8 (3 * p + 2) = nI reach) : ∃ (o : Option Nat) (X' N' : hMem), fX8_hadBy (11 + p) X = some (ansI o, X') ∧ fX10_hadBy (nI h) (nI p) N = some (ansI o, N') ∧ okO o ∧ kP X X' ∧ kQ N N' ∧ X' 40 = X 40 := by
  obtain ⟨X2, f1, f2, f3⟩ := x_hadBy ok mx (s := (q, l)) h5 hq hl hp c1 p1 e1 y0 y1 y2
  obtain ⟨M2, g1, g2, g3⟩ := m_hadBy ok mm h0 hq hl n6 n7 hp c1 p1 e1 m0 m1 m2
  exact ⟨_, X2, M2, f1, g1, hadS_ok (by omega), fun a h1 h2 => f2 a (by omega) (by omega) h2, g2, f2 40 (by omega) (by omega) (by omega)⟩
theorem stepS_way {w : hWd} {t j : Nat} {v : Int32} (h : j ≠ t) (s : Nat × Nat) : stepS (wW w t v) j s = stepS w j s := by
  unfold stepS
  simp only [show (wW w t v).1 = w.1 from rfl, show (wW w t v).2.2 = w.2.2 from rfl, show (wW w t v).2.1 j = w.2.1 j from u_n h]
theorem runS_way {hl : Nat → Bool} {w : hWd} {t a : Nat} {v : Int32} {s : Nat × Nat} : ∀ {n : Nat}, a + n ≤ t → runS hl (wW w t v) a n s = runS hl w a n s
  | 0, _ => rfl
  | n + 1, h => by
    rw [runS_s, runS_s, runS_way (n := n) (by omega), stepS_way (by omega)]
theorem or_z (x : Int32) : x ||| 0 = x := by
  apply b_ext
  intro i _
  rw [b_or, b_0, Bool.or_false]
theorem eq_turned {X M : hMem} (R : RR X M) (a b c : Int32) : EqC (fX9_turned a b c X) (fX10_turned a b c M) := by
  obtain ⟨H, hH, hx, hm⟩ := R.hats
  unfold fX9_turned fX10_turned
  rw [xe_hat hx (by omega), me_hat hm (by omega), xe_sec, me_in23, xe_sq, me_sq]
  simp only [b01]
  by_cases ha : h_ib a H
  rotate_left
  · simp only [if_neg ha]; exact EqC.now R
  by_cases hb : h_ib b 24
  rotate_left
  · simp only [if_pos ha, if_neg hb]; exact EqC.now R
  by_cases hc : h_ib c 32
  rotate_left
  · simp only [if_pos ha, if_pos hb, if_neg hc]; exact EqC.now R
  simp only [if_pos ha, if_pos hb, if_pos hc]
  obtain ⟨h, h1, h2, rfl⟩ := ib_ex ha
  obtain ⟨t, t1, t2, rfl⟩ := ib_ex hb
  obtain ⟨r, q, l, X1, r1, q1, l1, ok, mm, q2, l2, x1, x2, x3, x4, -, -⟩ := R.ctx hH h1
  rw [x1, Option.bind_some, x3]
  obtain ⟨X2, y1, y2⟩ := x_later ok x2 (a := 0) (b := t) (s := (q, l)) (by omega) (by omega) q1 l1
  rw [Nat.sub_zero] at y1
  have hL := runS_lt (hl := noH) (w := wOf X M h r) (a := 0) (s := (q, l)) q1 l1 t
  rw [show fX8_later (nI (stN (q, l))) 0 (nI t) X1 = _ from y1, Option.bind_some]
  dsimp only
  have oX : kO X X2 := fun a h1 h2 => (y2 a (by omega) h2).trans (x4 a h1)
  have mx2 := x2.kT y2
  have w2 : (wOf X M h r).2.1 = M 2 := rfl
  generalize wOf X M h r = w at *
  refine EqC.of (lp20 (body := fX9_turned_L57 (nI t) c (nI (stN (runS noH w 0 t (q, l))))) (body' := fX10_turned_L45 (nI h) (nI t) c (M 2 (nI t).toNatClampNeg)) 5 (fun i s s' => ∃ (v : Int32) (Y N : hMem), s = (v, nI i, Y) ∧ s' = (v, nI i, N) ∧ kO X Y ∧ MX w r (h_up Y 45 t (w.2.1 t)) ∧ kQ M (h_up N 2 t (M 2 t))) EqQ _ _ ⟨0, X2, M, rfl, rfl, oX, by rw [h_upid _ _ _ _ (mx2.2.2.2.2.2.1 t t1).1]; exact mx2, by rw [h_upid _ _ _ _ rfl]; exact kQ.rf M⟩ (by omega) ?_ ?_)
  · rintro k k' s s' ⟨v, Y, N, rfl, rfl, oY, mY, kN⟩
    unfold fX9_turned_L57 fX10_turned_L45
    dsimp only
    rw [if_pos (show (4 : Int32) < nI 5 from by decide), if_pos (show (4 : Int32) < nI 5 from by decide), if_pos hb, nI_clamp t2]
    exact ⟨_, _, rfl, rfl, rfl, R.keep oY.X kN.keep⟩
  · rintro k k' i s s' hi ⟨v, Y, N, rfl, rfl, oY, mY, kN⟩ hk
    unfold fX9_turned_L57 fX10_turned_L45
    dsimp only
    rw [if_neg (show ¬ (4 : Int32) < nI i from nI_nlt (a := 4) (by omega) (by omega)), if_neg (show ¬ (4 : Int32) < nI i from nI_nlt (a := 4) (by omega) (by omega)), if_pos hb, if_pos hb, nI_clamp t2]
    have hv5 : h_ib (nI i) 5 := ib_mk hi (by omega)
    have mx := mY.way t (nI i)
    rw [h_up2] at mx
    have mN := (mm.kQ kN).way t (nI i)
    rw [h_up2] at mN
    obtain ⟨X3, z1, z2⟩ := x_later (wW_ok ok hv5) mx (a := t) (b := 24) (s := runS noH w 0 t (q, l)) (by omega) (by omega) hL.1 hL.2
    have hL3 := runS_lt (hl := noH) (w := wW w t (nI i)) (a := t) hL.1 hL.2 (24 - t)
    have e0 : h_up N 2 t (nI i) 0 39 = 0 := by
      rw [m_row (by omega)]
      have := kN.2 39 (by omega) (by omega)
      rw [m_row (by omega)] at this
      rw [this]; exact R.hold
    have n6 : h_up N 2 t (nI i) 6 h = nI q := by
      have := kN.1 6 (by omega)
      rw [m_row (by omega)] at this ⊢
      rw [this]; exact q2
    have n7 : h_up N 2 t (nI i) 7 h = nI l := by
      have := kN.1 7 (by omega)
      rw [m_row (by omega)] at this ⊢
      rw [this]; exact l2
    obtain ⟨N3, g1, g2, -⟩ := m_behind (wW_ok ok hv5) mN (n := 24) (by omega) q1 l1 n6 n7
    have hld : hldM (h_up N 2 t (nI i)) = noH := funext fun j => hldM_0 e0 j
    rw [hld] at g1
    rw [show fX8_later (nI (stN (runS noH w 0 t (q, l)))) (nI t) 24 (h_up Y 45 t (nI i)) = _ from z1, Option.bind_some, show fX10_squareBehind (nI h) 24 (h_up N 2 t (nI i)) = _ from g1, Option.bind_some]
    dsimp only
    have er : runS noH (wW w t (nI i)) 0 24 (q, l) = runS noH (wW w t (nI i)) t (24 - t) (runS noH w 0 t (q, l)) := by
      have := runS_add noH (wW w t (nI i)) 0 (q, l) t (24 - t)
      rw [show t + (24 - t) = 24 from by omega, runS_way (t := t) (a := 0) (n := t) (by omega), Nat.zero_add] at this
      exact this
    rw [x_sqS hL3.1 hL3.2, er, nI_1]
    have oY' : kO X X3 := oY.tr ((kO.up Y (by omega) (by omega) t (nI i)).tr z2.P.O)
    have mY' : MX w r (h_up X3 45 t (w.2.1 t)) := by
      have := (mx.kT z2).way t (w.2.1 t)
      rw [wWW] at this
      exact this
    have kN' : kQ M (h_up N3 2 t (M 2 t)) := by
      refine kN.tr ⟨fun a ha => ?_, fun j hj1 hj2 => ?_⟩
      · by_cases e : a = 2
        · subst e
          rw [m_own, m_own, g2.1 2 (by omega) (by omega) (by omega), m_own]
          funext j
          by_cases e : j = t
          · subst e; rw [u_s, u_s]
          · rw [u_n e, u_n e, u_n e]
        · rw [m_row e, m_row e, g2.1 a (by omega) (by omega) (by omega), m_row e]
      · rw [m_row (by omega), m_row (by omega), g2.2 j hj1 hj2, m_row (by omega)]
    by_cases hs : nI (runS noH (wW w t (nI i)) t (24 - t) (runS noH w 0 t (q, l))).1 = c
    · rw [if_pos hs, if_pos hs]
      exact hk _ _ ⟨_, X3, N3, rfl, rfl, oY', mY', kN'⟩
    · rw [if_neg hs, if_neg hs, or_z]
      exact hk _ _ ⟨_, X3, N3, rfl, rfl, oY', mY', kN'⟩
