/-! SAVE -/
theorem frst_none {p : Nat → Bool} : ∀ {n i : Nat}, (∀ j, i ≤ j → j < i + n → p j = false) → frst p n i = none
  | 0, _, _ => rfl
  | n + 1, i, h => by
    rw [frst_s, h i (Nat.le_refl _) (by omega), if_neg (by decide)]
    exact frst_none (fun j h1 h2 => h j (by omega) (by omega))
theorem frst_tail {p : Nat → Bool} : ∀ {a b i : Nat}, (∀ j, i + a ≤ j → j < i + a + b → p j = false) → frst p (a + b) i = frst p a i
  | 0, b, i, h => by rw [Nat.zero_add, frst_none (fun j h1 h2 => h j (by omega) (by omega))]; rfl
  | a + 1, b, i, h => by
    rw [show a + 1 + b = (a + b) + 1 from by omega, frst_s, frst_s]
    by_cases c : p i = true
    · rw [if_pos c, if_pos c]
    · rw [if_neg c, if_neg c]
      exact frst_tail (fun j h1 h2 => h j (by omega) (by omega))
theorem frst_no {p : Nat → Bool} : ∀ {n i : Nat}, frst p n i = none → ∀ j, i ≤ j → j < i + n → p j = false
  | 0, _, _, j, h1, h2 => absurd h2 (by omega)
  | n + 1, i, h, j, h1, h2 => by
    rw [frst_s] at h
    by_cases c : p i = true
    · rw [if_pos c] at h; cases h
    · rw [if_neg c] at h
      by_cases e : j = i
      · subst e; exact eq_false_of_ne_true c
      · exact frst_no h j (by omega) (by omega)
def hdS (w : hWd) (s : Nat × Nat) (f k : Nat) : Nat × Nat := runS (fun t => decide (f ≤ t ∧ t < f + k)) w 0 24 s
def dryB (w : hWd) (s : Nat × Nat) (k f : Nat) : Bool := !bt (w.1 1) (hdS w s f k).1
theorem hdS_late {w : hWd} {s : Nat × Nat} {f k : Nat} (h1 : 24 ≤ f + k) (h2 : f ≤ 24) : hdS w s f k = hdS w s f (24 - f) := by
  unfold hdS
  exact runS_c (fun j hj => by
    have : (f ≤ 0 + j ∧ 0 + j < f + k) ↔ (f ≤ 0 + j ∧ 0 + j < f + (24 - f)) := by omega
    simp only [this])
theorem x_wet {X : hMem} {P : Int32} (hP : X 40 1 = P) {s : Nat × Nat} (h1 : s.1 < 32) (h2 : s.2 < 3) {α : Type} (A B : α) : (if fX8_isWet (nI (stN s)) X = 0 then A else B) = if (!bt P s.1) = true then A else B := by
  unfold fX8_isWet
  rw [x_sqS h1 h2, hP, bit_u _ h1, b01]
  cases bt P s.1 <;> rfl
theorem x_save62 {w : hWd} {T : Nat} {X : hMem} {s : Nat × Nat} (ok : okW w) (mx : MX w T X) (h1 : s.1 < 32) (h2 : s.2 < 3) (h47 : ∀ n, n ≤ 24 → X 47 n = nI (stN (runS noH w 0 n s))) (k54 : Int32 × hMem → Option (Int32 × hMem)) {m : Nat} (hm : m ≤ 24) : ∀ (fuel d j : Nat) (Y : hMem), j + d = 25 - m → d < fuel → kT X Y → ∃ Y', kT X Y' ∧ h_lp (fX9_save_L62 k54 (nI m)) fuel (nI j, Y) = (match frst (dryB w s m) d j with | some f => some (nI (100 * f + m), Y') | none => k54 (nI (m + 1), Y')) := by
  intro fuel
  induction fuel with
  | zero => intro d j Y _ h; exact absurd h (Nat.not_lt_zero _)
  | succ fuel ih =>
    intro d j Y hjd hf kY
    rw [lp_s]
    generalize hgo : h_lp (fX9_save_L62 k54 (nI m)) fuel = go
    rw [hgo] at ih
    unfold fX9_save_L62
    dsimp only
    rw [nI_add, nI_1]
    cases d with
    | zero =>
      rw [if_pos (show (24 : Int32) < nI (j + m) from nI_lt (a := 24) (by omega) (by omega))]
      exact ⟨Y, kY, rfl⟩
    | succ d =>
      rw [if_neg (show ¬ (24 : Int32) < nI (j + m) from nI_nlt (a := 24) (by omega) (by omega)), if_pos (ib_mk (by omega) (by omega)), nI_clamp (by omega), kY 47 (by omega) (by omega), h47 j (by omega)]
      have hL := runS_lt (hl := noH) (w := w) (a := 0) h1 h2 j
      obtain ⟨Z, z1, z2⟩ := x_later ok (mx.kT kY) (a := j + m) (b := 24) (s := runS noH w 0 j s) (by omega) (by omega) hL.1 hL.2
      have hL2 := runS_lt (hl := noH) (w := w) (a := j + m) hL.1 hL.2 (24 - (j + m))
      have eh : hdS w s j m = runS noH w (j + m) (24 - (j + m)) (runS noH w 0 j s) := by
        unfold hdS
        rw [run_held, Nat.min_eq_right (by omega), Nat.min_eq_right (by omega)]
      rw [show fX8_later (nI (stN (runS noH w 0 j s))) (nI (j + m)) 24 Y = _ from z1, Option.bind_some]
      dsimp only
      rw [x_wet ((mx.kT (kY.tr z2)).2.1) hL2.1 hL2.2, frst_s]
      have ed : dryB w s m j = !bt (w.1 1) (runS noH w (j + m) (24 - (j + m)) (runS noH w 0 j s)).1 := by unfold dryB; rw [eh]
      rw [ed]
      by_cases c : (!bt (w.1 1) (runS noH w (j + m) (24 - (j + m)) (runS noH w 0 j s)).1) = true
      · rw [if_pos c, if_pos c, show (100 : Int32) * nI j = nI (100 * j) from pk_mul 100 j, nI_add]
        exact ⟨Z, kY.tr z2, rfl⟩
      · rw [if_neg c, if_neg c, nI_1]
        exact ih d (j + 1) Z (by omega) (by omega) (kY.tr z2)
def kH (M M' : hMem) : Prop := (∀ a, a ≠ 0 → a ≠ 19 → a ≠ 20 → M' a = M a) ∧ (∀ j, j ≠ 36 → j ≠ 37 → j ≠ 38 → j ≠ 39 → M' 0 j = M 0 j) ∧ M' 0 39 = 0
theorem kH.tr {X Y Z : hMem} (h : kH X Y) (g : kH Y Z) : kH X Z := ⟨fun a h1 h2 h3 => (g.1 a h1 h2 h3).trans (h.1 a h1 h2 h3), fun j h1 h2 h3 h4 => (g.2.1 j h1 h2 h3 h4).trans (h.2.1 j h1 h2 h3 h4), g.2.2⟩
theorem kS.H {M M' : hMem} (k : kS M M') (h : M 0 39 = 0) : kH M M' := ⟨k.1, fun j h1 h2 _ _ => k.2 j h1 h2, by rw [k.2 39 (by omega) (by omega)]; exact h⟩
theorem MM.kH {w : hWd} {h : Nat} {c e : Nat → Int32} {M M' : hMem} (m : MM w h c e M) (k : kH M M') : MM w h c e M' := m.ext (fun a h1 h2 => k.1 a (by omega) (by omega) (by omega)) (k.2.1 15 (by omega) (by omega) (by omega) (by omega))
theorem kH.keep {M M' : hMem} (k : kH M M') (h : M 0 39 = 0) : keepM M M' := by
  refine ⟨fun a ha => ?_, fun j hj => ?_⟩
  · unfold kM at ha; exact k.1 a (by omega) (by omega) (by omega)
  · unfold kM0 at hj
    by_cases e : j = 39
    · rw [e, k.2.2, h]
    · exact k.2.1 j (by omega) (by omega) (by omega) e
theorem m_save38 {w : hWd} {h q l : Nat} {c e : Nat → Int32} {M : hMem} (ok : okW w) (mm : MM w h c e M) (hq : q < 32) (hl : l < 3) (h6 : M 6 h = nI q) (h7 : M 7 h = nI l) (k30 : Int32 × hMem → Option (Int32 × hMem)) {m : Nat} (hm : m ≤ 24) : ∀ (fuel d j : Nat) (N : hMem), j + d = 24 → d < fuel → kH M N → ∃ N', kH M N' ∧ h_lp (fX10_save_L38 k30 (nI h) (nI m)) fuel (nI j, N) = (match frst (dryB w (q, l) m) d j with | some f => some (nI (100 * f + m), N') | none => k30 (nI (m + 1), N')) := by
  intro fuel
  induction fuel with
  | zero => intro d j Y _ h; exact absurd h (Nat.not_lt_zero _)
  | succ fuel ih =>
    intro d j N hjd hf kN
    rw [lp_s]
    generalize hgo : h_lp (fX10_save_L38 k30 (nI h) (nI m)) fuel = go
    rw [hgo] at ih
    unfold fX10_save_L38
    dsimp only
    rw [nI_1]
    cases d with
    | zero =>
      rw [if_pos (show (24 : Int32) ≤ nI j from nI_le (a := 24) (by omega) (by omega))]
      exact ⟨N, kN, rfl⟩
    | succ d =>
      rw [if_neg (show ¬ (24 : Int32) ≤ nI j from nI_ge (b := 24) (by omega) (by omega))]
      obtain ⟨M2, g1, g2, g3, g4⟩ := m_sqHeld ok (mm.kH kN) (n := 24) (f := j) (k := m) (by omega) hq hl (by rw [kN.1 6 (by omega) (by omega) (by omega)]; exact h6) (by rw [kN.1 7 (by omega) (by omega) (by omega)]; exact h7) (by omega) (by omega)
      have k2 : kH M M2 := kN.tr ⟨g2, g3, g4⟩
      have hL := runS_lt (hl := fun t => decide (j ≤ t ∧ t < j + m)) (w := w) (a := 0) (s := (q, l)) hq hl 24
      rw [show fX10_squareHeld (nI h) 24 (nI j) (nI m) N = _ from g1, Option.bind_some]
      dsimp only
      rw [me_has1 hL.1, Option.bind_some, b01, (mm.kH k2).2.1 1 (by omega), frst_s]
      have ed : dryB w (q, l) m j = !bt (w.1 1) (runS (fun t => decide (j ≤ t ∧ t < j + m)) w 0 24 (q, l)).1 := rfl
      rw [ed]
      cases c : bt (w.1 1) (runS (fun t => decide (j ≤ t ∧ t < j + m)) w 0 24 (q, l)).1
      · rw [if_neg (by decide), if_pos (show (!false) = true from rfl), show (100 : Int32) * nI j = nI (100 * j) from pk_mul 100 j, nI_add]
        exact ⟨M2, k2, rfl⟩
      · rw [if_pos rfl, if_neg (show ¬ (!true) = true from by decide), nI_1]
        exact ih d (j + 1) M2 (by omega) (by omega) k2
theorem eq_save {X M : hMem} (R : RR X M) (a : Int32) : EqC (fX9_save a X) (fX10_save a M) := by
  obtain ⟨H, hH, hx, hm⟩ := R.hats
  unfold fX9_save fX10_save
  rw [xe_hat hx (by omega), me_hat hm (by omega), b01, b01]
  by_cases ha : h_ib a H
  rotate_left
  · rw [if_neg ha, if_neg ha]; exact EqC.now R
  rw [if_pos ha, if_pos ha]
  obtain ⟨h, hh, hh2, rfl⟩ := ib_ex ha
  obtain ⟨r, q, l, X1, r1, q1, l1, ok, mm, q2, l2, x1, x2, x3, x4, -, -⟩ := R.ctx hH hh
  obtain ⟨X2, f1, f2, f3⟩ := x_follow ok x2 (a := 47) (Or.inl rfl) x3 q1 l1
  obtain ⟨M2, g1, g2, -, -⟩ := m_behind ok mm (n := 24) (by omega) q1 l1 q2 l2
  have hld : hldM M = noH := funext fun j => hldM_0 R.hold j
  rw [hld] at g1
  have hL := runS_lt (hl := noH) (w := wOf X M h r) (a := 0) (s := (q, l)) q1 l1 24
  have kx : kP X1 X2 := fun a h1 h2 => f2 a (by omega) (by omega) h2
  have mx2 := x2.kP kx
  rw [x1, Option.bind_some, f1, Option.bind_some, show fX10_squareBehind (nI h) 24 M = _ from g1, Option.bind_some, f3 24 (by omega), x_wet mx2.2.1 hL.1 hL.2]
  dsimp only
  rw [me_has1 hL.1, Option.bind_some, b01, (mm.kS g2).2.1 1 (by omega)]
  have oX : kO X X2 := fun a h1 h2 => (kx a (by omega) h2).trans (x4 a h1)
  have k2 := g2.H R.hold
  generalize wOf X M h r = w at *
  cases cw : bt (w.1 1) (runS noH w 0 24 (q, l)).1
  · rw [if_pos (show (!false) = true from rfl), if_neg (by decide)]
    exact EqC.now (R.keep oX.X g2.keep)
  rw [if_neg (show ¬ (!true) = true from by decide), if_pos rfl]
  refine EqC.of (lpp (body := fX9_save_L54) (body' := fX10_save_L30 (nI h)) 25 (fun i z z' => ∃ (Y N : hMem), z = (nI i, Y) ∧ z' = (nI i, N) ∧ kT X2 Y ∧ kH M N ∧ 1 ≤ i ∧ ∀ k f, 1 ≤ k → k < i → f + k ≤ 24 → dryB w (q, l) k f = false) EqQ ?_ ?_ h_FU 1 _ _ (by omega) ⟨X2, M2, rfl, rfl, kT.rf X2, k2, by omega, fun k f h1 h2 => absurd h2 (by omega)⟩ (by unfold h_FU; omega))
  · rintro k k' z z' ⟨Y, N, rfl, rfl, kY, kN, -, -⟩
    unfold fX9_save_L54 fX10_save_L30
    dsimp only
    rw [if_pos (show (24 : Int32) < nI 25 from by decide), if_pos (show (24 : Int32) < nI 25 from by decide)]
    exact ⟨_, _, rfl, rfl, rfl, R.keep (oX.tr kY.P.O).X (kN.keep R.hold)⟩
  · rintro k k' m z z' hm ⟨Y, N, rfl, rfl, kY, kN, h1m, hist⟩ hk
    unfold fX9_save_L54 fX10_save_L30
    dsimp only
    rw [if_neg (show ¬ (24 : Int32) < nI m from nI_nlt (a := 24) (by omega) (by omega)), if_neg (show ¬ (24 : Int32) < nI m from nI_nlt (a := 24) (by omega) (by omega))]
    obtain ⟨Y', y1, y2⟩ := x_save62 ok mx2 q1 l1 f3 k (m := m) (by omega) h_FU (25 - m) 0 Y (by omega) (by unfold h_FU; omega) kY
    obtain ⟨N', n1, n2⟩ := m_save38 ok mm q1 l1 q2 l2 k' (m := m) (by omega) h_FU 24 0 N (by omega) (by unfold h_FU; omega) kN
    have et : frst (dryB w (q, l) m) 24 0 = frst (dryB w (q, l) m) (25 - m) 0 := by
      have := frst_tail (p := dryB w (q, l) m) (a := 25 - m) (b := m - 1) (i := 0) (fun j j1 j2 => by
        have := hist (24 - j) j (by omega) (by omega) (by omega)
        unfold dryB at this ⊢
        rw [hdS_late (by omega) (by omega)]
        exact this)
      rw [show 25 - m + (m - 1) = 24 from by omega] at this
      exact this
    rw [show h_lp (fX9_save_L62 k (nI m)) h_FU (0, Y) = _ from y2, show h_lp (fX10_save_L38 k' (nI h) (nI m)) h_FU (0, N) = _ from n2, et]
    cases hc : frst (dryB w (q, l) m) (25 - m) 0 with
    | some f => exact ⟨_, _, rfl, rfl, rfl, R.keep (oX.tr y1.P.O).X (n1.keep R.hold)⟩
    | none =>
      refine hk _ _ ⟨Y', N', rfl, rfl, y1, n1, by omega, fun k f k1 k2 k3 => ?_⟩
      by_cases e : k = m
      · subst e
        exact frst_no hc f (by omega) (by omega)
      · exact hist k f k1 (by omega) k3
