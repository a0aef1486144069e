/-! RUN -/
def vt (r : Nat → Int32) (M : hMem) : hMem := fun a => if a = 8 then r else M a
theorem vt_n (r : Nat → Int32) (M : hMem) {a : Nat} (h : a ≠ 8) : vt r M a = M a := if_neg h
theorem vt_s (r : Nat → Int32) (M : hMem) : vt r M 8 = r := if_pos rfl
theorem vt_c {r : Nat → Int32} {M M' : hMem} {a : Nat} (h : a ≠ 8 → M' a = M a) : vt r M' a = vt r M a := by
  by_cases e : a = 8
  · subst e; rw [vt_s, vt_s]
  · rw [vt_n r M' e, vt_n r M e]; exact h e
theorem wOf_vt (X M : hMem) (r8 : Nat → Int32) (h r : Nat) : wOf X (vt r8 M) h r = wOf X M h r := by
  unfold wOf
  simp (disch := omega) only [vt_n]
theorem MM.vt {w : hWd} {h : Nat} {c e : Nat → Int32} {r8 : Nat → Int32} {M : hMem} (m : MM w h c e (vt r8 M)) : MM w h c e M := by
  obtain ⟨h1, h2, h3, h4, h5, ⟨r, h6, h7, h8⟩, h9⟩ := m
  simp (disch := omega) only [vt_n] at h2 h3 h4 h5 h7 h8
  exact ⟨h1, h2, h3, h4, h5, ⟨r, h6, h7, h8⟩, h9⟩
theorem passes8 {X M : hMem} {r8 : Nat → Int32} (R : RR X (vt r8 M)) {H n h0 r0 q0 l0 : Nat} (hH : H ≤ 4) (hx : X 1 5 = nI H) (hm : M 0 3 = nI H) (hn : n ≤ 24) (hh0 : h0 < H) (hr0 : r0 < 6) (m15 : M 0 15 = nI r0) (q0l : q0 < 32) (l0l : l0 < 3) (h6 : M 6 h0 = nI q0) (h7 : M 7 h0 = nI l0) : ∃ X' M', fX9_letPass (nI n) X = some X' ∧ fX10_passes (nI n) M = some M' ∧ RR X' (vt r8 M') ∧ X' 1 5 = nI H ∧ M' 0 3 = nI H ∧ M' 8 = M 8 ∧ M' 6 h0 = nI (runS noH (wOf X M h0 r0) 0 n (q0, l0)).1 := by
  unfold fX9_letPass fX10_passes
  obtain ⟨r, r', g1, g2, g3⟩ := lp20 (body := fX9_letPass_L2 (nI n)) (body' := fX10_passes_L2 (nI n)) H (fun i s s' => ∃ X' M', s = (nI i, X') ∧ s' = (nI i, M') ∧ RR X' (vt r8 M') ∧ X' 1 5 = nI H ∧ M' 0 3 = nI H ∧ M' 8 = M 8 ∧ (∀ a, 56 ≤ a → a < 80 → a % 4 ≠ 3 → X' a = X a) ∧ (∀ a, 1 ≤ a → a ≤ 5 → M' a = M a) ∧ M' 0 15 = M 0 15 ∧ (i ≤ h0 → M' 6 h0 = M 6 h0 ∧ M' 7 h0 = M 7 h0) ∧ (h0 < i → M' 6 h0 = nI (runS noH (wOf X M h0 r0) 0 n (q0, l0)).1)) (fun r r' => RR r (vt r8 r') ∧ r 1 5 = nI H ∧ r' 0 3 = nI H ∧ r' 8 = M 8 ∧ r' 6 h0 = nI (runS noH (wOf X M h0 r0) 0 n (q0, l0)).1) (0, X) (0, M) ⟨X, M, rfl, rfl, R, hx, hm, rfl, fun _ _ _ _ => rfl, fun _ _ _ => rfl, rfl, fun _ => ⟨rfl, rfl⟩, fun h => absurd h (Nat.not_lt_zero _)⟩ (by omega) (by
    rintro k k' s s' ⟨X', M', rfl, rfl, R', hx', hm', e8, ex, em, e15, eb, ea⟩
    unfold fX9_letPass_L2 fX10_passes_L2
    dsimp only
    simp only [hx', hm']
    rw [if_pos (nI_le (Nat.le_refl _) (by omega)), if_pos (nI_le (Nat.le_refl _) (by omega))]
    exact ⟨_, _, rfl, rfl, R', hx', hm', e8, ea hh0⟩) (by
    rintro k k' i s s' hi ⟨X', M', rfl, rfl, R', hx', hm', e8, ex, em, e15, eb, ea⟩ hk
    unfold fX9_letPass_L2 fX10_passes_L2
    dsimp only
    simp only [hx', hm']
    rw [if_neg (nI_ge hi (by omega)), if_neg (nI_ge hi (by omega))]
    obtain ⟨r, q, l, X1, r1, q1, l1, ok, mm, q2, l2, x1, x2, x3, x4, m15', -⟩ := R'.ctx hH hi
    rw [wOf_vt] at ok mm x2
    rw [vt_n r8 M' (by omega)] at q2 l2 m15'
    have mm' := mm.vt
    have h39 : M' 0 39 = 0 := by have := R'.hold; rw [vt_n r8 M' (by omega)] at this; exact this
    obtain ⟨X2, y1, y2⟩ := x_later ok x2 (a := 0) (b := n) (s := (q, l)) (by omega) (by omega) q1 l1
    obtain ⟨M2, z1, z2, z3, z4⟩ := m_behind ok mm' (n := n) (by omega) q1 l1 q2 l2
    rw [x1, Option.bind_some, x3, show fX8_later (nI (stN (q, l))) 0 (nI n) X1 = _ from y1, z1, Option.bind_some, Option.bind_some, if_pos (ib_mk (by omega) (by decide)), if_pos (ib_mk (by omega) (by decide)), if_pos (ib_mk (by omega) (by decide)), nI_clamp (by omega)]
    dsimp only
    have hL := runS_lt (hl := noH) (w := wOf X' M' i r) (a := 0) (s := (q, l)) q1 l1 n
    have hld : hldM M' = noH := funext fun j => hldM_0 h39 j
    rw [hld] at z3 z4 ⊢
    rw [Nat.sub_zero, nI_1]
    have e37 : (h_up M2 6 i (nI (runS noH (wOf X' M' i r) 0 n (q, l)).1)) 0 37 = nI (runS noH (wOf X' M' i r) 0 n (q, l)).2 := by rw [m_row (by omega)]; exact z4
    rw [e37]
    have eh : i = h0 → runS noH (wOf X' M' i r) 0 n (q, l) = runS noH (wOf X M h0 r0) 0 n (q0, l0) := fun e => by
      subst e
      have er : r = r0 := by
        have h1 := m15'
        rw [e15, m15] at h1
        exact ((nI_eq (by omega) (by omega)).mp h1).symm
      subst er
      obtain ⟨eb1, eb2⟩ := eb (Nat.le_refl _)
      have eq : q = q0 := by
        have h1 := q2
        rw [eb1, h6] at h1
        exact ((nI_eq (by omega) (by omega)).mp h1).symm
      have el : l = l0 := by
        have h1 := l2
        rw [eb2, h7] at h1
        exact ((nI_eq (by omega) (by omega)).mp h1).symm
      subst eq el
      have ew : wOf X' M' i r = wOf X M i r := by
        unfold wOf
        rw [em 1 (by omega) (by omega), em 2 (by omega) (by omega), em 3 (by omega) (by omega), em 4 (by omega) (by omega), em 5 (by omega) (by omega), ex _ (by omega) (by omega) (by omega), ex _ (by omega) (by omega) (by omega)]
      rw [ew]
    generalize runS noH (wOf X' M' i r) 0 n (q, l) = z at hL eh ⊢
    have px : ∀ a, a < 40 ∨ 55 < a → ¬ (59 ≤ a ∧ a < 80 ∧ a % 4 = 3) → X2 a = X' a := fun a h1 h2 => by rw [y2 a (by omega) h2, x4 a h1]
    have pm := z2.1
    have pN : ∀ a, a ≠ 0 → a ≠ 6 → a ≠ 7 → a ≠ 19 → a ≠ 20 → (h_up (h_up M2 6 i (nI z.1)) 7 i (nI z.2)) a = M' a := fun a a0 a6 a7 a19 a20 => by
      rw [m_row a7, m_row a6]; exact pm a a0 a19 a20
    have pN0 : ∀ j, j ≠ 36 → j ≠ 37 → (h_up (h_up M2 6 i (nI z.1)) 7 i (nI z.2)) 0 j = M' 0 j := fun j j1 j2 => by
      rw [m_row (by omega), m_row (by omega)]; exact z2.2 j j1 j2
    have pN6 : ∀ u, (h_up (h_up M2 6 i (nI z.1)) 7 i (nI z.2)) 6 u = if u = i then nI z.1 else M' 6 u := fun u => by
      rw [m_row (by omega), m_own, u_e, pm 6 (by omega) (by omega) (by omega)]
    have pN7 : ∀ u, (h_up (h_up M2 6 i (nI z.1)) 7 i (nI z.2)) 7 u = if u = i then nI z.2 else M' 7 u := fun u => by
      rw [m_own, u_e, m_row (by omega), pm 7 (by omega) (by omega) (by omega)]
    generalize h_up (h_up M2 6 i (nI z.1)) 7 i (nI z.2) = N at *
    refine hk _ _ ⟨_, N, rfl, rfl, R'.now ?_ ?_ ?_ ?_ ?_, ?_, ?_, ?_, ?_, ?_, ?_, ?_, ?_⟩
    · intro a ka h2
      unfold kX at ka
      rw [m_row (by omega)]; exact px a (by omega) (by omega)
    · rw [m_row (by omega)]; rw [px 30 (by omega) (by omega)]
    · intro a ka h2
      unfold kM at ka
      exact vt_c (fun e => pN a (by omega) (by omega) (by omega) (by omega) (by omega))
    · intro j hj h3 h8 h15
      unfold kM0 at hj
      rw [vt_n _ _ (by omega), vt_n _ _ (by omega)]; exact pN0 j (by omega) (by omega)
    · intro T _ _ _ nn
      refine gNow_h nn ?_ ?_ ?_ ?_
      · intro a h1 h2 h3; rw [m_row (by omega)]; exact px a (by omega) (by omega)
      · intro a h1 h2 h3; exact vt_c (fun e => pN a (by omega) (by omega) (by omega) (by omega) (by omega))
      · intro j hj
        unfold kM0 at hj
        rw [vt_n _ _ (by omega), vt_n _ _ (by omega)]; exact pN0 j (by omega) (by omega)
      · intro u hu
        have ho := nn.2.2.1 u hu
        dsimp only at ho
        simp (disch := omega) only [vt_n] at ho ⊢
        rw [pN 4 (by omega) (by omega) (by omega) (by omega) (by omega), pN 5 (by omega) (by omega) (by omega) (by omega) (by omega), pN6, pN7]
        by_cases e : u = i
        · rw [e] at ho ⊢
          rw [m_own, u_n (by omega), u_n (by omega), u_s, if_pos rfl, if_pos rfl, px (7 + i) (by omega) (by omega)]
          refine ⟨ho.1, ho.2.1, ?_, ho.2.2.2.1, ho.2.2.2.2.1, ib_mk hL.1 (by decide), ib_mk hL.2 (by decide)⟩
          rw [show (32 : Int32) = nI 32 from rfl, pk_mul, nI_add]
          congr 1
          show 32 * z.2 + z.1 = _
          omega
        · rw [m_row (by omega), if_neg e, if_neg e, px (7 + u) (by omega) (by omega)]
          exact ho
    · rw [m_row (by omega), px 1 (by omega) (by omega)]; exact hx'
    · rw [pN0 3 (by omega) (by omega)]; exact hm'
    · rw [pN 8 (by omega) (by omega) (by omega) (by omega) (by omega)]; exact e8
    · intro a h1 h2 h3; rw [m_row (by omega), px a (by omega) (by omega)]; exact ex a h1 h2 h3
    · intro a h1 h2; rw [pN a (by omega) (by omega) (by omega) (by omega) (by omega)]; exact em a h1 h2
    · rw [pN0 15 (by omega) (by omega)]; exact e15
    · intro h; rw [pN6, pN7, if_neg (by omega), if_neg (by omega)]; exact eb (by omega)
    · intro h
      rw [pN6]
      by_cases e : h0 = i
      · rw [if_pos e, eh e.symm]
      · rw [if_neg e]; exact ea (by omega))
  exact ⟨r, r', g1, g2, g3⟩
theorem eq_remove {X M : hMem} (R : RR X M) {H h : Nat} (hH : H ≤ 4) (hx : X 1 5 = nI H) (hm : M 0 3 = nI H) (hh : h < H) (v : Int32) : ∃ X' M', fX7_removeHat (nI h) X = some X' ∧ h_lp (fX10_run_L47 v) h_FU (nI h, M) = some (v, M') ∧ RR X' M' := by
  unfold fX7_removeHat
  obtain ⟨r, r', g1, g2, g3, g4⟩ := lpp (body := fX7_removeHat_L2) (body' := fX10_run_L47 v) (H - 1) (fun i z z' => ∃ X' M', z = (nI i, X') ∧ z' = (nI i, M') ∧ RR X' M' ∧ X' 1 5 = nI H ∧ M' 0 3 = nI H) (fun r r' => r'.1 = v ∧ RR r r'.2) (by
    rintro k k' z z' ⟨X', M', rfl, rfl, R', hx', hm'⟩
    unfold fX7_removeHat_L2 fX10_run_L47
    dsimp only
    simp only [hx', hm', nI_1, show H - 1 + 1 = H from by omega]
    rw [if_pos (nI_le (Nat.le_refl _) (by omega)), if_pos (nI_le (Nat.le_refl _) (by omega))]
    refine ⟨_, _, rfl, rfl, rfl, R'.now ?_ ?_ ?_ ?_ ?_⟩
    · intro q _ h2; simp (disch := omega) only [m_row]
    · simp (disch := omega) only [m_row]
    · intro q _ h2; simp (disch := omega) only [m_row]
    · intro j hj h3 _ _; simp (disch := omega) only [m_own, u_n]
    · intro T _ _ _ n
      refine gNow_n n ?_ ?_ ?_ ?_ ?_
      · intro q _ h2; simp (disch := omega) only [m_row]
      · intro q _ h2; simp (disch := omega) only [m_row]
      · simp (disch := omega) only [m_own, u_s, nI_sub1 (show 1 ≤ H by omega)]; exact ⟨rfl, ib_mk (by omega) (by omega)⟩
      · simp (disch := omega) only [m_own, u_n]; exact n.2.2.2.2.2.1
      · simp (disch := omega) only [m_own, u_n]; exact n.2.2.2.2.2.2) (by
    rintro k k' i z z' hi ⟨X', M', rfl, rfl, R', hx', hm'⟩ hk
    unfold fX7_removeHat_L2 fX10_run_L47 fX10_run_L106 fX2_become
    dsimp only
    simp only [hx', hm', nI_1]
    rw [if_neg (nI_ge (by omega) (by omega)), if_neg (nI_ge (by omega) (by omega))]
    have i4 : h_ib (nI i) 4 := ib_mk (by omega) (by omega)
    have j4 : h_ib (nI (i + 1)) 4 := ib_mk (by omega) (by omega)
    simp only [if_pos i4, if_pos j4, nI_clamp (show i < 2 ^ 31 by omega), nI_clamp (show i + 1 < 2 ^ 31 by omega), show h_isB hYx (7 + i) 2 0 = true from ((img_isB 1 (Or.inl rfl)).2 i (by omega)).1, show h_isB hYx (7 + (i + 1)) 2 0 = true from ((img_isB 1 (Or.inl rfl)).2 (i + 1) (by omega)).1, if_true, Option.bind_some]
    simp (disch := omega) only [m_row]
    refine hk _ _ ⟨_, _, rfl, rfl, R'.now ?_ ?_ ?_ ?_ ?_, ?_, ?_⟩
    · intro q _ h2; simp (disch := omega) only [m_row]
    · simp (disch := omega) only [m_row]
    · intro q _ h2; simp (disch := omega) only [m_row]
    · intro j hj h3 _ _; simp (disch := omega) only [m_row]
    · intro T _ _ _ n
      refine gNow_h n ?_ ?_ ?_ ?_
      · intro q _ _ _; simp (disch := omega) only [m_row]
      · intro q _ _ _; simp (disch := omega) only [m_row]
      · intro j hj; simp (disch := omega) only [m_row]
      · intro u hu
        have h1 := n.2.2.1 u hu
        have h2 := n.2.2.1 (i + 1) (by omega)
        dsimp only at h1 h2
        simp (disch := omega) only [m_row, m_own]
        by_cases e : u = i
        · subst e
          simp (disch := omega) only [m_own, u_s, u_n]
          exact h2
        · simp (disch := omega) only [m_row, u_n]
          exact h1
    · simp (disch := omega) only [m_row]; exact hx'
    · simp (disch := omega) only [m_row]; exact hm') h_FU h (nI h, X) (nI h, M) (by omega) ⟨X, M, rfl, rfl, R, hx, hm⟩ (by unfold h_FU; omega)
  exact ⟨r, r'.2, g1, by rw [g2, ← g3], g4⟩
theorem eq_run {X M : hMem} (R : RR X M) (a b : Int32) : EqC (fX9_run a b X) (fX10_run a b M) := by
  obtain ⟨H, hH, hx, hm⟩ := R.hats
  obtain ⟨C, hC, cx, cm⟩ := R.cats
  unfold fX9_run fX10_run
  rw [xe_hat hx (by omega), xe_cat cx (by omega), b01, b01, there_m hm cm (by omega) (by omega)]
  by_cases ha : h_ib a H
  rotate_left
  · simp only [if_neg ha, if_true]; exact EqC.now R
  by_cases hb : h_ib b C
  rotate_left
  · simp only [if_pos ha, if_neg hb, if_true]; exact EqC.now R
  simp only [if_pos ha, if_pos hb]
  rw [if_neg (show ¬ (1 : Int32) = 0 from by decide)]
  obtain ⟨h, hh, h2, rfl⟩ := ib_ex ha
  obtain ⟨p, p1, p2, rfl⟩ := ib_ex hb
  obtain ⟨r, q, l, X1, r1, q1, l1, ok, mm, q2, l2, x1, x2, x3, x4, m15, -⟩ := R.ctx hH hh
  obtain ⟨c0, pa, re, c1, pp1, e1, m0, m1, m2, y0, y1, y2⟩ := R.cctx (p := p) (by omega)
  have hp4 : p < 4 := by omega
  obtain ⟨X2, f1, f2, f3⟩ := x_hadBy ok x2 (s := (q, l)) x3 q1 l1 hp4 c1 pp1 e1 (by rw [x4 _ (by omega)]; exact y0) (by rw [x4 _ (by omega)]; exact y1) (by rw [x4 _ (by omega)]; exact y2)
  obtain ⟨M2, g1, g2, g3⟩ := m_hadBy ok mm R.hold q1 l1 q2 l2 hp4 c1 pp1 e1 m0 m1 m2
  unfold fX9_hadNow
  rw [x1, Option.bind_some, if_pos (ib_mk hp4 (by decide))]
  simp only [nI_clamp p2, nI_clamp h2]
  rw [f1, Option.bind_some, g1]
  simp only [Option.bind_some]
  have oX : kO X X2 := fun a h1 h2 => (f2 a (by omega) (by omega) h2).trans (x4 a h1)
  have R2 := R.keep oX.X g2.keep
  have oo := hadS_ok (W := (wOf X M h r).1 0) (c0 := c0) (m := 0) (pace := pa) (reach := re) (sq := fun n => (runS noH (wOf X M h r) 0 n (q, l)).1) (by omega)
  have ol := fun n hn => hadS_lt (W := (wOf X M h r).1 0) (c0 := c0) (m := 0) (pace := pa) (reach := re) (sq := fun n => (runS noH (wOf X M h r) 0 n (q, l)).1) (n := n) hn (by omega)
  generalize hadS ((wOf X M h r).1 0) c0 0 pa re (fun n => (runS noH (wOf X M h r) 0 n (q, l)).1) = o at *
  rw [ans_ge oo, ans_m1 oo]
  cases o with
  | none =>
    rw [if_pos rfl, if_pos rfl]; exact EqC.now R2
  | some n =>
    rw [if_neg (fun q => (by cases q)), if_neg (fun q => (by cases q)), show (3 : Int32) * nI p = nI (3 * p) from pk_mul 3 p, if_pos (show h_ib (nI (3 * p)) 12 from ib_mk (by omega) (by omega)), nI_clamp (show 3 * p < 2 ^ 31 by omega)]
    obtain ⟨g36, -⟩ := g3 n rfl
    have hL := runS_lt (hl := noH) (w := wOf X M h r) (a := 0) (s := (q, l)) q1 l1 n
    rw [g36]
    have er8 : RR X2 (vt (M2 8) (h_up M2 8 (3 * p) (nI (runS noH (wOf X M h r) 0 n (q, l)).1))) := by
      have : vt (M2 8) (h_up M2 8 (3 * p) (nI (runS noH (wOf X M h r) 0 n (q, l)).1)) = M2 := by
        funext a
        by_cases e : a = 8
        · subst e; rw [vt_s]
        · rw [vt_n _ _ e, m_row e]
      rw [this]; exact R2
    have ew : wOf X2 (h_up M2 8 (3 * p) (nI (runS noH (wOf X M h r) 0 n (q, l)).1)) h r = wOf X M h r := by
      unfold wOf
      simp (disch := omega) only [m_row]
      rw [g2.1 1 (by omega), g2.1 2 (by omega), g2.1 3 (by omega), g2.1 4 (by omega), g2.1 5 (by omega), oX _ (by omega) (by omega), oX _ (by omega) (by omega)]
    obtain ⟨X3, M3, p1', p2', R3, hx3, hm3, e8, e6⟩ := passes8 er8 (H := H) (n := n) (h0 := h) (r0 := r) (q0 := q) (l0 := l) hH (by rw [oX 1 (by omega) (by omega)]; exact hx) (by rw [m_row (by omega), g2.2 3 (by omega) (by omega)]; exact hm) (by have := ol n rfl; omega) hh r1 (by rw [m_row (by omega), g2.2 15 (by omega) (by omega)]; exact m15) q1 l1 (by rw [m_row (by omega), g2.1 6 (by omega)]; exact q2) (by rw [m_row (by omega), g2.1 7 (by omega)]; exact l2)
    rw [ew] at e6
    obtain ⟨q', l', q1', l1', e6', e7', e5'⟩ := R3.sqE (h := h) (by omega)
    rw [vt_n _ _ (by omega)] at e6'
    show EqC ((fX9_letPass (nI n) X2).bind _) ((fX10_passes (nI n) _).bind _)
    rw [p1', p2', Option.bind_some, Option.bind_some, if_pos (ib_mk (by omega) (by omega)), e5', x_sqS (s := (q', l')) q1' l1', ← e6', e6]
    have RF : RR (h_up X3 (11 + p) 0 (nI (runS noH (wOf X M h r) 0 n (q, l)).1)) M3 := by
      refine R3.now ?_ ?_ ?_ ?_ ?_
      · intro a ka h2; unfold kX at ka; rw [m_row (by omega)]
      · rw [m_row (by omega)]
      · intro a ka h2; rw [vt_n _ _ (by omega)]
      · intro j hj _ _ _; rw [vt_n _ _ (by omega)]
      · intro T _ _ _ nn
        refine gNow_p nn ?_ ?_ ?_ ?_
        · intro a h1 h2; rw [m_row (by omega)]
        · intro a h1 h2; rw [vt_n _ _ (by omega)]
        · intro j hj; rw [vt_n _ _ (by omega)]
        · intro i hi
          obtain ⟨t0, t1, t2, t3, t4, t5⟩ := nn.2.2.2.1 i hi
          rw [vt_s] at t0 t1 t2 t3 t4 t5
          rw [e8, m_own]
          by_cases e : i = p
          · subst e
            simp (disch := omega) only [m_own, u_s, u_n]
            exact ⟨trivial, t1, t2, ib_mk hL.1 (by omega), t4, t5⟩
          · simp (disch := omega) only [m_row, u_n]
            exact ⟨t0, t1, t2, t3, t4, t5⟩
    obtain ⟨X4, M4, k1, k2, R4⟩ := eq_remove RF hH (by rw [m_row (by omega)]; exact hx3) hm3 hh (nI n)
    rw [if_pos (ib_mk (by omega) (by omega)), k1, Option.bind_some]
    exact ⟨nI n, X4, M4, rfl, k2, R4⟩
