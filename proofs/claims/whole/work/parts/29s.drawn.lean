/-! DRAWN, ODDS -/
theorem l_bm {n : Nat} (h : n < 2 ^ 63) : ((n : Int)).bmod (2 ^ 64) = n := Int.bmod_eq_of_le (by omega) (by omega)
theorem l_mul {x y : Int64} {n m : Nat} (hx : x.toInt = n) (hy : y.toInt = m) (h : n * m < 2 ^ 63) : (x * y).toInt = ((n * m : Nat) : Int) := by
  rw [Int64.toInt_mul, hx, hy, ← Int.natCast_mul, l_bm h]
theorem l_div {x y : Int64} {n m : Nat} (hx : x.toInt = n) (hy : y.toInt = m) (h : n < 2 ^ 63) : (x / y).toInt = ((n / m : Nat) : Int) := by
  have hd := Nat.div_le_self n m
  rw [Int64.toInt_div, hx, hy, show ((n : Int).tdiv (m : Int)) = ((n / m : Nat) : Int) from rfl, l_bm (by omega)]
theorem l_rem {x y : Int64} {n m : Nat} (hx : x.toInt = n) (hy : y.toInt = m) (h : n < 2 ^ 63) : (h_lrem x y).toInt = ((n % m : Nat) : Int) := by
  have h1 := l_div hx hy h
  have hmd : n / m * m ≤ n := Nat.div_mul_le_self n m
  have h2 := l_mul h1 hy (by omega)
  have h3 : n % m = n - n / m * m := by
    have := Nat.div_add_mod n m
    rw [Nat.mul_comm] at this
    omega
  unfold h_lrem
  rw [Int64.toInt_sub, hx, h2, show (n : Int) - ((n / m * m : Nat) : Int) = ((n - n / m * m : Nat) : Int) from by omega, l_bm (by omega), h3]
theorem l_i32 {x : Int64} {n : Nat} (hx : x.toInt = n) (h : n < 2 ^ 31) : x.toInt32 = nI n := by
  apply Int32.toInt_inj.mp
  rw [Int64.toInt_toInt32, hx, nI_toInt h]
  exact Int.bmod_eq_of_le (by omega) (by omega)
def lotS (s : Int64) : Nat → Int64
  | 0 => s
  | n + 1 => h_lrem (lotS s n * 48271) 2147483647
theorem lotS_s (s : Int64) (n : Nat) : lotS s (n + 1) = h_lrem (lotS s n * 48271) 2147483647 := rfl
def gW (s : Int64) (t : Nat) : Int32 := (h_lrem (lotS s (t + 1)) 5).toInt32
def gT (s : Int64) (t : Nat) : Int32 := (h_lrem (lotS s (t + 1) / 5) 10).toInt32
theorem lotS_b {s : Int64} {k : Nat} (hs : s.toInt = k) (hk : k < 2 ^ 31) : ∀ n, ∃ j, j < 2 ^ 31 ∧ (lotS s n).toInt = (j : Nat)
  | 0 => ⟨k, hk, hs⟩
  | n + 1 => by
    obtain ⟨j, hj, ej⟩ := lotS_b hs hk n
    have h1 := l_mul (y := 48271) (m := 48271) ej (by decide) (by omega)
    have h2 := l_rem (y := 2147483647) (m := 2147483647) h1 (by decide) (by omega)
    exact ⟨_, by have := Nat.mod_lt (j * 48271) (show 0 < 2147483647 by decide); omega, h2⟩
theorem gW_b {s : Int64} {k : Nat} (hs : s.toInt = k) (hk : k < 2 ^ 31) (t : Nat) : h_ib (gW s t) 5 := by
  obtain ⟨j, hj, ej⟩ := lotS_b hs hk (t + 1)
  have h2 := l_rem (y := 5) (m := 5) ej (by decide) (by omega)
  unfold gW
  have := Nat.mod_lt j (show 0 < 5 by decide)
  rw [l_i32 h2 (by omega)]
  exact ib_mk (by omega) (by omega)
theorem seed1 {j : Nat} (hj : j < 2 ^ 30) : (nI j + 1).toInt64 = (nI j).toInt64 + 1 ∧ ((nI j).toInt64 + 1).toInt = ((j + 1 : Nat) : Int) := by
  have e1 : (nI j).toInt64.toInt = (j : Nat) := by rw [Int32.toInt_toInt64, nI_toInt (by omega)]
  have e2 : ((nI j).toInt64 + 1).toInt = ((j + 1 : Nat) : Int) := by
    rw [Int64.toInt_add, e1, show ((1 : Int64)).toInt = 1 from by decide, show (j : Int) + 1 = ((j + 1 : Nat) : Int) from by omega, l_bm (by omega)]
  refine ⟨Int64.toInt_inj.mp ?_, e2⟩
  rw [e2, nI_1, Int32.toInt_toInt64, nI_toInt (by omega)]
theorem x_drawG (a : Int32) (X : hMem) : ∃ X', fX8_drawGusts a X = some X' ∧ (∀ q, q ≠ 45 → q ≠ 46 → X' q = X q) ∧ ∀ t, t < 24 → X' 45 t = gW (a + 1).toInt64 t ∧ X' 46 t = gT (a + 1).toInt64 t := by
  unfold fX8_drawGusts
  generalize (a + 1).toInt64 = s
  refine lp_u0 (body := fX8_drawGusts_L8) 24 (fun i z => ∃ Y : hMem, z = (lotS s i, nI i, Y) ∧ (∀ q, q ≠ 45 → q ≠ 46 → Y q = X q) ∧ ∀ t, t < i → Y 45 t = gW s t ∧ Y 46 t = gT s t) _ (s, 0, X) ⟨X, rfl, fun _ _ _ => rfl, fun t h => absurd h (Nat.not_lt_zero _)⟩ (by omega) ?_ ?_
  · rintro k z ⟨Y, rfl, h1, h2⟩
    unfold fX8_drawGusts_L8
    dsimp only
    rw [if_pos (show (24 : Int32) ≤ nI 24 from by decide)]
    exact ⟨_, rfl, h1, h2⟩
  · rintro k i z hi ⟨Y, rfl, h1, h2⟩ hk
    unfold fX8_drawGusts_L8
    dsimp only
    rw [if_neg (show ¬ (24 : Int32) ≤ nI i from nI_ge (b := 24) hi (by decide)), if_pos (ib_mk hi (by omega)), if_pos (ib_mk hi (by omega)), nI_clamp (by omega), nI_1, ← lotS_s]
    refine hk _ ⟨_, rfl, fun q q1 q2 => by rw [m_row q2, m_row q1]; exact h1 q q1 q2, fun t ht => ?_⟩
    rw [m_row (k := 46) (a := 45) (by omega), m_own, m_own, m_row (by omega)]
    by_cases e : t = i
    · subst e; rw [u_s, u_s]; exact ⟨rfl, rfl⟩
    · rw [u_n e, u_n e]; exact h2 t (by omega)
theorem m_blows (a : Int32) (M : hMem) : ∃ M', fX10_blowsBy a M = some M' ∧ (∀ q, q ≠ 2 → q ≠ 3 → q ≠ 24 → q ≠ 25 → M' q = M q) ∧ (∀ t, t < 24 → M' 2 t = gW (a.toInt64 + 1) t ∧ M' 3 t = gT (a.toInt64 + 1) t ∧ M' 24 t = M 2 t ∧ M' 25 t = M 3 t) ∧ ∀ t, 24 ≤ t → M' 2 t = M 2 t ∧ M' 3 t = M 3 t := by
  unfold fX10_blowsBy
  generalize a.toInt64 + 1 = s
  refine lp_u0 (body := fX10_blowsBy_L8) 24 (fun i z => ∃ Y : hMem, z = (lotS s i, nI i, Y) ∧ (∀ q, q ≠ 2 → q ≠ 3 → q ≠ 24 → q ≠ 25 → Y q = M q) ∧ (∀ t, t < i → Y 2 t = gW s t ∧ Y 3 t = gT s t ∧ Y 24 t = M 2 t ∧ Y 25 t = M 3 t) ∧ ∀ t, i ≤ t → Y 2 t = M 2 t ∧ Y 3 t = M 3 t) _ (s, 0, M) ⟨M, rfl, fun _ _ _ _ _ => rfl, fun t h => absurd h (Nat.not_lt_zero _), fun _ _ => ⟨rfl, rfl⟩⟩ (by omega) ?_ ?_
  · rintro k z ⟨Y, rfl, h1, h2, h3⟩
    unfold fX10_blowsBy_L8
    dsimp only
    rw [if_pos (show (24 : Int32) ≤ nI 24 from by decide)]
    exact ⟨_, rfl, h1, h2, h3⟩
  · rintro k i z hi ⟨Y, rfl, h1, h2, h3⟩ hk
    unfold fX10_blowsBy_L8 fX10_blowsBy_L66
    dsimp only
    rw [if_neg (show ¬ (24 : Int32) ≤ nI i from nI_ge (b := 24) hi (by decide))]
    simp only [if_pos (show h_ib (nI i) 24 from ib_mk hi (by omega)), nI_clamp (show i < 2 ^ 31 by omega), nI_1, ← lotS_s]
    simp (disch := omega) only [m_row]
    refine hk _ ⟨_, rfl, fun q q1 q2 q3 q4 => by simp (disch := omega) only [m_row]; exact h1 q q1 q2 q3 q4, fun t ht => ?_, fun t ht => ?_⟩
    · simp (disch := omega) only [m_row, m_own]
      by_cases e : t = i
      · subst e; simp only [u_s]; exact ⟨rfl, rfl, (h3 t (Nat.le_refl _)).1, (h3 t (Nat.le_refl _)).2⟩
      · simp (disch := omega) only [u_n]; exact h2 t (by omega)
    · simp (disch := omega) only [m_row, m_own, u_n]
      exact h3 t (by omega)
theorem m_lays (M : hMem) : ∃ M', fX10_laysGusts M = some M' ∧ (∀ q, q ≠ 2 → q ≠ 3 → M' q = M q) ∧ (∀ t, t < 24 → M' 2 t = M 24 t ∧ M' 3 t = M 25 t) ∧ ∀ t, 24 ≤ t → M' 2 t = M 2 t ∧ M' 3 t = M 3 t := by
  unfold fX10_laysGusts
  refine lp_u0 (body := fX10_laysGusts_L2) 24 (fun i z => ∃ Y : hMem, z = (nI i, Y) ∧ (∀ q, q ≠ 2 → q ≠ 3 → Y q = M q) ∧ (∀ t, t < i → Y 2 t = M 24 t ∧ Y 3 t = M 25 t) ∧ ∀ t, i ≤ t → Y 2 t = M 2 t ∧ Y 3 t = M 3 t) _ (0, M) ⟨M, rfl, fun _ _ _ => rfl, fun t h => absurd h (Nat.not_lt_zero _), fun _ _ => ⟨rfl, rfl⟩⟩ (by omega) ?_ ?_
  · rintro k z ⟨Y, rfl, h1, h2, h3⟩
    unfold fX10_laysGusts_L2
    dsimp only
    rw [if_pos (show (24 : Int32) ≤ nI 24 from by decide)]
    exact ⟨_, rfl, h1, h2, h3⟩
  · rintro k i z hi ⟨Y, rfl, h1, h2, h3⟩ hk
    unfold fX10_laysGusts_L2
    dsimp only
    rw [if_neg (show ¬ (24 : Int32) ≤ nI i from nI_ge (b := 24) hi (by decide))]
    simp only [if_pos (show h_ib (nI i) 24 from ib_mk hi (by omega)), nI_clamp (show i < 2 ^ 31 by omega), nI_1]
    simp (disch := omega) only [m_row]
    refine hk _ ⟨_, rfl, fun q q1 q2 => by simp (disch := omega) only [m_row]; exact h1 q q1 q2, fun t ht => ?_, fun t ht => ?_⟩
    · simp (disch := omega) only [m_row, m_own]
      by_cases e : t = i
      · subst e; simp only [u_s]; rw [h1 24 (by omega) (by omega), h1 25 (by omega) (by omega)]; exact ⟨rfl, rfl⟩
      · simp (disch := omega) only [u_n]; exact h2 t (by omega)
    · simp (disch := omega) only [m_row, m_own, u_n]
      exact h3 t (by omega)
def wD (w : hWd) (f g : Nat → Int32) : hWd := (w.1, f, g, w.2.2.2)
theorem wD_ok {w : hWd} (h : okW w) {f g : Nat → Int32} (hf : ∀ t, h_ib (f t) 5) : okW (wD w f g) := ⟨fun t _ => hf t, h.2⟩
theorem MX.draw {w : hWd} {T : Nat} {X X' : hMem} (h : MX w T X) {f g : Nat → Int32} (hr : ∀ q, q ≠ 45 → q ≠ 46 → X' q = X q) (hg : ∀ t, t < 24 → X' 45 t = f t ∧ X' 46 t = g t) : MX (wD w f g) T X' := by
  obtain ⟨h1, h2, h3, h4, h5, h6, h7, h8, h9, h10⟩ := h
  refine ⟨?_, ?_, ?_, ?_, ?_, hg, h7, ?_, ?_, ?_⟩
  · rw [hr 40 (by omega) (by omega)]; exact h1
  · rw [hr 40 (by omega) (by omega)]; exact h2
  · rw [hr 40 (by omega) (by omega)]; exact h3
  · rw [hr 40 (by omega) (by omega)]; exact h4
  · rw [hr 40 (by omega) (by omega)]; exact h5
  · rw [hr 40 (by omega) (by omega)]; exact h8
  · rw [hr _ (by omega) (by omega), hr _ (by omega) (by omega)]; exact h9
  · rw [hr _ (by omega) (by omega), hr _ (by omega) (by omega)]; exact h10
theorem MM.draw {w : hWd} {h : Nat} {c e : Nat → Int32} {M M' : hMem} (m : MM w h c e M) {f g : Nat → Int32} (hr : ∀ q, q ≠ 2 → q ≠ 3 → q ≠ 24 → q ≠ 25 → M' q = M q) (hg : ∀ t, t < 24 → M' 2 t = f t ∧ M' 3 t = g t) : MM (wD w f g) h c e M' := by
  obtain ⟨h1, h2, h3, h4, h5, ⟨r, h6, h7, h8⟩, h9⟩ := m
  refine ⟨h1, ?_, hg, ?_, ?_, ⟨r, h6, ?_, ?_⟩, h9⟩
  · rw [hr 1 (by omega) (by omega) (by omega) (by omega)]; exact h2
  · rw [hr 4 (by omega) (by omega) (by omega) (by omega)]; exact h4
  · rw [hr 5 (by omega) (by omega) (by omega) (by omega)]; exact h5
  · rw [hr 0 (by omega) (by omega) (by omega) (by omega)]; exact h7
  · rw [hr 10 (by omega) (by omega) (by omega) (by omega), hr 11 (by omega) (by omega) (by omega) (by omega)]; exact h8
def kB (M M' : hMem) : Prop := (∀ a, (1 ≤ a ∧ a < 18) ∨ 25 < a → M' a = M a) ∧ ∀ j, j ≠ 36 → j ≠ 37 → M' 0 j = M 0 j
theorem kB.rf (M : hMem) : kB M M := ⟨fun _ _ => rfl, fun _ _ _ => rfl⟩
theorem kB.tr {X Y Z : hMem} (h : kB X Y) (g : kB Y Z) : kB X Z := ⟨fun a h1 => (g.1 a h1).trans (h.1 a h1), fun j h1 h2 => (g.2 j h1 h2).trans (h.2 j h1 h2)⟩
theorem kB.keep {M M' : hMem} (k : kB M M') : keepM M M' := by
  refine ⟨fun a ha => ?_, fun j hj => ?_⟩
  · unfold kM at ha; exact k.1 a (by omega)
  · unfold kM0 at hj; exact k.2 j (by omega) (by omega)
theorem MM.kB {w : hWd} {h : Nat} {c e : Nat → Int32} {M M' : hMem} (m : MM w h c e M) (k : kB M M') : MM w h c e M' := m.ext (fun a h1 h2 => k.1 a (by omega)) (k.2 15 (by omega) (by omega))
theorem back_Q {M M1 M2 M3 : hMem} (b1 : ∀ q, q ≠ 2 → q ≠ 3 → q ≠ 24 → q ≠ 25 → M1 q = M q) (b2 : ∀ t, t < 24 → M1 24 t = M 2 t ∧ M1 25 t = M 3 t) (b3 : ∀ t, 24 ≤ t → M1 2 t = M 2 t ∧ M1 3 t = M 3 t) (k : (∀ a, (1 ≤ a ∧ a < 18) ∨ 23 < a → M2 a = M1 a) ∧ ∀ j, j ≠ 36 → j ≠ 37 → M2 0 j = M1 0 j) (l1 : ∀ q, q ≠ 2 → q ≠ 3 → M3 q = M2 q) (l2 : ∀ t, t < 24 → M3 2 t = M2 24 t ∧ M3 3 t = M2 25 t) (l3 : ∀ t, 24 ≤ t → M3 2 t = M2 2 t ∧ M3 3 t = M2 3 t) : kB M M3 := by
  refine ⟨fun a ha => ?_, fun j j1 j2 => ?_⟩
  · by_cases e2 : a = 2
    · subst e2
      funext t
      by_cases ht : t < 24
      · rw [(l2 t ht).1, k.1 24 (by omega), (b2 t ht).1]
      · rw [(l3 t (by omega)).1, k.1 2 (by omega), (b3 t (by omega)).1]
    · by_cases e3 : a = 3
      · subst e3
        funext t
        by_cases ht : t < 24
        · rw [(l2 t ht).2, k.1 25 (by omega), (b2 t ht).2]
        · rw [(l3 t (by omega)).2, k.1 3 (by omega), (b3 t (by omega)).2]
      · rw [l1 a e2 e3, k.1 a (by omega), b1 a e2 e3 (by omega) (by omega)]
  · rw [l1 0 (by omega) (by omega), k.2 j j1 j2, b1 0 (by omega) (by omega) (by omega) (by omega)]
theorem eq_drawn {X M : hMem} (R : RR X M) (a b c : Int32) : EqC (fX9_drawn a b c X) (fX10_drawn a b c M) := by
  obtain ⟨H, hH, hx, hm⟩ := R.hats
  unfold fX9_drawn fX10_drawn
  rw [xe_hat hx (by omega), me_hat hm (by omega), xe_seed, xe_beh, me_sec, show fX10_in a 0 99999 M = if h_ib a 100000 then 1 else 0 from me_in a 99999 M (by decide)]
  simp only [b01]
  by_cases hb : h_ib b H
  rotate_left
  · simp only [if_neg hb]; exact EqC.now R
  by_cases ha : h_ib a 100000
  rotate_left
  · simp only [if_pos hb, if_neg ha]; exact EqC.now R
  by_cases hc : h_ib c 25
  rotate_left
  · simp only [if_pos hb, if_pos ha, if_neg hc]; exact EqC.now R
  simp only [if_pos hb, if_pos ha, if_pos hc]
  obtain ⟨j, hj, hj2, rfl⟩ := ib_ex ha
  obtain ⟨h, hh, hh2, rfl⟩ := ib_ex hb
  obtain ⟨n, hn, hn2, rfl⟩ := ib_ex hc
  obtain ⟨r, q, l, X1, r1, q1, l1, ok, mm, q2, l2, x1, x2, x3, x4, -, -⟩ := R.ctx hH hh
  obtain ⟨s1, s2⟩ := seed1 (j := j) (by omega)
  obtain ⟨X2, d1, d2, d3⟩ := x_drawG (nI j) X1
  rw [s1] at d3
  obtain ⟨M2, b1, b2, b3, b4⟩ := m_blows (nI j) M
  have hgW := gW_b s2 (by omega)
  generalize gW ((nI j).toInt64 + 1) = f at *
  generalize gT ((nI j).toInt64 + 1) = g at *
  have okd := wD_ok (g := g) ok hgW
  have mxd := x2.draw d2 d3
  have mmd := mm.draw b2 (fun t ht => ⟨(b3 t ht).1, (b3 t ht).2.1⟩)
  obtain ⟨X3, y1, y2⟩ := x_later okd mxd (a := 0) (b := n) (s := (q, l)) (by omega) (by omega) q1 l1
  obtain ⟨M3, z1, z2, -, -⟩ := m_behind okd mmd (n := n) (by omega) q1 l1 (by rw [b2 6 (by omega) (by omega) (by omega) (by omega)]; exact q2) (by rw [b2 7 (by omega) (by omega) (by omega) (by omega)]; exact l2)
  have hld : hldM M2 = noH := funext fun j => hldM_0 (by rw [b2 0 (by omega) (by omega) (by omega) (by omega)]; exact R.hold) j
  rw [hld] at z1
  have hL := runS_lt (hl := noH) (w := wD (wOf X M h r) f g) (a := 0) (s := (q, l)) q1 l1 n
  rw [Nat.sub_zero] at y1
  obtain ⟨M4, l1', l2', l3', l4'⟩ := m_lays M3
  rw [x1, Option.bind_some, d1, Option.bind_some, d2 40 (by omega) (by omega), x3, show fX8_later (nI (stN (q, l))) 0 (nI n) X2 = _ from y1, Option.bind_some, b1, Option.bind_some, z1, Option.bind_some]
  dsimp only
  rw [l1', Option.bind_some, x_sqS hL.1 hL.2]
  refine EqC.now (R.keep (kO.X (fun a h1 h2 => ?_)) (kB.keep (back_Q b2 (fun t ht => ⟨(b3 t ht).2.2.1, (b3 t ht).2.2.2⟩) b4 ⟨fun a ha => z2.1 a (by omega) (by omega) (by omega), z2.2⟩ l2' l3' l4')))
  rw [y2 a (by omega) h2, d2 a (by omega) (by omega), x4 a h1]
