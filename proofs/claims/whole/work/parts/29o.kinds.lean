/-! KINDS, LAWS: other worlds -/
def wKM (w : hWd) (k mo : Nat) : hWd := (w.1, w.2.1, w.2.2.1, k, mo, w.2.2.2.2.2)
def wL (w : hWd) (f : Nat → (Nat → Int32) → Int32) : hWd := (w.1, w.2.1, w.2.2.1, w.2.2.2.1, w.2.2.2.2.1, f)
theorem wKM_ok {w : hWd} (h : okW w) {k mo : Nat} (hk : k < 6) (hm : mo < 10) : okW (wKM w k mo) := ⟨h.1, hk, hm, h.2.2.2⟩
theorem wL_ok {w : hWd} (h : okW w) (c e : Nat → Int32) : okW (wL w (evX c e)) := ⟨h.1, h.2.1, h.2.2.1, fun nm => evX_b c e nm⟩
theorem MX.km {w : hWd} {T : Nat} {Y Y' : hMem} (h : MX w T Y) {k mo : Nat} (hr : ∀ a, a ≠ 40 → Y' a = Y a) (h0 : ∀ j, j ≠ 3 → j ≠ 4 → Y' 40 j = Y 40 j) (e3 : Y' 40 3 = nI k) (e4 : Y' 40 4 = nI mo) : MX (wKM w k mo) T Y' := by
  obtain ⟨h1, h2, h3, h4, h5, h6, h7, h8, h9, h10⟩ := h
  refine ⟨?_, ?_, ?_, e3, e4, fun j hj => ?_, h7, ?_, ?_, ?_⟩
  · rw [h0 0 (by omega) (by omega)]; exact h1
  · rw [h0 1 (by omega) (by omega)]; exact h2
  · rw [h0 2 (by omega) (by omega)]; exact h3
  · rw [hr 45 (by omega), hr 46 (by omega)]; exact h6 j hj
  · rw [h0 6 (by omega) (by omega)]; exact h8
  · rw [hr _ (by omega), hr _ (by omega)]; exact h9
  · rw [hr _ (by omega), hr _ (by omega)]; exact h10
theorem MM.km {w : hWd} {h : Nat} {c e : Nat → Int32} {M M' : hMem} (m : MM w h c e M) {k mo : Nat} (hr : ∀ a, a ≠ 4 → a ≠ 5 → M' a = M a) (e4 : M' 4 h = nI k) (e5 : M' 5 h = nI mo) : MM (wKM w k mo) h c e M' := by
  obtain ⟨h1, h2, h3, h4, h5, ⟨r, h6, h7, h8⟩, h9⟩ := m
  refine ⟨h1, ?_, ?_, e4, e5, ⟨r, h6, ?_, ?_⟩, h9⟩
  · rw [hr 1 (by omega) (by omega)]; exact h2
  · rw [hr 2 (by omega) (by omega), hr 3 (by omega) (by omega)]; exact h3
  · rw [hr 0 (by omega) (by omega)]; exact h7
  · rw [hr 10 (by omega) (by omega), hr 11 (by omega) (by omega)]; exact h8
theorem kinds_run {X M X1 : hMem} (R : RR X M) {w : hWd} {h r q l s n col e k0 m0 : Nat} {cc ce : Nat → Int32} {c : Int32} (ok : okW w) (mx : MX w r X1) (mm : MM w h cc ce M) (q1 : q < 32) (l1 : l < 3) (q2 : M 6 h = nI q) (l2 : M 7 h = nI l) (x3 : X1 40 5 = nI (stN (q, l))) (x4 : ∀ a, a < 40 ∨ 55 < a → X1 a = X a) (hs : s < 4) (hn : n ≤ 25) (e1 : X (80 + 2 * s) 1 = nI n) (e2 : M 14 s = nI n) (e4 : ∀ i, i < 40 → X (81 + 2 * s) i = M 15 (40 * s + i)) (K O : Nat → Nat) (he : e ≤ 10) (hK : ∀ i, i < e → K i < 6 ∧ O i < 10) (hcol : (col = 3 ∧ (∀ i, K i = i) ∧ ∀ i, O i = w.2.2.2.2.1) ∨ (col = 4 ∧ (∀ i, O i = i) ∧ ∀ i, K i = w.2.2.2.1)) (xs : ∀ k v i Y, fX9_kinds_L50 (nI s) c (nI e) k (v, nI i, Y) = if nI e ≤ nI i then some (v, Y) else fX9_kinds_L82 k (nI s) c v (nI e) (nI i) (h_up Y 40 col (nI i))) (ms : ∀ k v i N, fX10_kinds_L50 (nI s) (nI h) c (M 4 h) (M 5 h) k (v, nI i, N) = if nI e ≤ nI i then some (v, h_up (h_up N 4 h (M 4 h)) 5 h (M 5 h)) else fX10_kinds_L100 k (nI s) (nI h) c (M 4 h) (M 5 h) v (nI i) (nI (O i)) (nI h) (h_up N 4 h (nI (K i)))) : EqC (h_lp (fX9_kinds_L50 (nI s) c (nI e)) h_FU (0, 0, X1)) (h_lp (fX10_kinds_L50 (nI s) (nI h) c (M 4 h) (M 5 h)) h_FU (0, 0, M)) := by
  have hh := mm.1
  refine EqC.of (lp20 e (fun i z z' => ∃ (v : Int32) (Y N : hMem) (k mo : Nat), z = (v, nI i, Y) ∧ z' = (v, nI i, N) ∧ kO X Y ∧ MX (wKM w k mo) r Y ∧ (col = 3 → mo = w.2.2.2.2.1) ∧ (col = 4 → k = w.2.2.2.1) ∧ Y 40 5 = nI (stN (q, l)) ∧ kQ M (h_up (h_up N 4 h (M 4 h)) 5 h (M 5 h))) EqQ _ _ ⟨0, X1, M, w.2.2.2.1, w.2.2.2.2.1, rfl, rfl, fun a h1 _ => x4 a h1, mx, fun _ => rfl, fun _ => rfl, x3, by rw [h_upid M 4 h _ rfl, h_upid M 5 h _ rfl]; exact kQ.rf M⟩ (by omega) ?_ ?_)
  · rintro k k' z z' ⟨v, Y, N, k1, mo, rfl, rfl, oY, mY, -, -, h5, kN⟩
    rw [xs, ms, if_pos (nI_le (Nat.le_refl _) (by omega)), if_pos (nI_le (Nat.le_refl _) (by omega))]
    exact ⟨_, _, rfl, rfl, rfl, R.keep oY.X kN.keep⟩
  · rintro k k' i z z' hi ⟨v, Y, N, k1, mo, rfl, rfl, oY, mY, c3, c4, h5, kN⟩ hk
    rw [xs, ms, if_neg (nI_ge hi (by omega)), if_neg (nI_ge hi (by omega))]
    unfold fX9_kinds_L82 fX10_kinds_L100
    rw [if_pos (ib_mk hs (by omega)), if_pos (ib_mk hh (by omega)), nI_clamp (by omega), nI_clamp (by omega)]
    have hc34 : col = 3 ∨ col = 4 := by omega
    have mY' : MX (wKM w (K i) (O i)) r (h_up Y 40 col (nI i)) := by
      have h34 := mY.2.2.2
      rcases hcol with ⟨rfl, t1, t2⟩ | ⟨rfl, t1, t2⟩
      · refine mY.km (k := K i) (mo := O i) (fun a ha => m_row ha) (fun j j1 j2 => ?_) ?_ ?_
        · rw [m_own, u_n j1]
        · rw [m_own, u_s, t1]
        · rw [m_own, u_n (by omega), t2, ← c3 rfl]; exact h34.2.1
      · refine mY.km (k := K i) (mo := O i) (fun a ha => m_row ha) (fun j j1 j2 => ?_) ?_ ?_
        · rw [m_own, u_n j2]
        · rw [m_own, u_n (by omega), t2, ← c4 rfl]; exact h34.1
        · rw [m_own, u_s, t1]
    have y5 : (h_up Y 40 col (nI i)) 40 5 = nI (stN (q, l)) := by rw [m_own, u_n (by omega)]; exact h5
    have mN : MM (wKM w (K i) (O i)) h cc ce (h_up (h_up N 4 h (nI (K i))) 5 h (nI (O i))) := by
      refine (mm.kQ kN).km (fun a a4 a5 => ?_) ?_ ?_
      · rw [m_row a5, m_row a4, m_row a5, m_row a4]
      · rw [m_row (by omega), m_own, u_s]
      · rw [m_own, u_s]
    have okk := wKM_ok ok (hK i hi).1 (hK i hi).2
    obtain ⟨X2, f1, f2⟩ := x_else okk mY' hs hn (by rw [m_row (by omega), oY _ (by omega) (by omega)]; exact e1) (s := (q, l)) q1 l1
    have nrow : ∀ a, (1 ≤ a ∧ a < 18) ∨ 23 < a → a ≠ 4 → a ≠ 5 → N a = M a := fun a h1 h4 h5 => by
      have := kN.1 a h1
      rw [m_row h5, m_row h4] at this
      exact this
    have n0 : ∀ j, j ≠ 36 → j ≠ 37 → N 0 j = M 0 j := fun j j1 j2 => by
      have := kN.2 j j1 j2
      rw [m_row (by omega), m_row (by omega)] at this
      exact this
    obtain ⟨M2, g1, g2⟩ := m_unlikeNow okk mN (by rw [m_row (by omega), m_row (by omega), n0 39 (by omega) (by omega)]; exact R.hold) hs hn (by rw [m_row (by omega), m_row (by omega), nrow 14 (by omega) (by omega) (by omega)]; exact e2) q1 l1 (by rw [m_row (by omega), m_row (by omega), nrow 6 (by omega) (by omega) (by omega)]; exact q2) (by rw [m_row (by omega), m_row (by omega), nrow 7 (by omega) (by omega) (by omega)]; exact l2)
    rw [y5, f1, g1, Option.bind_some, Option.bind_some]
    dsimp only
    have ed : difS ((h_up Y 40 col (nI i)) (81 + 2 * s)) (wKM w (K i) (O i)) (q, l) n = difS (fun j => (h_up (h_up N 4 h (nI (K i))) 5 h (nI (O i))) 15 (40 * s + j)) (wKM w (K i) (O i)) (q, l) n := difS_c (fun j hj => by
      rw [m_row (by omega), m_row (by omega), m_row (by omega), oY _ (by omega) (by omega), nrow 15 (by omega) (by omega) (by omega)]
      exact e4 j (by omega))
    rw [ed, ans_ge (difS_ok hn), ans_m1 (difS_ok hn), nI_1, or_z]
    have oY2 : kO X X2 := oY.tr ((kO.up Y (by omega) (by omega) col (nI i)).tr f2.P.O)
    have mY2 := mY'.kT f2
    have y52 : X2 40 5 = nI (stN (q, l)) := by rw [f2 40 (by omega) (by omega)]; exact y5
    have kN2 : kQ M (h_up (h_up M2 4 h (M 4 h)) 5 h (M 5 h)) := by
      refine kN.tr ⟨fun a ha => ?_, fun j j1 j2 => ?_⟩
      · by_cases a4 : a = 4
        · subst a4
          rw [m_row (by omega), m_own, m_row (by omega), m_own, g2.1 4 (by omega) (by omega) (by omega), m_row (by omega), m_own]
          funext j
          by_cases e : j = h
          · subst e; rw [u_s, u_s]
          · rw [u_n e, u_n e, u_n e]
        · by_cases a5 : a = 5
          · subst a5
            rw [m_own, m_own, m_row (by omega), m_row (by omega), g2.1 5 (by omega) (by omega) (by omega), m_own, m_row (by omega)]
            funext j
            by_cases e : j = h
            · subst e; rw [u_s, u_s]
            · rw [u_n e, u_n e, u_n e]
          · rw [m_row a5, m_row a4, m_row a5, m_row a4, g2.1 a (by omega) (by omega) (by omega), m_row a5, m_row a4]
      · rw [m_row (by omega), m_row (by omega), m_row (by omega), m_row (by omega), g2.2 j j1 j2, m_row (by omega), m_row (by omega)]
    have t3 : col = 3 → O i = w.2.2.2.2.1 := fun h => by
      rcases hcol with ⟨h1, t1, t2⟩ | ⟨h1, t1, t2⟩
      · exact t2 i
      · omega
    have t4 : col = 4 → K i = w.2.2.2.1 := fun h => by
      rcases hcol with ⟨h1, t1, t2⟩ | ⟨h1, t1, t2⟩
      · omega
      · exact t2 i
    generalize difS _ _ _ _ = o
    by_cases co : o = none
    · rw [if_pos co, if_pos co]
      exact hk _ _ ⟨_, X2, M2, _, _, rfl, rfl, oY2, mY2, t3, t4, y52, kN2⟩
    · rw [if_neg co, if_neg co]
      exact hk _ _ ⟨_, X2, M2, _, _, rfl, rfl, oY2, mY2, t3, t4, y52, kN2⟩
theorem eq_kinds {X M : hMem} (R : RR X M) (a b c : Int32) : EqC (fX9_kinds a b c X) (fX10_kinds a b c M) := by
  obtain ⟨H, hH, hx, hm⟩ := R.hats
  obtain ⟨v, v1, v2, v3⟩ := way_eq R hH hx hm a b
  unfold fX9_kinds fX10_kinds
  rw [v1, v2, Option.bind_some, Option.bind_some]
  by_cases cv : v = 0
  rotate_left
  · rw [if_neg cv, if_neg cv]; exact EqC.now R
  obtain ⟨s, n, h, hs, rfl, hn, e1, e2, e4, hh, rfl⟩ := v3 cv
  rw [if_pos cv, if_pos cv, xe_01, b01, me_in1, b01]
  by_cases hc : h_ib c 2
  rotate_left
  · rw [if_neg hc, if_neg hc]; exact EqC.now R
  have h4 : h_ib (nI h) 4 := ib_mk (by omega) (by omega)
  obtain ⟨r, q, l, X1, r1, q1, l1, ok, mm, q2, l2, x1, x2, x3, x4, -, -⟩ := R.ctx hH hh
  have ek : M 4 h = nI (wOf X M h r).2.2.2.1 := mm.2.2.2.1
  have em : M 5 h = nI (wOf X M h r).2.2.2.2.1 := mm.2.2.2.2.1
  have okk := ok.2
  rw [if_pos hc, if_pos hc, x1, Option.bind_some, if_pos h4, if_pos h4, nI_clamp (by omega)]
  rcases (ib2 c).mp hc with rfl | rfl
  · rw [if_pos rfl]
    refine kinds_run R (col := 3) (e := 6) (K := fun i => i) (O := fun _ => (wOf X M h r).2.2.2.2.1) (k0 := 0) (m0 := 0) ok x2 mm q1 l1 q2 l2 x3 x4 hs hn e1 e2 e4 (by omega) (fun i hi => ⟨hi, okk.2.1⟩) (Or.inl ⟨rfl, fun _ => rfl, fun _ => rfl⟩) (fun k v i Y => ?_) (fun k v i N => ?_)
    · unfold fX9_kinds_L50
      dsimp only
      rw [if_pos rfl]
    · unfold fX10_kinds_L50 fX10_kinds_L63 fX10_kinds_L82
      dsimp only
      simp only [if_true, if_pos h4, if_neg (show ¬ (0 : Int32) = 1 from by decide), nI_clamp (show h < 2 ^ 31 by omega), em]
      rfl
  · rw [if_neg (show ¬ (1 : Int32) = 0 from by decide)]
    refine kinds_run R (col := 4) (e := 10) (K := fun _ => (wOf X M h r).2.2.2.1) (O := fun i => i) (k0 := 0) (m0 := 0) ok x2 mm q1 l1 q2 l2 x3 x4 hs hn e1 e2 e4 (by omega) (fun i hi => ⟨okk.1, hi⟩) (Or.inr ⟨rfl, fun _ => rfl, fun _ => rfl⟩) (fun k v i Y => ?_) (fun k v i N => ?_)
    · unfold fX9_kinds_L50
      dsimp only
      rw [if_neg (show ¬ (1 : Int32) = 0 from by decide)]
    · unfold fX10_kinds_L50 fX10_kinds_L63 fX10_kinds_L82
      dsimp only
      simp only [if_true, if_pos h4, if_neg (show ¬ (1 : Int32) = 0 from by decide), nI_clamp (show h < 2 ^ 31 by omega), ek]
      rfl
