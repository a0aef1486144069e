/-! SECOND BY SECOND -/
abbrev stN (s : Nat × Nat) : Nat := 32 * s.2 + s.1
def noH : Nat → Bool := fun _ => false
def runS (hl : Nat → Bool) (w : hWd) (a : Nat) : Nat → Nat × Nat → Nat × Nat
  | 0, s => s
  | n + 1, s => if hl (a + n) = true then runS hl w a n s else stepS w (a + n) (runS hl w a n s)
theorem runS_s (hl : Nat → Bool) (w : hWd) (a n : Nat) (s : Nat × Nat) : runS hl w a (n + 1) s = if hl (a + n) = true then runS hl w a n s else stepS w (a + n) (runS hl w a n s) := rfl
theorem runS_lt {hl : Nat → Bool} {w : hWd} {a : Nat} {s : Nat × Nat} (h1 : s.1 < 32) (h2 : s.2 < 3) : ∀ n, (runS hl w a n s).1 < 32 ∧ (runS hl w a n s).2 < 3
  | 0 => ⟨h1, h2⟩
  | n + 1 => by
    rw [runS_s]
    have ih := runS_lt (hl := hl) (w := w) (a := a) h1 h2 n
    split
    · exact ih
    · exact stepS_lt ih.1 ih.2
theorem runS_c {hl hl' : Nat → Bool} {w : hWd} {a : Nat} {s : Nat × Nat} : ∀ {n : Nat}, (∀ j, j < n → hl (a + j) = hl' (a + j)) → runS hl w a n s = runS hl' w a n s
  | 0, _ => rfl
  | n + 1, h => by rw [runS_s, runS_s, runS_c (n := n) (fun j hj => h j (by omega)), h n (by omega)]
/-- one run behind the other -/
theorem runS_add (hl : Nat → Bool) (w : hWd) (a : Nat) (s : Nat × Nat) (m : Nat) : ∀ n, runS hl w a (m + n) s = runS hl w (a + m) n (runS hl w a m s)
  | 0 => rfl
  | n + 1 => by rw [← Nat.add_assoc, runS_s, runS_add hl w a s m n, runS_s, Nat.add_assoc]
/-- rows 47 .. 55 and texts' pending numbers change, no more -/
def kP (X X' : hMem) : Prop := ∀ a, a < 47 ∨ 55 < a → ¬ (59 ≤ a ∧ a < 80 ∧ a % 4 = 3) → X' a = X a
theorem kP.rf (X : hMem) : kP X X := fun _ _ _ => rfl
theorem kP.tr {X Y Z : hMem} (h : kP X Y) (g : kP Y Z) : kP X Z := fun a h1 h2 => (g a h1 h2).trans (h a h1 h2)
theorem kT.P {X Y : hMem} (h : kT X Y) : kP X Y := fun a h1 h2 => h a (by omega) h2
theorem MX.kP {w : hWd} {T : Nat} {X X' : hMem} (h : MX w T X) (k : kP X X') : MX w T X' := by
  obtain ⟨h1, h2, h3, h4, h5, h6, h7, h8, h9, h10⟩ := h
  refine ⟨?_, ?_, ?_, ?_, ?_, ?_, h7, ?_, ?_, ?_⟩
  · rw [k 40 (by omega) (by omega)]; exact h1
  · rw [k 40 (by omega) (by omega)]; exact h2
  · rw [k 40 (by omega) (by omega)]; exact h3
  · rw [k 40 (by omega) (by omega)]; exact h4
  · rw [k 40 (by omega) (by omega)]; exact h5
  · rw [k 45 (by omega) (by omega), k 46 (by omega) (by omega)]; exact h6
  · rw [k 40 (by omega) (by omega)]; exact h8
  · rw [k (57 + 4 * T) (by omega) (by omega), k (58 + 4 * T) (by omega) (by omega)]; exact h9
  · rw [k (57 + 4 * T) (by omega) (by omega), k (58 + 4 * T) (by omega) (by omega)]; exact h10
theorem x_later {w : hWd} {T : Nat} {X : hMem} (hw : okW w) (h : MX w T X) {a b : Nat} {s : Nat × Nat} (ha : a ≤ 48) (hb : b ≤ 24) (h1 : s.1 < 32) (h2 : s.2 < 3) : ∃ X', fX8_later (nI (stN s)) (nI a) (nI b) X = some (nI (stN (runS noH w a (b - a) s)), X') ∧ kT X X' := by
  unfold fX8_later
  obtain ⟨r, g1, g2, g3⟩ := lp_h (body := fX8_later_L6 (nI b)) (fun z => ∃ (n : Nat) (Y : hMem), z = (nI (stN (runS noH w a n s)), nI (a + n), Y) ∧ kT X Y ∧ (n = 0 ∨ a + n ≤ b)) (fun r => r.1 = nI (stN (runS noH w a (b - a) s)) ∧ kT X r.2) (fun z => 48 - z.2.1.toNatClampNeg) (by
    rintro k z ⟨n, Y, rfl, hk, hn⟩ hkk
    unfold fX8_later_L6
    dsimp only
    by_cases hlt : a + n < b
    · rw [if_neg (nI_ge hlt (by omega))]
      have hl := runS_lt (hl := noH) (w := w) (a := a) h1 h2 n
      obtain ⟨Y', e1, e2⟩ := x_next hw (h.kT hk) (t := a + n) (q := (runS noH w a n s).1) (l := (runS noH w a n s).2) (by omega) hl.1 hl.2
      rw [e1, Option.bind_some]
      dsimp only
      rw [nI_1]
      refine hkk _ ⟨n + 1, Y', ?_, hk.tr e2, Or.inr (by omega)⟩ ?_
      · rw [runS_s]; rfl
      · dsimp only; rw [nI_clamp (by omega), nI_clamp (by omega)]; omega
    · rw [if_pos (nI_le (by omega) (by omega))]
      refine ⟨_, rfl, ?_, hk⟩
      have : n = b - a := by omega
      rw [this]) h_FU (nI (stN s), nI a, X) ⟨0, X, rfl, kT.rf X, Or.inl rfl⟩ (by show 48 - _ < 20000; omega)
  exact ⟨r.2, by rw [g1, ← g2], g3⟩
/-- a path's row -/
def isPath (a : Nat) : Prop := a = 47 ∨ (51 ≤ a ∧ a ≤ 54)
theorem x_follow {w : hWd} {T : Nat} {X : hMem} (hw : okW w) (h : MX w T X) {a : Nat} (ha : isPath a) {s : Nat × Nat} (h5 : X 40 5 = nI (stN s)) (h1 : s.1 < 32) (h2 : s.2 < 3) : ∃ X', fX8_follow a X = some X' ∧ (∀ q, q ≠ a → q ≠ 48 → ¬ (59 ≤ q ∧ q < 80 ∧ q % 4 = 3) → X' q = X q) ∧ ∀ n, n ≤ 24 → X' a n = nI (stN (runS noH w 0 n s)) := by
  unfold fX8_follow
  unfold isPath at ha
  have hB : h_isB hYx a 10 25 = true := by
    rcases (by omega : a = 47 ∨ a = 51 ∨ a = 52 ∨ a = 53 ∨ a = 54) with rfl | rfl | rfl | rfl | rfl <;> rfl
  rw [if_pos hB]
  obtain ⟨r, g1, g2⟩ := lp_u0 (body := fX8_follow_L9 a) 24 (fun i z => ∃ Y : hMem, z = (nI i, Y) ∧ (∀ q, q ≠ a → q ≠ 48 → ¬ (59 ≤ q ∧ q < 80 ∧ q % 4 = 3) → Y q = X q) ∧ ∀ n, n ≤ i → Y a n = nI (stN (runS noH w 0 n s))) (fun r => (∀ q, q ≠ a → q ≠ 48 → ¬ (59 ≤ q ∧ q < 80 ∧ q % 4 = 3) → r q = X q) ∧ ∀ n, n ≤ 24 → r a n = nI (stN (runS noH w 0 n s))) (0, h_up X a 0 (X 40 5)) ⟨_, rfl, fun q h1 _ _ => m_row h1, fun n hn => by
      rw [show n = 0 from by omega, m_own, u_s, h5]; rfl⟩ (by decide) (by
    rintro k z ⟨Y, rfl, hY, hp⟩
    unfold fX8_follow_L9
    dsimp only
    rw [if_pos (show (24 : Int32) ≤ nI 24 from nI_le (a := 24) (Nat.le_refl _) (by decide))]
    exact ⟨Y, rfl, hY, hp⟩) (by
    rintro k i z hi ⟨Y, rfl, hY, hp⟩ hk
    unfold fX8_follow_L9
    dsimp only
    rw [if_neg (show ¬ (24 : Int32) ≤ nI i from nI_ge (b := 24) hi (by decide)), if_pos (ib_mk (by omega) (by decide)), nI_clamp (by omega), hp i (Nat.le_refl _)]
    have hl := runS_lt (hl := noH) (w := w) (a := 0) h1 h2 i
    have kY : kP X Y := fun q h1 h2 => hY q (by omega) (by omega) h2
    obtain ⟨Y', e1, e2⟩ := x_next hw (h.kP kY) (t := i) (q := (runS noH w 0 i s).1) (l := (runS noH w 0 i s).2) (by omega) hl.1 hl.2
    rw [e1, Option.bind_some]
    dsimp only
    rw [nI_1, if_pos (ib_mk (by omega) (by decide)), nI_clamp (by omega)]
    refine hk _ ⟨_, rfl, fun q h1 h2 h3 => ?_, fun n hn => ?_⟩
    · rw [m_row h1, e2 q h2 h3]; exact hY q h1 h2 h3
    · rw [m_own]
      by_cases en : n = i + 1
      · rw [en, u_s, runS_s, Nat.zero_add]; rfl
      · rw [u_n en, e2 a (by omega) (by omega)]; exact hp n (by omega))
  exact ⟨r, g1, g2⟩
/-! the other one's -/
theorem m_begins {M : hMem} {h : Nat} (hh : h < 4) : fX10_begins (nI h) M = some (h_up (h_up M 0 36 (M 6 h)) 0 37 (M 7 h)) := by
  unfold fX10_begins
  rw [if_pos (ib_mk hh (by decide)), if_pos (ib_mk hh (by decide)), nI_clamp (by omega), m_row (by omega)]
theorem kS_b (M : hMem) (x y : Int32) : kS M (h_up (h_up M 0 36 x) 0 37 y) := ⟨fun a h1 _ _ => by rw [m_row h1, m_row h1], fun j h1 h2 => by rw [m_own, u_n h2, m_own, u_n h1]⟩
theorem m_goesOn {w : hWd} {h : Nat} {c e : Nat → Int32} {M : hMem} (hw : okW w) (m : MM w h c e M) {n q l : Nat} (hn : n ≤ 24) (hq : q < 32) (hl : l < 3) (h36 : M 0 36 = nI q) (h37 : M 0 37 = nI l) : ∃ M', fX10_goesOn (nI h) (nI n) M = some M' ∧ kS M M' ∧ M' 0 36 = nI (runS (hldM M) w 0 n (q, l)).1 ∧ M' 0 37 = nI (runS (hldM M) w 0 n (q, l)).2 := by
  unfold fX10_goesOn
  obtain ⟨r, g1, g2⟩ := lp_u0 (body := fX10_goesOn_L2 (nI h) (nI n)) n (fun i z => ∃ Y : hMem, z = (nI i, Y) ∧ kS M Y ∧ Y 0 36 = nI (runS (hldM M) w 0 i (q, l)).1 ∧ Y 0 37 = nI (runS (hldM M) w 0 i (q, l)).2) (fun r => kS M r ∧ r 0 36 = nI (runS (hldM M) w 0 n (q, l)).1 ∧ r 0 37 = nI (runS (hldM M) w 0 n (q, l)).2) (0, M) ⟨M, rfl, kS.rf M, h36, h37⟩ (by omega) (by
    rintro k z ⟨Y, rfl, hY, y1, y2⟩
    unfold fX10_goesOn_L2
    dsimp only
    rw [if_pos (nI_le (Nat.le_refl _) (by omega))]
    exact ⟨Y, rfl, hY, y1, y2⟩) (by
    rintro k i z hi ⟨Y, rfl, hY, y1, y2⟩ hk
    unfold fX10_goesOn_L2
    dsimp only
    rw [if_neg (nI_ge hi (by omega))]
    have hL := runS_lt (hl := hldM M) (w := w) (a := 0) (s := (q, l)) hq hl i
    obtain ⟨Y', e1, e2, e3, e4⟩ := m_seconds hw (m.kS hY) (t := i) (by omega) hL.1 hL.2 y1 y2
    rw [e1, Option.bind_some, nI_1]
    rw [hldM_c hY] at e3 e4
    refine hk _ ⟨Y', rfl, hY.tr e2, ?_, ?_⟩
    · rw [e3, runS_s, Nat.zero_add]
    · rw [e4, runS_s, Nat.zero_add])
  exact ⟨r, g1, g2⟩
theorem m_behind {w : hWd} {h : Nat} {c e : Nat → Int32} {M : hMem} (hw : okW w) (m : MM w h c e M) {n q l : Nat} (hn : n ≤ 24) (hq : q < 32) (hl : l < 3) (h6 : M 6 h = nI q) (h7 : M 7 h = nI l) : ∃ M', fX10_squareBehind (nI h) (nI n) M = some (nI (runS (hldM M) w 0 n (q, l)).1, M') ∧ kS M M' ∧ M' 0 36 = nI (runS (hldM M) w 0 n (q, l)).1 ∧ M' 0 37 = nI (runS (hldM M) w 0 n (q, l)).2 := by
  unfold fX10_squareBehind
  rw [m_begins m.1, Option.bind_some, h6, h7]
  have kb := kS_b M (nI q) (nI l)
  obtain ⟨M', e1, e2, e3, e4⟩ := m_goesOn hw (m.kS kb) (n := n) hn hq hl (by rw [m_own, u_n (by omega), m_own, u_s]) (by rw [m_own, u_s])
  rw [hldM_c kb] at e3 e4
  rw [e1, Option.bind_some, e3]
  exact ⟨M', rfl, kb.tr e2, e3, e4⟩
/-! out of the relation -/
def wOf (X M : hMem) (h r : Nat) : hWd := (M 1, M 2, M 3, (M 4 h).toNatClampNeg, (M 5 h).toNatClampNeg, evX (X (57 + 4 * r)) (X (58 + 4 * r)))
theorem bnd0 (v : Int32) : h_ib (bndV 0 v) 10 := by
  unfold bndV
  rw [if_pos rfl]
  rw [ib_int]
  by_cases h1 : 0 ≤ v
  · rw [if_pos h1]
    by_cases h2 : v ≤ 9
    · rw [if_pos h2]
      have := Int32.le_iff_toInt_le.mp h2
      have h3 := Jvm.Kit.i32_nonneg.mp h1
      rw [show (9 : Int32).toInt = 9 from by decide] at this
      omega
    · rw [if_neg h2]; decide
  · rw [if_neg h1]; decide
theorem bnd1 (v : Int32) : h_ib (bndV 1 v) 3 := by
  unfold bndV
  rw [if_neg (by decide), if_pos rfl]
  obtain ⟨n, ⟨h1, h2⟩ | ⟨h1, h2⟩⟩ := rem3 v
  · have e : h_rem v 3 = nI (n % 3) := Int32.toInt_inj.mp (by rw [h2, nI_toInt (by omega)])
    rw [e]
    rcases (by omega : n % 3 = 0 ∨ n % 3 = 1 ∨ n % 3 = 2) with q | q | q <;> rw [q] <;> decide
  · rcases (by omega : n % 3 = 0 ∨ n % 3 = 1 ∨ n % 3 = 2) with q | q | q
    · rw [show h_rem v 3 = 0 from Int32.toInt_inj.mp (by rw [h2, q]; decide)]; decide
    · rw [show h_rem v 3 = -1 from Int32.toInt_inj.mp (by rw [h2, q]; decide)]; decide
    · rw [show h_rem v 3 = -2 from Int32.toInt_inj.mp (by rw [h2, q]; decide)]; decide
theorem evX_b (c e nm : Nat → Int32) : h_ib (evX c e 0 nm) 10 ∧ h_ib (evX c e 1 nm) 3 := ⟨bnd0 _, bnd1 _⟩
/-- the rule, and its text -/
theorem RR.rule {X M : hMem} (R : RR X M) : ∃ r, r < 6 ∧ X 1 7 = nI r ∧ M 0 15 = nI r ∧ gText (X (57 + 4 * r)) (X (58 + 4 * r)) (fun i => M 10 (200 * r + i)) (fun p => M 11 (4 * r + p)) := by
  obtain ⟨T, t1, t2, t3, t4, ⟨-, -, -, -, -, -, n7⟩, -, -, -, -, -, tx, -⟩ := R
  obtain ⟨r, r1, r2, r3⟩ := ib_ex n7.2
  exact ⟨r, by omega, n7.1.trans r3, r3, tx r r1⟩
theorem RR.hold {X M : hMem} (R : RR X M) : M 0 39 = 0 := by
  obtain ⟨T, t1, t2, t3, t4, -, -, -, h, -⟩ := R
  exact h
theorem RR.okw {X M : hMem} (R : RR X M) {h r : Nat} (hh : h < 4) : okW (wOf X M h r) := by
  obtain ⟨-, -, -, e1, e2, -, -⟩ := R.hatE hh
  refine ⟨fun t ht => (R.gust ht).2.2.1, ?_, ?_, fun nm => evX_b _ _ nm⟩
  · exact e1.2
  · exact e2.2
theorem RR.mmw {X M : hMem} (R : RR X M) {h r : Nat} (hh : h < 4) (hr : r < 6) (h15 : M 0 15 = nI r) (hg : gText (X (57 + 4 * r)) (X (58 + 4 * r)) (fun i => M 10 (200 * r + i)) (fun p => M 11 (4 * r + p))) : MM (wOf X M h r) h (X (57 + 4 * r)) (X (58 + 4 * r)) M := by
  obtain ⟨-, -, -, e1, e2, -, -⟩ := R.hatE hh
  exact ⟨hh, fun _ _ => rfl, fun _ _ => ⟨rfl, rfl⟩, n_of_ib e1, n_of_ib e2, ⟨r, hr, h15, hg⟩, rfl⟩
theorem RR.sqE {X M : hMem} (R : RR X M) {h : Nat} (hh : h < 4) : ∃ q l, q < 32 ∧ l < 3 ∧ M 6 h = nI q ∧ M 7 h = nI l ∧ X (7 + h) 2 = nI (stN (q, l)) := by
  obtain ⟨-, -, e3, -, -, e6, e7⟩ := R.hatE hh
  obtain ⟨q, q1, -, q3⟩ := ib_ex e6
  obtain ⟨l, l1, -, l3⟩ := ib_ex e7
  refine ⟨q, l, q1, l1, q3, l3, ?_⟩
  rw [e3, q3, l3, show (32 : Int32) = nI 32 from rfl, pk_mul, nI_add]
  congr 1
  show l * 32 + q = 32 * l + q
  omega
theorem x_think {X M : hMem} (R : RR X M) {h r : Nat} (hh : h < 4) (hr : r < 6) (h17 : X 1 7 = nI r) (hg : gText (X (57 + 4 * r)) (X (58 + 4 * r)) (fun i => M 10 (200 * r + i)) (fun p => M 11 (4 * r + p))) : ∃ X', fX9_think (nI h) X = some X' ∧ MX (wOf X M h r) r X' ∧ X' 40 5 = X (7 + h) 2 ∧ ∀ a, a < 40 ∨ 55 < a → X' a = X a := by
  unfold fX9_think
  rw [if_pos (ib_mk hh (by decide)), h17, if_pos (ib_mk hr (by decide)), nI_clamp (by omega), nI_clamp (by omega)]
  unfold fX8_suppose fX8_suppose_L68
  have hB1 : h_isB hYx (7 + h) 2 0 = true := h_forall (N := 4) (p := fun h => h_isB hYx (7 + h) 2 0) (by decide +kernel) hh
  have hB2 : h_isB hYx (56 + 4 * r) 3 0 = true := h_forall (N := 6) (p := fun T => h_isB hYx (56 + 4 * T) 3 0) (by decide +kernel) hr
  have hB3 : h_cpb 0 0 24 24 24 = true := by decide
  rw [if_pos hB1, if_pos hB2, if_pos hB3, if_pos hB3, Option.bind_some]
  obtain ⟨a1, a2, a3, a4, a5, a6, a7⟩ := R.hatE hh
  refine ⟨_, rfl, ⟨?_, ?_, ?_, ?_, ?_, ?_, hr, ?_, ?_, ?_⟩, ?_, ?_⟩
  · simp (disch := omega) only [m_row, m_own, u_s, u_n, m_cpr]
    exact R.setsE (by omega)
  · simp (disch := omega) only [m_row, m_own, u_s, u_n, m_cpr]
    exact R.setsE (by omega)
  · simp (disch := omega) only [m_row, m_own, u_s, u_n, m_cpr]
    exact R.setsE (by omega)
  · simp (disch := omega) only [m_row, m_own, u_s, u_n, m_cpr]
    exact a1.trans (n_of_ib a4)
  · simp (disch := omega) only [m_row, m_own, u_s, u_n, m_cpr]
    exact a2.trans (n_of_ib a5)
  · intro t ht
    simp (disch := omega) only [m_row, m_own, m_cpr, m_cpo]
    have e24 : (24 : Int32).toNatClampNeg = 24 := by decide
    have e00 : (0 : Int32).toNatClampNeg = 0 := by decide
    rw [e24, e00, pk_cpy_in (by omega) (by omega), pk_cpy_in (by omega) (by omega), Nat.sub_zero, Nat.zero_add]
    exact ⟨(R.gust ht).1, (R.gust ht).2.1⟩
  · simp (disch := omega) only [m_own, u_s]
  · simp (disch := omega) only [m_row, m_own, m_cpr]
    exact ⟨_, _, hg⟩
  · simp (disch := omega) only [m_row, m_own, m_cpr]
    rfl
  · simp (disch := omega) only [m_row, m_own, u_s, u_n, m_cpr]
  · intro a ha
    simp (disch := omega) only [m_row, m_own, m_cpr]
theorem kP.X {X Y Z : hMem} (h : ∀ a, a < 40 ∨ 55 < a → Y a = X a) (g : kP Y Z) : keepX X Z := by
  refine ⟨fun a ha => ?_, ?_⟩
  · unfold kX at ha
    rw [g a (by omega) (by omega), h a (by omega)]
  · rw [g 30 (by omega) (by omega), h 30 (by omega)]
theorem kS.keep {M M' : hMem} (k : kS M M') : keepM M M' := by
  refine ⟨fun a ha => ?_, fun j hj => ?_⟩
  · unfold kM at ha; exact k.1 a (by omega) (by omega) (by omega)
  · unfold kM0 at hj; exact k.2 j (by omega) (by omega)
theorem x_sqS {s : Nat × Nat} (h1 : s.1 < 32) (h2 : s.2 < 3) (M : hMem) : fX9_squareOf (nI (stN s)) M = nI s.1 := x_sqOf h1 h2 M
theorem x_lieS {s : Nat × Nat} (h1 : s.1 < 32) (h2 : s.2 < 3) (M : hMem) : fX9_lieOf (nI (stN s)) M = nI s.2 := x_lieOf h1 h2 M
/-- all that a hat's call begins with -/
theorem RR.ctx {X M : hMem} (R : RR X M) {h H : Nat} (hH : H ≤ 4) (hh : h < H) : ∃ (r q l : Nat) (X1 : hMem), r < 6 ∧ q < 32 ∧ l < 3 ∧ okW (wOf X M h r) ∧ MM (wOf X M h r) h (X (57 + 4 * r)) (X (58 + 4 * r)) M ∧ M 6 h = nI q ∧ M 7 h = nI l ∧ fX9_think (nI h) X = some X1 ∧ MX (wOf X M h r) r X1 ∧ X1 40 5 = nI (stN (q, l)) ∧ (∀ a, a < 40 ∨ 55 < a → X1 a = X a) ∧ M 0 15 = nI r ∧ gText (X (57 + 4 * r)) (X (58 + 4 * r)) (fun i => M 10 (200 * r + i)) (fun p => M 11 (4 * r + p)) := by
  obtain ⟨r, r1, r2, r3, r4⟩ := R.rule
  obtain ⟨q, l, q1, l1, q2, l2, e5⟩ := R.sqE (h := h) (by omega)
  obtain ⟨X1, x1, x2, x3, x4⟩ := x_think R (h := h) (by omega) r1 r2 r4
  exact ⟨r, q, l, X1, r1, q1, l1, R.okw (h := h) (by omega), R.mmw (h := h) (by omega) r1 r3 r4, q2, l2, x1, x2, x3.trans e5, x4, r3, r4⟩
theorem runH0 {X M : hMem} (R : RR X M) (w : hWd) (a n : Nat) (s : Nat × Nat) : runS (hldM M) w a n s = runS noH w a n s := runS_c (fun j _ => hldM_0 R.hold _)
theorem eq_at {X M : hMem} (R : RR X M) (a b c : Int32) : EqC (fX9_at a b c X) (fX10_at a b c M) := by
  obtain ⟨H, hH, hx, hm⟩ := R.hats
  unfold fX9_at fX10_at
  rw [xe_hat hx (by omega), me_hat hm (by omega), b01, b01, xe_beh, me_sec, b01, b01, xe_01, me_in1, b01, b01]
  by_cases ha : h_ib a H
  · by_cases hb : h_ib b 25
    · by_cases hc : h_ib c 2
      · simp only [if_pos ha, if_pos hb, if_pos hc]
        obtain ⟨h, h1, h2, rfl⟩ := ib_ex ha
        obtain ⟨n, n1, n2, rfl⟩ := ib_ex hb
        obtain ⟨r, q, l, X1, r1, q1, l1, ok, mm, q2, l2, x1, x2, x3, x4, -, -⟩ := R.ctx hH h1
        obtain ⟨X2, y1, y2⟩ := x_later ok x2 (a := 0) (b := n) (s := (q, l)) (by omega) (by omega) q1 l1
        obtain ⟨M2, z1, z2, z3, z4⟩ := m_behind ok mm (n := n) (by omega) q1 l1 q2 l2
        rw [x1, Option.bind_some, x3, show fX8_later (nI (stN (q, l))) 0 (nI n) X1 = _ from y1, z1, Option.bind_some, Option.bind_some]
        dsimp only
        have hL := runS_lt (hl := noH) (w := wOf X M h r) (a := 0) (s := (q, l)) q1 l1 n
        rw [runH0 R] at z3 z4 ⊢
        rw [Nat.sub_zero, x_sqS hL.1 hL.2, x_lieS hL.1 hL.2, z4]
        have R' := R.keep (kP.X x4 y2.P) z2.keep
        by_cases e : c = 0
        · rw [if_pos e, if_pos e]; exact EqC.now R'
        · rw [if_neg e, if_neg e]; exact EqC.now R'
      · simp only [if_pos ha, if_pos hb, if_neg hc]; exact EqC.now R
    · simp only [if_pos ha, if_neg hb]; exact EqC.now R
  · simp only [if_neg ha]; exact EqC.now R
