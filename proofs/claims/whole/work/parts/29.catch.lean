/-! CATCHING -/
theorem hadS_lt {W : Int32} {c0 m pace reach : Nat} {sq : Nat → Nat} {n : Nat} (h : hadS W c0 m pace reach sq = some n) (hm : m ≤ 25) : m ≤ n ∧ n ≤ 24 := by
  have := frst_lt h
  omega
theorem m_had {w : hWd} {h : Nat} {c e : Nat → Int32} {M : hMem} (hw : okW w) (mm : MM w h c e M) (h0 : M 0 39 = 0) {q l c0 m pace reach : Nat} (hq : q < 32) (hl : l < 3) (h6 : M 6 h = nI q) (h7 : M 7 h = nI l) (hc : c0 < 32) (hm : m ≤ 24) (hp : pace ≤ 4) (hr : reach ≤ 3) : ∃ M', fX10_had (nI h) (nI c0) (nI m) (nI pace) (nI reach) M = some (ansI (hadS (w.1 0) c0 m pace reach (fun n => (runS noH w 0 n (q, l)).1)), M') ∧ kQ M M' ∧ ∀ n, hadS (w.1 0) c0 m pace reach (fun n => (runS noH w 0 n (q, l)).1) = some n → M' 0 36 = nI (runS noH w 0 n (q, l)).1 ∧ M' 0 37 = nI (runS noH w 0 n (q, l)).2 := by
  unfold fX10_had
  obtain ⟨M1, s1, s2, s3⟩ := m_spreads (M := M) (mm.2.1 0 (by omega)) hc
  have k1 := s2.Q
  have kb : kQ M (h_up (h_up M1 0 36 (nI q)) 0 37 (nI l)) := k1.tr (kS_b M1 _ _).Q
  rw [s1, Option.bind_some, m_begins mm.1, Option.bind_some, s2 6 (by omega), s2 7 (by omega), h6, h7]
  obtain ⟨M2, g1, g2, g3, g4⟩ := m_goesOn hw (mm.kQ kb) (n := m) hm hq hl (by rw [m_own, u_n (by omega), m_own, u_s]) (by rw [m_own, u_s])
  have k2 := kb.tr g2.Q
  have hno : hldM (h_up (h_up M1 0 36 (nI q)) 0 37 (nI l)) = noH := by rw [hldM_q kb]; funext t; exact hldM_0 h0 t
  rw [hno] at g3 g4
  rw [g1, Option.bind_some]
  have far : ∀ Y : hMem, kS M2 Y → ∀ c, c < 32 → (∃ d, d ≤ 31 ∧ Y 23 c = nI d ∧ fstA (w.1 0) c0 d c) ∨ (Y 23 c = -1 ∧ ∀ k, rch (w.1 0) c0 k c = false) := fun Y kY c hcc => by
    rw [kY.1 23 (by omega) (by omega) (by omega), g2.1 23 (by omega) (by omega) (by omega), m_row (by omega), m_row (by omega)]; exact s3 c hcc
  obtain ⟨r, f1, f2, f3, f4⟩ := lp_up (body := fX10_had_L19 (nI h) (nI m) (nI pace) (nI reach)) 25 (fun i z => ∃ Y : hMem, z = (nI i, Y) ∧ kS M2 Y ∧ m ≤ i ∧ (i ≤ 24 → Y 0 36 = nI (runS noH w 0 i (q, l)).1 ∧ Y 0 37 = nI (runS noH w 0 i (q, l)).2) ∧ frst (fun n => rch (w.1 0) c0 (reach + pace * (n - m)) (runS noH w 0 n (q, l)).1) (25 - i) i = hadS (w.1 0) c0 m pace reach (fun n => (runS noH w 0 n (q, l)).1)) (fun r => r.1 = ansI (hadS (w.1 0) c0 m pace reach (fun n => (runS noH w 0 n (q, l)).1)) ∧ kS M2 r.2 ∧ ∀ n, hadS (w.1 0) c0 m pace reach (fun n => (runS noH w 0 n (q, l)).1) = some n → r.2 0 36 = nI (runS noH w 0 n (q, l)).1 ∧ r.2 0 37 = nI (runS noH w 0 n (q, l)).2) (by
    rintro k z ⟨Y, rfl, kY, -, -, hf⟩
    unfold fX10_had_L19
    dsimp only
    rw [if_pos (by decide)]
    exact ⟨_, rfl, by rw [← hf]; rfl, kY, fun n hn => by rw [← hf] at hn; cases hn⟩) (by
    rintro k i z hi ⟨Y, rfl, kY, hmi, hy, hf⟩ hk
    unfold fX10_had_L19
    dsimp only
    obtain ⟨y1, y2⟩ := hy (by omega)
    have hL := runS_lt (hl := noH) (w := w) (a := 0) (s := (q, l)) hq hl i
    obtain ⟨t, ht⟩ : ∃ t, 25 - i = t + 1 := ⟨24 - i, by omega⟩
    rw [ht, frst_s] at hf
    have L64 : rch (w.1 0) c0 (reach + pace * (i - m)) (runS noH w 0 i (q, l)).1 = false → ∃ r, fX10_had_L64 k (nI h) (nI m) (nI pace) (nI reach) (nI i) Y = some r ∧ (r.1 = ansI (hadS (w.1 0) c0 m pace reach (fun n => (runS noH w 0 n (q, l)).1)) ∧ kS M2 r.2 ∧ ∀ n, hadS (w.1 0) c0 m pace reach (fun n => (runS noH w 0 n (q, l)).1) = some n → r.2 0 36 = nI (runS noH w 0 n (q, l)).1 ∧ r.2 0 37 = nI (runS noH w 0 n (q, l)).2) := by
      intro hb
      rw [if_neg (by rw [hb]; decide)] at hf
      unfold fX10_had_L64
      rw [nI_1]
      rcases Nat.lt_or_ge i 24 with hlt | hge
      · rw [if_neg (show ¬ (24 : Int32) ≤ nI i from nI_ge (b := 24) hlt (by decide))]
        obtain ⟨Y', e1, e2, e3, e4⟩ := m_seconds hw (mm.kQ (k2.tr kY.Q)) (t := i) hlt hL.1 hL.2 y1 y2
        have hno2 : hldM Y = noH := by rw [hldM_q (k2.tr kY.Q)]; funext t; exact hldM_0 h0 t
        rw [hno2, if_neg (show ¬ noH i = true from Bool.false_ne_true)] at e3 e4
        rw [e1, Option.bind_some]
        refine hk _ ⟨Y', rfl, kY.tr e2, by omega, fun _ => ⟨?_, ?_⟩, by rw [show 25 - (i + 1) = t from by omega]; exact hf⟩
        · rw [e3, runS_s, Nat.zero_add]; rfl
        · rw [e4, runS_s, Nat.zero_add]; rfl
      · rw [if_pos (show (24 : Int32) ≤ nI i from nI_le (a := 24) hge (by omega))]
        exact hk _ ⟨Y, rfl, kY, by omega, fun hh => absurd hh (by omega), by rw [show 25 - (i + 1) = t from by omega]; exact hf⟩
    rw [if_neg (show ¬ (24 : Int32) < nI i from nI_nlt (b := i) (a := 24) (by omega) (by decide))]
    simp only [y1]
    rw [if_pos (ib_mk hL.1 (by decide)), if_pos (ib_mk hL.1 (by decide))]
    simp only [nI_clamp (show (runS noH w 0 i (q, l)).1 < 2 ^ 31 by omega)]
    rcases far Y kY _ hL.1 with ⟨d, d1, d2, d3⟩ | ⟨d2, d3⟩
    · have ev : nI pace * (nI i - nI m) + nI reach = nI (pace * (i - m) + reach) := by rw [pk_sub (by omega), pk_mul, nI_add]
      have hbig : pace * (i - m) + reach < 2 ^ 31 := by
        have : pace * (i - m) ≤ 4 * 24 := Nat.mul_le_mul hp (by omega)
        omega
      rw [d2, if_neg (n_m1 (by omega)), ev]
      by_cases hb : rch (w.1 0) c0 (reach + pace * (i - m)) (runS noH w 0 i (q, l)).1 = true
      · rw [if_pos hb] at hf
        have hle : d ≤ pace * (i - m) + reach := by
          obtain ⟨d', e1, e2⟩ := rch_fst hb
          have := fstA_one e2 d3
          omega
        rw [if_neg (nI_nlt (by omega) (by omega))]
        exact ⟨_, rfl, by rw [← hf]; rfl, kY, fun n hn => by rw [← hf] at hn; cases hn; exact ⟨y1, y2⟩⟩
      · have hlt : pace * (i - m) + reach < d := by
          rcases Nat.lt_or_ge (pace * (i - m) + reach) d with g | g
          · exact g
          · exact absurd (rch_le d3.1 (by omega)) hb
        rw [if_pos (nI_lt hlt (by omega))]
        exact L64 (eq_false_of_ne_true hb)
    · rw [if_pos d2]
      exact L64 (d3 _)) h_FU m (nI m, M2) (by omega) ⟨M2, rfl, kS.rf M2, Nat.le_refl _, fun _ => ⟨g3, g4⟩, rfl⟩ (by unfold h_FU; omega)
  exact ⟨r.2, by rw [f1, ← f2], k2.tr f3.Q, f4⟩
/-- a catcher -/
theorem RR.cctx {X M : hMem} (R : RR X M) {p : Nat} (hp : p < 4) : ∃ c0 pace reach : Nat, c0 < 32 ∧ pace ≤ 4 ∧ reach ≤ 3 ∧ M 8 (3 * p) = nI c0 ∧ M 8 (3 * p + 1) = nI pace ∧ M 8 (3 * p + 2) = nI reach ∧ X (11 + p) 0 = nI c0 ∧ X (11 + p) 1 = nI pace ∧ X (11 + p) 2 = nI reach := by
  obtain ⟨e0, e1, e2, b0, b1, b2⟩ := R.catE hp
  obtain ⟨c0, c1, -, c3⟩ := ib_ex b0
  obtain ⟨pa, p1, -, p3⟩ := ib_ex b1
  obtain ⟨re, r1, -, r3⟩ := ib_ex b2
  exact ⟨c0, pa, re, c1, by omega, by omega, c3, p3, r3, e0.trans c3, e1.trans p3, e2.trans r3⟩
theorem c3a {p : Nat} (hp : p < 4) : (3 : Int32) * nI p = nI (3 * p) := pk_mul 3 p
theorem m_hadBy {w : hWd} {h : Nat} {c e : Nat → Int32} {M : hMem} (hw : okW w) (mm : MM w h c e M) (h0 : M 0 39 = 0) {q l c0 p pace reach : Nat} (hq : q < 32) (hl : l < 3) (h6 : M 6 h = nI q) (h7 : M 7 h = nI l) (hpp : p < 4) (hc : c0 < 32) (hp : pace ≤ 4) (hr : reach ≤ 3) (e0 : M 8 (3 * p) = nI c0) (e1 : M 8 (3 * p + 1) = nI pace) (e2 : M 8 (3 * p + 2) = nI reach) : ∃ M', fX10_hadBy (nI h) (nI p) M = some (ansI (hadS (w.1 0) c0 0 pace reach (fun n => (runS noH w 0 n (q, l)).1)), M') ∧ kQ M M' ∧ ∀ n, hadS (w.1 0) c0 0 pace reach (fun n => (runS noH w 0 n (q, l)).1) = some n → M' 0 36 = nI (runS noH w 0 n (q, l)).1 ∧ M' 0 37 = nI (runS noH w 0 n (q, l)).2 := by
  unfold fX10_hadBy
  rw [c3a hpp, show nI (3 * p) + 1 = nI (3 * p + 1) from nI_1 _, show nI (3 * p) + 2 = nI (3 * p + 2) from nI_add _ 2, if_pos (ib_mk (by omega) (by decide)), if_pos (ib_mk (by omega) (by decide)), if_pos (ib_mk (by omega) (by decide)), nI_clamp (by omega), nI_clamp (by omega), nI_clamp (by omega), e0, e1, e2]
  obtain ⟨M', g1, g2, g3⟩ := m_had hw mm h0 (m := 0) hq hl h6 h7 hc (by omega) hp hr
  rw [show fX10_had (nI h) (nI c0) 0 (nI pace) (nI reach) M = _ from g1, Option.bind_some]
  exact ⟨M', rfl, g2, g3⟩
theorem x_hadBy {w : hWd} {T : Nat} {X : hMem} (hw : okW w) (mx : MX w T X) {s : Nat × Nat} (h5 : X 40 5 = nI (stN s)) (h1 : s.1 < 32) (h2 : s.2 < 3) {p c0 pace reach : Nat} (hpp : p < 4) (hc : c0 < 32) (hp : pace ≤ 4) (hr : reach ≤ 3) (e0 : X (11 + p) 0 = nI c0) (e1 : X (11 + p) 1 = nI pace) (e2 : X (11 + p) 2 = nI reach) : ∃ X', fX8_hadBy (11 + p) X = some (ansI (hadS (w.1 0) c0 0 pace reach (fun n => (runS noH w 0 n s).1)), X') ∧ (∀ q, q ≠ 47 → q ≠ 48 → ¬ (59 ≤ q ∧ q < 80 ∧ q % 4 = 3) → X' q = X q) ∧ ∀ n, n ≤ 24 → X' 47 n = nI (stN (runS noH w 0 n s)) := by
  unfold fX8_hadBy
  have hB : h_isB hYx (11 + p) 0 0 = true := h_forall (N := 4) (p := fun p => h_isB hYx (11 + p) 0 0) (by decide +kernel) hpp
  obtain ⟨X', f1, f2, f3⟩ := x_follow hw mx (a := 47) (Or.inl rfl) h5 h1 h2
  rw [if_pos hB, f1, Option.bind_some, f2 (11 + p) (by omega) (by omega) (by omega), e0, e1, e2]
  have hh := x_had (X := X') (W := w.1 0) (a := 47) (s := fun n => runS noH w 0 n s) (by rw [f2 40 (by omega) (by omega) (by omega)]; exact mx.1) (Or.inl rfl) (fun n hn => ⟨f3 n hn, (runS_lt h1 h2 n).1, (runS_lt h1 h2 n).2⟩) (c0 := c0) (m := 0) hc (by omega) hp hr
  rw [show fX8_had 47 (nI c0) 0 (nI pace) (nI reach) X' = _ from hh, Option.bind_some]
  exact ⟨X', rfl, f2, f3⟩
/-- what both sides find of a hat and a catcher, as all is now -/
theorem had_now {X M : hMem} (R : RR X M) {h p H : Nat} (hH : H ≤ 4) (hh : h < H) (hp : p < 4) : ∃ (o : Option Nat) (X' M' : hMem), fX9_hadNow (nI h) (nI p) X = some (ansI o, X') ∧ fX10_hadBy (nI h) (nI p) M = some (ansI o, M') ∧ RR X' M' ∧ (∀ n, o = some n → n ≤ 24) := by
  obtain ⟨r, q, l, X1, r1, q1, l1, ok, mm, q2, l2, x1, x2, x3, x4, -, -⟩ := R.ctx hH hh
  obtain ⟨c0, pa, re, c1, p1, e1, m0, m1, m2, y0, y1, y2⟩ := R.cctx hp
  obtain ⟨X2, f1, f2, f3⟩ := x_hadBy ok x2 (s := (q, l)) x3 q1 l1 hp c1 p1 e1 (by rw [x4 _ (by omega)]; exact y0) (by rw [x4 _ (by omega)]; exact y1) (by rw [x4 _ (by omega)]; exact y2)
  obtain ⟨M2, g1, g2, g3⟩ := m_hadBy ok mm R.hold q1 l1 q2 l2 hp c1 p1 e1 m0 m1 m2
  refine ⟨_, X2, M2, ?_, g1, R.keep (kP.X x4 (fun a h1 h2 => f2 a (by omega) (by omega) h2)) g2.keep, fun n hn => (hadS_lt hn (by omega)).2⟩
  unfold fX9_hadNow
  rw [x1, Option.bind_some, if_pos (ib_mk hp (by decide)), nI_clamp (by omega), f1, Option.bind_some]
theorem eq_caught {X M : hMem} (R : RR X M) (a b : Int32) : EqC (fX9_caught a b X) (fX10_caught a b M) := by
  obtain ⟨H, hH, hx, hm⟩ := R.hats
  obtain ⟨C, hC, cx, cm⟩ := R.cats
  unfold fX9_caught fX10_caught fX10_areThere
  rw [xe_hat hx (by omega), me_hat hm (by omega), xe_cat cx (by omega), me_cat cm (by omega), b01, b01, b01, b01]
  by_cases ha : h_ib a H
  · by_cases hb : h_ib b C
    · simp only [if_pos ha, if_pos hb]
      obtain ⟨h, h1, h2, rfl⟩ := ib_ex ha
      obtain ⟨p, p1, p2, rfl⟩ := ib_ex hb
      obtain ⟨o, X', M', e1, e2, R', -⟩ := had_now R hH h1 (p := p) (by omega)
      rw [e1, e2, if_neg (by decide)]
      exact EqC.now R'
    · simp only [if_pos ha, if_neg hb, if_true]; exact EqC.now R
  · simp only [if_neg ha, if_true]; exact EqC.now R
/-! sooner -/
def soon (o f : Option Nat) : Bool := match o with | none => false | some n => (match f with | none => true | some v => decide (n < v))
def okO (o : Option Nat) : Prop := ∀ n, o = some n → n < 2 ^ 30
theorem x_sooner {o f : Option Nat} (ho : okO o) (hf : okO f) (X : hMem) : fX9_isSooner (ansI o) (ansI f) X = if soon o f = true then 1 else 0 := by
  unfold fX9_isSooner
  cases o with
  | none => rfl
  | some n =>
    have := ho n rfl
    show (if nI n < 0 then _ else _) = _
    rw [if_neg (nI_pos (by omega))]
    cases f with
    | none => rfl
    | some v =>
      have := hf v rfl
      show (if nI v < 0 then _ else if nI v ≤ nI n then _ else _) = _
      rw [if_neg (nI_pos (by omega))]
      by_cases h : n < v
      · rw [if_neg (nI_ge h (by omega)), if_pos (by exact decide_eq_true h)]
      · rw [if_pos (nI_le (by omega) (by omega)), if_neg (by show ¬ decide (n < v) = true; rw [decide_eq_false h]; decide)]
theorem m_sooner {o f : Option Nat} (ho : okO o) (hf : okO f) (X : hMem) : fX10_isSooner (ansI o) (ansI f) X = if soon o f = true then 1 else 0 := by
  unfold fX10_isSooner
  cases o with
  | none => rfl
  | some n =>
    have := ho n rfl
    show (if nI n = -1 then _ else _) = _
    rw [if_neg (n_m1 (by omega))]
    cases f with
    | none => rfl
    | some v =>
      have := hf v rfl
      show (if nI v = -1 then _ else if nI v ≤ nI n then _ else _) = _
      rw [if_neg (n_m1 (by omega))]
      by_cases h : n < v
      · rw [if_neg (nI_ge h (by omega)), if_pos (by exact decide_eq_true h)]
      · rw [if_pos (nI_le (by omega) (by omega)), if_neg (by show ¬ decide (n < v) = true; rw [decide_eq_false h]; decide)]
/-- the best so far and its number: none of both, or both -/
def okB (b : Int32) (f : Option Nat) : Prop := (f = none ∧ b = -1) ∨ (¬ f = none ∧ ¬ b = -1)
/-- the longer way to say it -/
theorem m_less {α : Type} {o f : Option Nat} (ho : okO o) (hf : okO f) {b : Int32} (hb : okB b f) (A B : α) : (if ansI o = -1 then A else if b = -1 then B else if ansI f ≤ ansI o then A else B) = if soon o f = true then B else A := by
  cases o with
  | none => rfl
  | some n =>
    have := ho n rfl
    rw [if_neg (show ¬ ansI (some n) = -1 from n_m1 (by omega))]
    cases f with
    | none =>
      rcases hb with ⟨-, h⟩ | ⟨h, -⟩
      · rw [if_pos h]; rfl
      · exact absurd rfl h
    | some v =>
      have := hf v rfl
      rcases hb with ⟨h, -⟩ | ⟨-, h⟩
      · cases h
      · rw [if_neg h]
        by_cases h : n < v
        · rw [if_neg (show ¬ ansI (some v) ≤ ansI (some n) from nI_ge h (by omega)), if_pos (by exact decide_eq_true h)]
        · rw [if_pos (show ansI (some v) ≤ ansI (some n) from nI_le (by omega) (by omega)), if_neg (by show ¬ decide (n < v) = true; rw [decide_eq_false h]; decide)]
theorem okB_new {i : Nat} (hi : i < 2 ^ 31) {o f : Option Nat} (h : soon o f = true) : okB (nI i) o := by
  cases o with
  | none => cases h
  | some n => exact Or.inr ⟨by simp, n_m1 hi⟩
theorem hadS_ok {W : Int32} {c0 m pace reach : Nat} {sq : Nat → Nat} (hm : m ≤ 25) : okO (hadS W c0 m pace reach sq) := fun n h => by have := hadS_lt h hm; omega
theorem eq_who {X M : hMem} (R : RR X M) (a c : Int32) : EqC (fX9_who a c X) (fX10_who a c M) := by
  obtain ⟨H, hH, hx, hm⟩ := R.hats
  obtain ⟨C, hC, cx, cm⟩ := R.cats
  unfold fX9_who fX10_who
  rw [xe_hat hx (by omega), me_hat hm (by omega), b01, b01, xe_01, me_in1, b01, b01]
  by_cases ha : h_ib a H
  · by_cases hc : h_ib c 2
    · simp only [if_pos ha, if_pos hc]
      obtain ⟨h, h1, h2, rfl⟩ := ib_ex ha
      obtain ⟨r, q, l, X1, r1, q1, l1, ok, mm, q2, l2, x1, x2, x3, x4, -, -⟩ := R.ctx hH h1
      obtain ⟨X2, f1, f2, f3⟩ := x_follow ok x2 (a := 47) (Or.inl rfl) x3 q1 l1
      rw [x1, Option.bind_some, f1, Option.bind_some]
      have kx : keepX X X2 := kP.X x4 (fun a h1 h2 => f2 a (by omega) (by omega) h2)
      refine EqC.of (lp20 (body := fX9_who_L48 c X2) (body' := fX10_who_L31 (nI h) c) C (fun i s s' => ∃ (b : Int32) (f : Option Nat) (N : hMem), s = (b, ansI f, nI i) ∧ s' = (b, ansI f, nI i, N) ∧ okO f ∧ okB b f ∧ kQ M N) EqQ _ _ ⟨-1, none, M, rfl, rfl, fun n h => (by cases h), Or.inl ⟨rfl, rfl⟩, kQ.rf M⟩ (by omega) ?_ ?_)
      · rintro k k' s s' ⟨b, f, N, rfl, rfl, of, ob, kN⟩
        unfold fX9_who_L48 fX10_who_L31
        dsimp only
        have R' := R.keep kx kN.keep
        simp only [f2 1 (by omega) (by omega) (by omega), x4 1 (by omega), cx, kN.2 8 (by omega) (by omega), cm]
        rw [if_pos (nI_le (Nat.le_refl _) (by omega)), if_pos (nI_le (Nat.le_refl _) (by omega))]
        by_cases ec : c = 0
        · rw [if_pos ec, if_pos ec]; exact ⟨_, _, rfl, rfl, rfl, R'⟩
        · rw [if_neg ec, if_neg ec]; exact ⟨_, _, rfl, rfl, rfl, R'⟩
      · rintro k k' i s s' hi ⟨b, f, N, rfl, rfl, of, ob, kN⟩ hk
        unfold fX9_who_L48 fX10_who_L31
        dsimp only
        simp only [f2 1 (by omega) (by omega) (by omega), x4 1 (by omega), cx, kN.2 8 (by omega) (by omega), cm]
        rw [if_neg (nI_ge hi (by omega)), if_neg (nI_ge hi (by omega)), if_pos (ib_mk (by omega) (by decide)), nI_clamp (by omega)]
        obtain ⟨c0, pa, re, c1, p1, e1, m0, m1, m2, y0, y1, y2⟩ := R.cctx (p := i) (by omega)
        have hh := x_had (X := X2) (W := M 1 0) (a := 47) (s := fun n => runS noH (wOf X M h r) 0 n (q, l)) (by rw [f2 40 (by omega) (by omega) (by omega)]; exact x2.1) (Or.inl rfl) (fun n hn => ⟨f3 n hn, (runS_lt (s := (q, l)) q1 l1 n).1, (runS_lt (s := (q, l)) q1 l1 n).2⟩) (c0 := c0) (m := 0) c1 (by omega) p1 e1
        obtain ⟨N2, g1, g2, -⟩ := m_hadBy ok (mm.kQ kN) (by rw [kN.2 39 (by omega) (by omega)]; exact R.hold) q1 l1 (by rw [kN.1 6 (by omega)]; exact q2) (by rw [kN.1 7 (by omega)]; exact l2) (p := i) (by omega) c1 p1 e1 (by rw [kN.1 8 (by omega)]; exact m0) (by rw [kN.1 8 (by omega)]; exact m1) (by rw [kN.1 8 (by omega)]; exact m2)
        rw [show (wOf X M h r).1 0 = M 1 0 from rfl] at g1
        have oo := hadS_ok (W := M 1 0) (c0 := c0) (m := 0) (pace := pa) (reach := re) (sq := fun n => (runS noH (wOf X M h r) 0 n (q, l)).1) (by omega)
        generalize hadS (M 1 0) c0 0 pa re (fun n => (runS noH (wOf X M h r) 0 n (q, l)).1) = o at oo hh g1
        rw [f2 (11 + i) (by omega) (by omega) (by omega), x4 (11 + i) (by omega), y0, y1, y2, show fX8_had 47 (nI c0) 0 (nI pa) (nI re) X2 = _ from hh, g1, Option.bind_some, Option.bind_some]
        dsimp only
        rw [x_sooner oo of, b01, m_less oo of ob]
        unfold fX10_who_L71 fX10_who_L67 fX10_who_L72 fX10_who_L85
        have kN2 := kN.tr g2
        by_cases hs : soon o f = true
        · rw [if_pos hs, if_pos hs, if_neg (by decide), if_neg (by decide), nI_1]
          exact hk _ _ ⟨_, o, N2, rfl, rfl, oo, okB_new (by omega) hs, kN2⟩
        · rw [if_neg hs, if_neg hs, if_pos rfl, if_pos rfl, nI_1]
          exact hk _ _ ⟨_, f, N2, rfl, rfl, of, ob, kN2⟩
    · simp only [if_pos ha, if_neg hc]; exact EqC.now R
  · simp only [if_neg ha]; exact EqC.now R
