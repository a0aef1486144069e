/-! ASKS, IMAGE, BACK -/
theorem iteA {p q : Prop} [Decidable p] [Decidable q] {α : Type} {A B : α} : (if p then (if q then A else B) else B) = if p ∧ q then A else B := by
  by_cases hp : p
  · by_cases hq : q
    · rw [if_pos hp, if_pos hq, if_pos ⟨hp, hq⟩]
    · rw [if_pos hp, if_neg hq, if_neg (fun h => hq h.2)]
  · rw [if_neg hp, if_neg (fun h => hp h.1)]
theorem if_div' {α : Type} (a : Int32) (n d : Nat) (A B : α) (hn : n + 1 < 2 ^ 31) (hd : 0 < d) (hd2 : d < 2 ^ 31) : (if a < 0 then A else if nI n < a / nI d then A else B) = if h_ib a ((n + 1) * d) then B else A := by
  rw [← if_div a (n + 1) d A B hn hd hd2]
  have e : nI n < a / nI d ↔ nI (n + 1) ≤ a / nI d := by
    rw [Int32.lt_iff_toInt_lt, Int32.le_iff_toInt_le, nI_toInt (by omega), nI_toInt (by omega)]
    omega
  simp only [e]
theorem if_sw {α : Type} {x y : Int32} {A B : α} : (if x ≤ y then B else A) = if y < x then A else B := by
  by_cases h : x ≤ y
  · rw [if_pos h, if_neg (fun q => nlt_le.mp q h)]
  · rw [if_neg h, if_pos (nlt_le.mpr h)]
theorem ib_rem {a : Int32} {n n' m : Nat} (hm : m < 2 ^ 31) (h1 : n ≤ n') (h2 : n' ≤ 2 ^ 31) (h : ∀ j, j < n' → j % 10 < m → j < n) : (h_ib a n' ∧ h_rem a 10 < nI m) ↔ (h_ib a n ∧ h_rem a 10 < nI m) := by
  constructor
  · rintro ⟨q1, q2⟩
    refine ⟨?_, q2⟩
    obtain ⟨j, j1, j2, rfl⟩ := ib_ex q1
    rw [show h_rem (nI j) 10 = nI (j % 10) from n_rem (d := 10) j2 (by decide) (by decide)] at q2
    exact ib_mk (h j j1 ((nI_ltI (by omega) hm).mp q2)) (by omega)
  · exact fun ⟨q1, q2⟩ => ⟨ib_mono q1 h1, q2⟩
theorem x_asksC (a b c d e : Int32) (X : hMem) : fX9_asks a b c d e X = if h_ib a 3 ∧ h_ib d 25 ∧ h_ib e 32 ∧ (h_ib b 100 ∧ h_rem b 10 < nI 3) ∧ (h_ib c 100 ∧ h_rem c 10 < nI 6) then (if h_ib (X 1 7) 6 then ((fX8_tell (b / 10) d (fX9_stateOf e (h_rem b 10) (h_up (h_up (h_up X 40 6 (nI (56 + 4 * (X 1 7).toNatClampNeg))) 40 3 (h_rem c 10)) 40 4 (c / 10))) (h_up (h_up (h_up X 40 6 (nI (56 + 4 * (X 1 7).toNatClampNeg))) 40 3 (h_rem c 10)) 40 4 (c / 10))).bind fun q140 => if h_isB hYx (q140 40 6).toNatClampNeg 3 0 = true then ((fX4_says ((q140 40 6).toNatClampNeg) a q140).bind fun q158 => some (q158.1, q158.2)) else none) else none) else some (-1000, X) := by
  unfold fX9_asks
  generalize (if h_ib (X 1 7) 6 then _ else none : Option (Int32 × hMem)) = G
  rw [q_ge3, xe_beh, b01, xe_sq, b01, show ∀ (B : Option (Int32 × hMem)), (if b < 0 then some ((-1000 : Int32), X) else if 9 < b / 10 then some (-1000, X) else B) = if h_ib b 100 then B else some (-1000, X) from fun B => if_div' b 9 10 _ B (by decide) (by decide) (by decide), show ∀ (B : Option (Int32 × hMem)), (if c < 0 then some ((-1000 : Int32), X) else if 9 < c / 10 then some (-1000, X) else B) = if h_ib c 100 then B else some (-1000, X) from fun B => if_div' c 9 10 _ B (by decide) (by decide) (by decide)]
  simp only [iteA, and_assoc]
  rfl
theorem m_asksC (a b c d e : Int32) (M : hMem) : fX10_asks a b c d e M = if h_ib a 3 ∧ h_ib d 25 ∧ h_ib e 32 ∧ (h_ib b 93 ∧ h_rem b 10 < nI 3) ∧ (h_ib c 96 ∧ h_rem c 10 < nI 6) then ((fX10_asksOf a (b / 10) (h_rem b 10) (c / 10) d e (h_rem c 10) M).bind fun q96 => some (q96.1, q96.2)) else some (-1000, M) := by
  unfold fX10_asks fX10_asks_L66
  rw [show ∀ t, fX10_asks_L67 a b c d e t M = if t = 0 then some (-1000, M) else ((fX10_asksOf a (b / 10) (h_rem b 10) (c / 10) d e (h_rem c 10) M).bind fun q96 => some (q96.1, q96.2)) from fun t => rfl, show ∀ t, fX10_asks_L67 a b c d e t M = if t = 0 then some (-1000, M) else ((fX10_asksOf a (b / 10) (h_rem b 10) (c / 10) d e (h_rem c 10) M).bind fun q96 => some (q96.1, q96.2)) from fun t => rfl]
  generalize ((fX10_asksOf a (b / 10) (h_rem b 10) (c / 10) d e (h_rem c 10) M).bind fun q96 => some (q96.1, q96.2) : Option (Int32 × hMem)) = G
  simp only [show (0 : Int32) = 0 from rfl, if_true, if_neg (show ¬ (1 : Int32) = 0 from by decide)]
  rw [me_in2, b01, show fX10_in b 0 92 M = if h_ib b 93 then 1 else 0 from me_in b 92 M (by decide), b01, if_sw, show fX10_in c 0 95 M = if h_ib c 96 then 1 else 0 from me_in c 95 M (by decide), b01, if_sw, me_sec, b01, me_sq, b01]
  simp only [iteA]
  have e : (h_ib a 3 ∧ h_ib b 93 ∧ h_rem b 10 < 3 ∧ h_ib c 96 ∧ h_rem c 10 < 6 ∧ h_ib d 25 ∧ h_ib e 32) ↔ (h_ib a 3 ∧ h_ib d 25 ∧ h_ib e 32 ∧ (h_ib b 93 ∧ h_rem b 10 < nI 3) ∧ (h_ib c 96 ∧ h_rem c 10 < nI 6)) :=
    ⟨fun ⟨a1, a2, a3, a4, a5, a6, a7⟩ => ⟨a1, a6, a7, ⟨a2, a3⟩, a4, a5⟩, fun ⟨a1, a6, a7, ⟨a2, a3⟩, a4, a5⟩ => ⟨a1, a2, a3, a4, a5, a6, a7⟩⟩
  simp only [e]
theorem eq_asks {X M : hMem} (R : RR X M) (a b c d e : Int32) : EqC (fX9_asks a b c d e X) (fX10_asks a b c d e M) := by
  rw [x_asksC, m_asksC]
  have hb := ib_rem (a := b) (n := 93) (n' := 100) (m := 3) (by decide) (by decide) (by decide) (fun j h1 h2 => by omega)
  have hc := ib_rem (a := c) (n := 96) (n' := 100) (m := 6) (by decide) (by decide) (by decide) (fun j h1 h2 => by omega)
  simp only [hb, hc]
  by_cases hall : h_ib a 3 ∧ h_ib d 25 ∧ h_ib e 32 ∧ (h_ib b 93 ∧ h_rem b 10 < nI 3) ∧ (h_ib c 96 ∧ h_rem c 10 < nI 6)
  rotate_left
  · rw [if_neg hall, if_neg hall]; exact EqC.now R
  rw [if_pos hall, if_pos hall]
  obtain ⟨a1, a2, a3, ⟨a4, a5⟩, a6, a7⟩ := hall
  obtain ⟨p, hp, hp2, rfl⟩ := ib_ex a1
  obtain ⟨q, hq, hq2, rfl⟩ := ib_ex a3
  obtain ⟨j, hj, hj2, rfl⟩ := ib_ex a4
  obtain ⟨r, hr, x17, m15, hg⟩ := R.rule
  rw [show h_rem (nI j) 10 = nI (j % 10) from n_rem (d := 10) hj2 (by decide) (by decide)] at a5 ⊢
  have hl : j % 10 < 3 := (nI_ltI (by omega) (by decide)).mp a5
  generalize j % 10 = l at hl ⊢
  obtain ⟨M', m1, m2⟩ := m_asksOf (s := nI j / 10) (l := nI l) (mo := c / 10) (t := d) (q := nI q) (k := h_rem c 10) hr hp m15 hg (fun _ _ => trivial)
  rw [m1, Option.bind_some, x17, if_pos (ib_mk hr (by omega)), nI_clamp (by omega), x_stOf]
  unfold fX8_tell fX8_tell_L44
  rw [Option.bind_some]
  simp only [x_lieOf hq hl, x_sqOf hq hl]
  obtain ⟨Y, hY⟩ : ∃ Y : hMem, Y = h_up (h_up (h_up X 40 6 (nI (56 + 4 * r))) 40 3 (h_rem c 10)) 40 4 (c / 10) := ⟨_, rfl⟩
  rw [← hY]
  have y4 : Y 40 4 = c / 10 := by rw [hY]; simp (disch := omega) only [m_own, u_s, u_n]
  have y3 : Y 40 3 = h_rem c 10 := by rw [hY]; simp (disch := omega) only [m_own, u_s, u_n]
  have y6 : Y 40 6 = nI (56 + 4 * r) := by rw [hY]; simp (disch := omega) only [m_own, u_s, u_n]
  have yr : ∀ a, a ≠ 40 → Y a = X a := fun a h => by rw [hY]; simp (disch := omega) only [m_row]
  clear hY
  simp (disch := omega) only [m_row, y4, y3]
  obtain ⟨Z, hZ⟩ : ∃ Z : hMem, Z = h_up (h_up (h_up (h_up (h_up (h_up Y 48 0 (nI j / 10)) 48 1 (nI l)) 48 2 (c / 10)) 48 3 d) 48 4 (nI q)) 48 5 (h_rem c 10) := ⟨_, rfl⟩
  rw [← hZ]
  have zr : ∀ a, a ≠ 48 → Z a = Y a := fun a h => by rw [hZ]; simp (disch := omega) only [m_row]
  have z48 : ∀ i, i < 6 → Z 48 i = nmS (nI j / 10) (nI l) (c / 10) d (nI q) (h_rem c 10) i := by
    intro i hi
    rw [hZ]
    simp only [m_own, u_e]
    rcases (by omega : i = 0 ∨ i = 1 ∨ i = 2 ∨ i = 3 ∨ i = 4 ∨ i = 5) with rfl | rfl | rfl | rfl | rfl | rfl <;> rfl
  clear hZ
  rw [y6, nI_clamp (by omega), if_pos (h_forall (N := 6) (p := fun T => h_isB hYx (56 + 4 * T) 3 0) (by decide +kernel) hr)]
  obtain ⟨X', s1, s2⟩ := x_says (c := X (57 + 4 * r)) (e := X (58 + 4 * r)) (nm := Z 48) hr hp hg (by rw [zr _ (by omega), yr _ (by omega)]) (by rw [zr _ (by omega), yr _ (by omega)]) rfl
  rw [s1, Option.bind_some]
  refine EqC.val (evX_c hp hg (fun i hi => ?_)) (R.keep ⟨fun a ha => ?_, ?_⟩ ⟨fun a ha => ?_, fun j hj => ?_⟩)
  · rw [z48 i hi, if_pos hi]
  · unfold kX at ha
    show X' a = X a
    rw [s2 a (by omega), zr a (by omega), yr a (by omega)]
  · show X' 30 0 = X 30 0
    rw [s2 30 (by omega), zr 30 (by omega), yr 30 (by omega)]
  · unfold kM at ha
    exact m2 a (by omega) (by omega)
  · rw [m2 0 (by omega) (by omega)]
