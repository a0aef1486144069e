/-! TEXT: x reads a text -/
abbrev pF (b : Nat → Int32) (n : Nat) : Nat → Nat := plc b n
def XE (T : Nat) (X X' : hMem) : Prop := (∀ a, a ≠ 30 → a ≠ 32 → a ≠ 33 → a ≠ 34 → a ≠ 56 + 4 * T → a ≠ 57 + 4 * T → a ≠ 58 + 4 * T → X' a = X a) ∧ X' 30 0 = 0
theorem XE.of {T : Nat} {X Y Y' Y0 : hMem} (hY : ∀ a, a ≠ 30 → a ≠ 32 → a ≠ 33 → a ≠ 34 → a ≠ 56 + 4 * T → Y a = X a) (h0 : Y 30 0 = 0) (h1 : ∀ a, a ≠ 30 → a ≠ 56 + 4 * T → a ≠ 57 + 4 * T → Y' a = Y0 a) (h2 : Y' 30 0 = Y0 30 0) (h3 : ∀ a, a ≠ 58 + 4 * T → Y0 a = Y a) : XE T X Y' := ⟨fun a a1 a2 a3 a4 a5 a6 a7 => by rw [h1 a a1 a5 a6, h3 a a7, hY a a1 a2 a3 a4 a5], by rw [h2, h3 30 (by omega), h0]⟩
theorem x_into {b : Nat → Int32} {n T E : Nat} {X : hMem} (hT : T < 6) (hTX : TXx b n X) (hb : ∀ i, i < 160 → h_ib (b i) 256) (hE : tkE E (ktF b n)) (hmin : ∀ j, j < E → ktF b n j ≠ 0 ∧ ktF b n j ≠ 1) : (∀ kf, txt (ktF b n) (vtF b n) = .error kf → ∃ X', fX5_readInto (56 + 4 * T) X = some (nI (plc b n kf), X') ∧ XE T X X') ∧ ∀ w1 w2 w3, txt (ktF b n) (vtF b n) = .ok (w1, w2, w3) → ∃ X', fX5_readInto (56 + 4 * T) X = some (-1, X') ∧ XE T X X' ∧ (∀ i, i < (w1 ++ w2 ++ w3).length → X' (57 + 4 * T) i = (w1 ++ w2 ++ w3).getD i 0) ∧ X' (58 + 4 * T) 0 = nI w1.length ∧ X' (58 + 4 * T) 1 = nI (w1 ++ w2).length ∧ X' (58 + 4 * T) 2 = nI (w1 ++ w2 ++ w3).length ∧ (w1 ++ w2 ++ w3).length ≤ 160 := by
  have hE160 := hE.1
  have hn := hTX.1
  have hP : ∀ k, plc b n k < 2 ^ 31 := fun k => by have := plc_le b n k; omega
  obtain ⟨q1, p1, p2, p3⟩ := x_parts hTX hb
  unfold fX5_readInto fX4_clear
  rw [if_pos (tx_isB hT), p1, Option.bind_some]
  have e8 : (h_up (h_up (h_up q1 30 0 0) 30 7 (-1)) 30 8 (nI (56 + 4 * T))) 30 8 = nI (56 + 4 * T) := by rw [m_own, u_s]
  rw [e8, nI_clamp (by omega), if_pos (tx_isB hT), if_pos (tx_isB hT), Option.bind_some]
  obtain ⟨Y, hYd⟩ : ∃ Y : hMem, Y = h_up (h_up (h_up (h_up (h_up (h_up q1 30 0 0) 30 7 (-1)) 30 8 (nI (56 + 4 * T))) (56 + 4 * T) 3 0) 30 5 0) 30 6 ((h_up (h_up (h_up (h_up (h_up q1 30 0 0) 30 7 (-1)) 30 8 (nI (56 + 4 * T))) (56 + 4 * T) 3 0) 30 5 0) 32 0) := ⟨_, rfl⟩
  rw [← hYd]
  have row : ∀ a, a ≠ 30 → a ≠ 56 + 4 * T → Y a = q1 a := fun a a1 a2 => by rw [hYd]; simp only [m_row a1, m_row a2]
  have hrows : ∀ k, k ≤ E → q1 32 k = ktF b n k ∧ q1 33 k = nI (plc b n k) ∧ q1 34 k = vtF b n k := fun k hk => p3 k (by omega) (fun j hj => hmin j (by omega))
  have hYX : ∀ a, a ≠ 30 → a ≠ 32 → a ≠ 33 → a ≠ 34 → a ≠ 56 + 4 * T → Y a = X a := fun a a1 a2 a3 a4 a5 => by rw [row a a1 a5, p2 a a2 a3 a4]
  have hY0 : Y 30 0 = 0 := by rw [hYd]; simp (disch := omega) only [m_own, m_row, u_n, u_s]
  have hS : XS T E (ktF b n) (vtF b n) (plc b n) Y 0 [] Y := by
    refine ⟨⟨fun k hk => ?_, fun k hk => ?_, fun k hk => ?_, ?_, fun _ _ _ _ => rfl, rfl⟩, ?_, ?_, ?_, Nat.zero_le _, ?_, fun i hi => absurd hi (Nat.not_lt_zero _)⟩
    · rw [row 32 (by omega) (by omega)]; exact (hrows k hk).1
    · rw [row 33 (by omega) (by omega)]; exact (hrows k hk).2.1
    · rw [row 34 (by omega) (by omega)]; exact (hrows k hk).2.2
    · rw [hYd]; simp (disch := omega) only [m_own, m_row, u_n, u_s]
    · rw [hYd]; simp (disch := omega) only [m_own, m_row, u_n, u_s]; rfl
    · rw [hYd]; simp (disch := omega) only [m_own, m_row, u_s]; exact (hrows 0 (Nat.zero_le _)).1
    · rw [hYd]; simp (disch := omega) only [m_own, m_row, u_n, u_s]
    · rw [hYd]; simp (disch := omega) only [m_own, m_row, u_s]; rfl
  clear hYd
  have r58 : ∀ (Z : hMem) j v a, a ≠ 58 + 4 * T → h_up Z (58 + 4 * T) j v a = Z a := fun Z j v a h => m_row h
  have fin : ∀ {kf : Nat} {Y0 Z : hMem}, XF T E (ktF b n) (vtF b n) (plc b n) Y0 kf Z → (∀ a, a ≠ 58 + 4 * T → Y0 a = Y a) → ∃ X', (fX5_expect 0 Z).bind (fun q62 => some (q62 30 7, q62)) = some (nI (plc b n kf), X') ∧ XE T X X' := fun {kf} {Y0} {Z} h h0 => by
    obtain ⟨Z2, a1, a2⟩ := h.exp hT (hP kf) (a := 0) (by decide)
    rw [a1, Option.bind_some, a2.2.2.1]
    exact ⟨Z2, rfl, XE.of hYX hY0 a2.1.2.2.2.2.1 a2.1.2.2.2.2.2 h0⟩
  unfold txt
  obtain ⟨Y1, a1, a2, a3⟩ := x_part (a := 0) (key := 4) hT hE hP (by omega) (by decide) (by decide) hS (Nat.zero_le _)
  rw [show fX5_readPart 4 0 Y = some Y1 from a1, Option.bind_some]
  cases c1 : prt (ktF b n) (vtF b n) 4 0 with
  | error kf =>
    obtain ⟨⟨v, d1⟩, d2⟩ := a3 kf c1
    obtain ⟨Y2, v2, e1, e2⟩ := f_part (a := 1) (key := 5) hT hP (by omega) (by decide) d1
    obtain ⟨Y3, v3, f1, f2⟩ := f_part (a := 2) (key := 6) hT hP (by omega) (by decide) e2
    obtain ⟨X', g1, g2⟩ := fin f2 (fun a h => by rw [r58 _ _ _ a h, r58 _ _ _ a h, r58 _ _ _ a h])
    rw [show fX5_readPart 5 1 Y1 = some Y2 from e1, Option.bind_some, show fX5_readPart 6 2 Y2 = some Y3 from f1, Option.bind_some]
    exact ⟨fun kf' e => (by cases e; exact ⟨X', g1, g2⟩), fun w1 w2 w3 e => (by cases e)⟩
  | ok s1 =>
    obtain ⟨d1, d2⟩ := a2 s1 c1
    obtain ⟨Y2, e1, e2, e3⟩ := x_part (a := 1) (key := 5) hT hE hP (by omega) (by decide) (by decide) d1 d2
    rw [show fX5_readPart 5 1 Y1 = some Y2 from e1, Option.bind_some]
    dsimp only
    cases c2 : prt (ktF b n) (vtF b n) 5 s1.2 with
    | error kf =>
      obtain ⟨⟨v, f1⟩, f2⟩ := e3 kf c2
      obtain ⟨Y3, v3, g1, g2⟩ := f_part (a := 2) (key := 6) hT hP (by omega) (by decide) f1
      obtain ⟨X', i1, i2⟩ := fin g2 (fun a h => by rw [r58 _ _ _ a h, r58 _ _ _ a h, r58 _ _ _ a h])
      rw [show fX5_readPart 6 2 Y2 = some Y3 from g1, Option.bind_some]
      exact ⟨fun kf' e => (by cases e; exact ⟨X', i1, i2⟩), fun w1 w2 w3 e => (by cases e)⟩
    | ok s2 =>
      obtain ⟨f1, f2⟩ := e2 s2 c2
      obtain ⟨Y3, g1, g2, g3⟩ := x_part (a := 2) (key := 6) hT hE hP (by omega) (by decide) (by decide) f1 f2
      rw [show fX5_readPart 6 2 Y2 = some Y3 from g1, Option.bind_some]
      dsimp only
      cases c3 : prt (ktF b n) (vtF b n) 6 s2.2 with
      | error kf =>
        obtain ⟨⟨v, i1⟩, i2⟩ := g3 kf c3
        obtain ⟨X', j1, j2⟩ := fin i1 (fun a h => by rw [r58 _ _ _ a h, r58 _ _ _ a h, r58 _ _ _ a h])
        exact ⟨fun kf' e => (by cases e; exact ⟨X', j1, j2⟩), fun w1 w2 w3 e => (by cases e)⟩
      | ok s3 =>
        obtain ⟨i1, i2⟩ := g2 s3 c3
        have hk3 := i1.2.2.2.2.1
        obtain ⟨Z, j1, j2, j3, j4⟩ := x_last hT hE i1 (by omega)
        have hfr := i1.1.2.2.2.2.1
        have hcode := i1.2.2.2.2.2.2
        have hxe : XE T X Z := by
          have hx := XE.of (T := T) hYX hY0 hfr i1.1.2.2.2.2.2 (fun a h => by rw [r58 _ _ _ a h, r58 _ _ _ a h, r58 _ _ _ a h])
          exact ⟨fun a a1 a2 a3 a4 a5 a6 a7 => by rw [j2 a a1]; exact hx.1 a a1 a2 a3 a4 a5 a6 a7, by rw [j3]; exact hx.2⟩
        rw [j1, Option.bind_some]
        dsimp only
        rcases j4 with ⟨k0, k7⟩ | ⟨k0, k7⟩
        · rw [if_pos k0, k7]
          refine ⟨fun kf e => (by cases e), fun w1 w2 w3 e => ?_⟩
          cases e
          have h58 : Z (58 + 4 * T) = (h_up (h_up (h_up Y (58 + 4 * T) 0 (nI ([] ++ s1.1).length)) (58 + 4 * T) 1 (nI ([] ++ s1.1 ++ s2.1).length)) (58 + 4 * T) 2 (nI ([] ++ s1.1 ++ s2.1 ++ s3.1).length)) (58 + 4 * T) := by
            rw [j2 _ (by omega)]; exact hfr _ (by omega) (by omega) (by omega)
          refine ⟨Z, rfl, hxe, fun i hi => ?_, ?_, ?_, ?_, ?_⟩
          · rw [j2 _ (by omega)]; exact hcode i hi
          · rw [h58]; simp (disch := omega) only [m_own, u_n, u_s]; rfl
          · rw [h58]; simp (disch := omega) only [m_own, u_n, u_s]; rfl
          · rw [h58]; simp (disch := omega) only [m_own, u_n, u_s]; rfl
          · have i2' : (s1.1 ++ s2.1 ++ s3.1).length ≤ s3.2 := i2
            omega
        · rw [if_neg k0, k7]
          exact ⟨fun kf e => (by cases e; exact ⟨Z, rfl, hxe⟩), fun w1 w2 w3 e => (by cases e)⟩
def XEnd (T : Nat) (X X' : hMem) : Prop := (∀ a, a ≠ 0 → a ≠ 30 → a ≠ 32 → a ≠ 33 → a ≠ 34 → a ≠ 56 + 4 * T → a ≠ 57 + 4 * T → a ≠ 58 + 4 * T → X' a = X a) ∧ (∀ j, j ≠ 4 → X' 0 j = X 0 j) ∧ X' 30 0 = 0
theorem x_text {b : Nat → Int32} {n T E : Nat} {X : hMem} (hT : T < 6) (h4 : X 0 4 = nI T) (hTX : TXx b n X) (hb : ∀ i, i < 160 → h_ib (b i) 256) (hE : tkE E (ktF b n)) (hmin : ∀ j, j < E → ktF b n j ≠ 0 ∧ ktF b n j ≠ 1) : (∀ kf, txt (ktF b n) (vtF b n) = .error kf → ∃ X', fX9_text X = some (-100 - nI (plc b n kf), X') ∧ XEnd T X X' ∧ X' 0 4 = nI T) ∧ ∀ w1 w2 w3, txt (ktF b n) (vtF b n) = .ok (w1, w2, w3) → ∃ X', fX9_text X = some (nI T, X') ∧ XEnd T X X' ∧ X' 0 4 = nI (T + 1) ∧ (∀ i, i < (w1 ++ w2 ++ w3).length → X' (57 + 4 * T) i = (w1 ++ w2 ++ w3).getD i 0) ∧ X' (58 + 4 * T) 0 = nI w1.length ∧ X' (58 + 4 * T) 1 = nI (w1 ++ w2).length ∧ X' (58 + 4 * T) 2 = nI (w1 ++ w2 ++ w3).length ∧ (w1 ++ w2 ++ w3).length ≤ 160 := by
  obtain ⟨i1, i2⟩ := x_into hT hTX hb hE hmin
  have hn := hTX.1
  unfold fX9_text
  rw [h4, if_pos (show nI T < 6 from nI_lt (b := 6) hT (by decide)), if_pos (ib_mk hT (by decide)), nI_clamp (by omega)]
  have xe : ∀ {X' : hMem}, XE T X X' → XEnd T X X' := fun h => ⟨fun a a0 a1 a2 a3 a4 a5 a6 a7 => h.1 a a1 a2 a3 a4 a5 a6 a7, fun j hj => by rw [h.1 0 (by omega) (by omega) (by omega) (by omega) (by omega) (by omega) (by omega)], h.2⟩
  refine ⟨fun kf e => ?_, fun w1 w2 w3 e => ?_⟩
  · obtain ⟨X', a1, a2⟩ := i1 kf e
    have hp := plc_le b n kf
    rw [a1, Option.bind_some, if_neg (nI_pos (by omega))]
    exact ⟨X', rfl, xe a2, by rw [a2.1 0 (by omega) (by omega) (by omega) (by omega) (by omega) (by omega) (by omega)]; exact h4⟩
  · obtain ⟨X', a1, a2, a3, a4, a5, a6, a7⟩ := i2 w1 w2 w3 e
    have e4 : X' 0 4 = nI T := by rw [a2.1 0 (by omega) (by omega) (by omega) (by omega) (by omega) (by omega) (by omega)]; exact h4
    rw [a1, Option.bind_some, if_pos (show (-1 : Int32) < 0 by decide)]
    dsimp only
    rw [e4, nI_1]
    refine ⟨h_up X' 0 4 (nI (T + 1)), ?_, ⟨fun a a0 a1 a2 a3 a4 a5 a6 a7 => ?_, fun j hj => ?_, ?_⟩, ?_, fun i hi => ?_, ?_, ?_, ?_, a7⟩
    · rw [m_own, u_s, nI_sub1 (by omega)]; rfl
    · rw [m_row a0]; exact (xe ‹XE T X X'›).1 a a0 a1 a2 a3 a4 a5 a6 a7
    · rw [m_own, u_n hj]; exact (xe ‹XE T X X'›).2.1 j hj
    · rw [m_row (by omega)]; exact (xe ‹XE T X X'›).2.2
    · rw [m_own, u_s]
    · rw [m_row (by omega)]; exact a3 i hi
    · rw [m_row (by omega)]; exact a4
    · rw [m_row (by omega)]; exact a5
    · rw [m_row (by omega)]; exact a6
