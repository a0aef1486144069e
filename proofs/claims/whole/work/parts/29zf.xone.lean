/-! TEXT: x reads one -/
def outX (T E : Nat) (K V : Nat → Int32) (P : Nat → Nat) (Y0 : hMem) (k0 : Nat) (c : List Int32) (res : Except Nat (List Int32 × Nat)) (Y : hMem) : Prop := (∀ s, res = .ok s → XS T E K V P Y0 s.2 (c ++ s.1) Y ∧ k0 + s.1.length ≤ s.2) ∧ ∀ kf, res = .error kf → XF T E K V P Y0 kf Y ∧ kf ≤ E
theorem outX.ok {T E : Nat} {K V : Nat → Int32} {P : Nat → Nat} {Y0 Y : hMem} {c w : List Int32} {k0 k : Nat} (h : XS T E K V P Y0 k (c ++ w) Y) (h2 : k0 + w.length ≤ k) : outX T E K V P Y0 k0 c (.ok (w, k)) Y := ⟨fun s e => (by cases e; exact ⟨h, h2⟩), fun kf e => (by cases e)⟩
theorem outX.bad {T E : Nat} {K V : Nat → Int32} {P : Nat → Nat} {Y0 Y : hMem} {c : List Int32} {k0 k : Nat} (h : XF T E K V P Y0 k Y) (h2 : k ≤ E) : outX T E K V P Y0 k0 c (.error k) Y := ⟨fun s e => (by cases e), fun kf e => (by cases e; exact ⟨h, h2⟩)⟩
def tkE (E : Nat) (K : Nat → Int32) : Prop := E ≤ 160 ∧ (K E = 0 ∨ K E = 1)
theorem tkE.lt {E k : Nat} {K : Nat → Int32} (h : tkE E K) (hk : k ≤ E) (h0 : K k ≠ 0) (h1 : K k ≠ 1) : k < E := by
  rcases Nat.lt_or_ge k E with q | q
  · exact q
  · have : k = E := by omega
    subst this
    exact absurd h.2 (fun q => q.elim h0 h1)
def HRC (T E : Nat) (K V : Nat → Int32) (P : Nat → Nat) (Y0 : hMem) (f : Nat) (rc : Nat → Int32 → hMem → Option hMem) : Prop := ∀ lv d k c Y, lv ≤ 5 → d ≤ 5 → 6 * (5 - d) + (6 - lv) ≤ f → XS T E K V P Y0 k c Y → c.length ≤ k → ∃ Y', rc lv (nI d) Y = some Y' ∧ outX T E K V P Y0 k c (prs K V f lv d k) Y'
theorem x_one {T E f d k : Nat} {K V : Nat → Int32} {P : Nat → Nat} {Y0 Y : hMem} {c : List Int32} {rc : Nat → Int32 → hMem → Option hMem} (hT : T < 6) (hE : tkE E K) (hP : ∀ k, P k < 2 ^ 31) (H : HRC T E K V P Y0 f rc) (hd : d ≤ 5) (hf : 6 * (5 - d) + 1 ≤ f + 1) (h : XS T E K V P Y0 k c Y) (hl : c.length ≤ k) : ∃ Y', fX5_readOne rc (nI d) Y = some Y' ∧ outX T E K V P Y0 k c (prs K V (f + 1) 5 d k) Y' := by
  obtain ⟨hr, h5, h6, h7, hk, hc, hw⟩ := id h
  have h8 : Y 30 8 = nI (56 + 4 * T) := hr.2.2.2.1
  have h34 : Y 34 k = V k := hr.2.2.1 k hk
  have hE160 := hE.1
  have bad : ∃ Y', ((fX5_refuse Y).bind fun q134 => some q134) = some Y' ∧ outX T E K V P Y0 k c (.error k) Y' := by
    obtain ⟨Y', y1, y2⟩ := h.ref hT hE160 (by omega)
    exact ⟨Y', by rw [y1, Option.bind_some], outX.bad y2 hk⟩
  have one : ∀ w, K k ≠ 0 → K k ≠ 1 → ∃ Y', (fX4_add (56 + 4 * T) w Y).bind (fun q => (fX5_advance q).bind fun q25 => some q25) = some Y' ∧ outX T E K V P Y0 k c (.ok ([w], k + 1)) Y' := fun w n0 n1 => by
    have hlt := hE.lt hk n0 n1
    obtain ⟨Y1, a1, a2⟩ := h.add hT (by omega) w
    obtain ⟨Y2, b1, b2⟩ := a2.adv hT hE160 hlt
    exact ⟨Y2, by rw [a1, Option.bind_some, b1, Option.bind_some], outX.ok b2 (Nat.le_refl _)⟩
  have lit : ∀ m : Int32, K k = m → m ≠ 0 → m ≠ 1 → K k ≠ 0 ∧ K k ≠ 1 := fun m e n0 n1 => ⟨by rw [e]; exact n0, by rw [e]; exact n1⟩
  have hlim : (5 ≤ nI d) ↔ ¬ d < 5 := by
    constructor
    · intro q e; exact nI_ge (b := 5) e (by decide) q
    · intro q; exact nI_le (a := 5) (by omega) (by omega)
  show ∃ Y', _ ∧ outX T E K V P Y0 k c (if K k = 2 then .ok ([V k], k + 1) else if K k = 3 then .ok ([-1 - V k], k + 1)
        else if K k = 45 ∧ d < 5 then (match prs K V f 5 (d + 1) (k + 1) with | .error e => .error e | .ok s => .ok (s.1 ++ [-19], s.2))
        else if K k = 40 ∧ d < 5 then (match prs K V f 0 (d + 1) (k + 1) with | .error e => .error e | .ok s => if K s.2 = 41 then .ok (s.1, s.2 + 1) else .error s.2)
        else .error k) Y'
  unfold fX5_readOne fX4_addName
  simp only [h5, h6, h8, nI_clamp (show 56 + 4 * T < 2 ^ 31 by omega), nI_clamp (show k < 2 ^ 31 by omega), if_pos (tx_isB hT), if_pos (show h_ib (nI k) 161 from ib_mk (by omega) (by omega)), h34]
  by_cases c2 : K k = 2
  · obtain ⟨n0, n1⟩ := lit 2 c2 (by decide) (by decide)
    rw [if_pos c2, if_pos c2]; exact one _ n0 n1
  rw [if_neg c2, if_neg c2]
  by_cases c3 : K k = 3
  · obtain ⟨n0, n1⟩ := lit 3 c3 (by decide) (by decide)
    rw [if_pos c3, if_pos c3]
    obtain ⟨Y', y1, y2⟩ := one (-1 - V k) n0 n1
    refine ⟨Y', ?_, y2⟩
    rw [← y1]
    cases fX4_add (56 + 4 * T) (-1 - V k) Y <;> rfl
  rw [if_neg c3, if_neg c3]
  have l99 : ∃ Y', fX5_readOne_L99 rc (nI d) Y = some Y' ∧ outX T E K V P Y0 k c (if K k = 40 ∧ d < 5 then (match prs K V f 0 (d + 1) (k + 1) with | .error e => .error e | .ok s => if K s.2 = 41 then .ok (s.1, s.2 + 1) else .error s.2) else .error k) Y' := by
    unfold fX5_readOne_L99
    simp only [h6]
    by_cases c40 : K k = 40
    · rw [if_pos c40]
      by_cases d5 : d < 5
      · rw [if_neg (fun q => hlim.mp q d5), if_pos ⟨c40, d5⟩]
        obtain ⟨n0, n1⟩ := lit 40 c40 (by decide) (by decide)
        obtain ⟨Y1, a1, a2⟩ := h.adv hT hE160 (hE.lt hk n0 n1)
        obtain ⟨Y2, b1, b2⟩ := H 0 (d + 1) (k + 1) c Y1 (by omega) (by omega) (by omega) a2 (by omega)
        rw [a1, Option.bind_some, nI_1, b1, Option.bind_some]
        unfold fX5_expect
        cases hres : prs K V f 0 (d + 1) (k + 1) with
        | error kf =>
          obtain ⟨x1, x2⟩ := b2.2 kf hres
          obtain ⟨Y3, e1, e2⟩ := x1.ref hT (hP kf)
          rw [if_neg (by rw [x1.2.1]; decide), e1, Option.bind_some, Option.bind_some]
          exact ⟨Y3, rfl, outX.bad e2 x2⟩
        | ok s =>
          obtain ⟨x1, x2⟩ := b2.1 s hres
          have hs := x1.2.2.2.2.1
          have hK := x1.2.2.1
          dsimp only
          by_cases c41 : K s.2 = 41
          · have hlt := hE.lt hs (by rw [c41]; decide) (by rw [c41]; decide)
            obtain ⟨Y3, e1, e2⟩ := x1.adv hT hE160 hlt
            rw [if_pos c41, if_pos (by rw [hK]; exact c41), e1, Option.bind_some, Option.bind_some]
            exact ⟨Y3, rfl, outX.ok e2 (by omega)⟩
          · obtain ⟨Y3, e1, e2⟩ := x1.ref hT hE160 (by rw [List.length_append]; omega)
            rw [if_neg c41, if_neg (by rw [hK]; exact c41), e1, Option.bind_some, Option.bind_some]
            exact ⟨Y3, rfl, outX.bad e2 hs⟩
      · rw [if_pos (hlim.mpr d5), if_neg (fun q => d5 q.2)]; exact bad
    · rw [if_neg c40, if_neg (fun q => c40 q.1)]; exact bad
  by_cases c45 : K k = 45
  · rw [if_pos c45]
    by_cases d5 : d < 5
    · rw [if_neg (fun q => hlim.mp q d5), if_pos ⟨c45, d5⟩]
      obtain ⟨n0, n1⟩ := lit 45 c45 (by decide) (by decide)
      obtain ⟨Y1, a1, a2⟩ := h.adv hT hE160 (hE.lt hk n0 n1)
      obtain ⟨Y2, b1, b2⟩ := H 5 (d + 1) (k + 1) c Y1 (by omega) (by omega) (by omega) a2 (by omega)
      rw [a1, Option.bind_some, nI_1, b1, Option.bind_some]
      cases hres : prs K V f 5 (d + 1) (k + 1) with
      | error kf =>
        obtain ⟨x1, x2⟩ := b2.2 kf hres
        obtain ⟨Y3, e1, e2⟩ := x1.add hT (-19)
        rw [show Y2 30 8 = nI (56 + 4 * T) from x1.1.2.2.2.1, nI_clamp (by omega), if_pos (tx_isB hT), e1, Option.bind_some]
        exact ⟨Y3, rfl, outX.bad e2 x2⟩
      | ok s =>
        obtain ⟨x1, x2⟩ := b2.1 s hres
        have hs := x1.2.2.2.2.1
        obtain ⟨Y3, e1, e2⟩ := x1.add hT (by rw [List.length_append]; omega) (-19)
        rw [show Y2 30 8 = nI (56 + 4 * T) from x1.1.2.2.2.1, nI_clamp (by omega), if_pos (tx_isB hT), e1, Option.bind_some]
        rw [List.append_assoc] at e2
        exact ⟨Y3, rfl, outX.ok e2 (by rw [List.length_append]; show k + (s.1.length + 1) ≤ s.2; omega)⟩
    · rw [if_pos (hlim.mpr d5), if_neg (fun q => d5 q.2)]; exact l99
  · rw [if_neg c45, if_neg (fun q => c45 q.1)]; exact l99
