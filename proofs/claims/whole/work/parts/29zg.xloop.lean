/-! TEXT: x's levels -/
theorem tx_loop {T E f d lv k0 : Nat} {K V : Nat → Int32} {P : Nat → Nat} {Y0 : hMem} {c : List Int32} {rc : Nat → Int32 → hMem → Option hMem} {op : Int32 → Option Int32} {body : (Int32 × hMem → Option hMem) → Int32 × hMem → Option hMem} (hT : T < 6) (hE : tkE E K) (H : HRC T E K V P Y0 f rc) (hlv : lv ≤ 5) (hd : d ≤ 5) (hf : 6 * (5 - d) + (6 - lv) ≤ f) (hc : c.length ≤ k0) (o0 : op 0 = none) (o1 : op 1 = none) (hb : ∀ kk i Y, i < 160 → body kk (nI i, Y) = (match op (Y 30 6) with | none => some Y | some o => (fX5_advance Y).bind fun q => (rc lv (nI d) q).bind fun q29 => if h_isB hYx (q29 30 8).toNatClampNeg 3 0 = true then (fX4_add ((q29 30 8).toNatClampNeg) o q29).bind fun q38 => kk (nI (i + 1), q38) else none)) (hb2 : ∀ kk Y, body kk (nI 160, Y) = some Y) : ∀ (m fuel i : Nat) (s : List Int32 × Nat) (Y : hMem), i + m = 160 → m < fuel → XS T E K V P Y0 s.2 (c ++ s.1) Y → k0 + s.1.length ≤ s.2 → ∃ Y', h_lp body fuel (nI i, Y) = some Y' ∧ outX T E K V P Y0 k0 c (lpS K (prs K V f lv d) op m s) Y' := by
  intro m
  induction m with
  | zero =>
    intro fuel i s Y hi hfu hS hl
    obtain ⟨g, rfl⟩ : ∃ g, fuel = g + 1 := ⟨fuel - 1, by omega⟩
    have : i = 160 := by omega
    subst this
    rw [lp_s, hb2]
    exact ⟨Y, rfl, outX.ok hS hl⟩
  | succ m ih =>
    intro fuel i s Y hi hfu hS hl
    obtain ⟨g, rfl⟩ : ∃ g, fuel = g + 1 := ⟨fuel - 1, by omega⟩
    have hE160 := hE.1
    have hk := hS.2.2.2.2.1
    rw [lp_s, hb _ i Y (by omega), hS.2.2.1, lpS_s]
    cases ho : op (K s.2) with
    | none => exact ⟨Y, rfl, outX.ok hS hl⟩
    | some o =>
      dsimp only
      have n0 : K s.2 ≠ 0 := fun q => by rw [q, o0] at ho; cases ho
      have n1 : K s.2 ≠ 1 := fun q => by rw [q, o1] at ho; cases ho
      obtain ⟨Y1, a1, a2⟩ := hS.adv hT hE160 (hE.lt hk n0 n1)
      obtain ⟨Y2, b1, b2⟩ := H lv d (s.2 + 1) (c ++ s.1) Y1 hlv hd hf a2 (by rw [List.length_append]; omega)
      rw [a1, Option.bind_some, b1, Option.bind_some]
      cases hres : prs K V f lv d (s.2 + 1) with
      | error kf =>
        obtain ⟨x1, x2⟩ := b2.2 kf hres
        obtain ⟨Y3, e1, e2⟩ := x1.add hT o
        rw [show Y2 30 8 = nI (56 + 4 * T) from x1.1.2.2.2.1, nI_clamp (by omega), if_pos (tx_isB hT), e1, Option.bind_some]
        obtain ⟨g', rfl⟩ : ∃ g', g = g' + 1 := ⟨g - 1, by omega⟩
        refine ⟨Y3, ?_, outX.bad e2 x2⟩
        rw [lp_s]
        by_cases h160 : i + 1 = 160
        · rw [h160, hb2]
        · rw [hb _ (i + 1) Y3 (by omega), e2.2.1, o1]
      | ok r =>
        obtain ⟨x1, x2⟩ := b2.1 r hres
        have hs := x1.2.2.2.2.1
        obtain ⟨Y3, e1, e2⟩ := x1.add hT (by rw [List.length_append, List.length_append]; omega) o
        rw [show Y2 30 8 = nI (56 + 4 * T) from x1.1.2.2.2.1, nI_clamp (by omega), if_pos (tx_isB hT), e1, Option.bind_some]
        dsimp only
        refine ih g (i + 1) (s.1 ++ r.1 ++ [o], r.2) Y3 (by omega) (by omega) ?_ ?_
        · rw [List.append_assoc, List.append_assoc] at e2
          rw [List.append_assoc]
          exact e2
        · rw [List.length_append, List.length_append]
          show k0 + (s.1.length + r.1.length + 1) ≤ r.2
          omega
/-- a level that is a loop behind a first operand -/
theorem x_level {T E f d lv k : Nat} {K V : Nat → Int32} {P : Nat → Nat} {Y0 Y : hMem} {c : List Int32} {rc : Nat → Int32 → hMem → Option hMem} {op : Int32 → Option Int32} {body : (Int32 × hMem → Option hMem) → Int32 × hMem → Option hMem} (hT : T < 6) (hE : tkE E K) (H : HRC T E K V P Y0 f rc) (hlv : lv ≤ 5) (hd : d ≤ 5) (hf : 6 * (5 - d) + (6 - lv) ≤ f) (o0 : op 0 = none) (o1 : op 1 = none) (hb : ∀ kk i Y, i < 160 → body kk (nI i, Y) = (match op (Y 30 6) with | none => some Y | some o => (fX5_advance Y).bind fun q => (rc lv (nI d) q).bind fun q29 => if h_isB hYx (q29 30 8).toNatClampNeg 3 0 = true then (fX4_add ((q29 30 8).toNatClampNeg) o q29).bind fun q38 => kk (nI (i + 1), q38) else none)) (hb2 : ∀ kk Y, body kk (nI 160, Y) = some Y) (h : XS T E K V P Y0 k c Y) (hl : c.length ≤ k) : ∃ Y', ((rc lv (nI d) Y).bind fun q2 => h_lp body h_FU (0, q2)) = some Y' ∧ outX T E K V P Y0 k c (match prs K V f lv d k with | .error e => .error e | .ok s => lpS K (prs K V f lv d) op 160 s) Y' := by
  obtain ⟨Y2, b1, b2⟩ := H lv d k c Y hlv hd hf h hl
  rw [b1, Option.bind_some]
  cases hres : prs K V f lv d k with
  | error kf =>
    obtain ⟨x1, x2⟩ := b2.2 kf hres
    refine ⟨Y2, ?_, outX.bad x1 x2⟩
    unfold h_FU
    rw [show (20000 : Nat) = 19999 + 1 from rfl, lp_s, show (0, Y2) = ((nI 0, Y2) : Int32 × hMem) from rfl, hb _ 0 Y2 (by omega), x1.2.1, o1]
  | ok s =>
    obtain ⟨x1, x2⟩ := b2.1 s hres
    exact tx_loop hT hE H hlv hd hf hl o0 o1 hb hb2 160 h_FU 0 s Y2 rfl (by unfold h_FU; omega) x1 x2
