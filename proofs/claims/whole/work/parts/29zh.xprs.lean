/-! TEXT: x reads what the spec parser says -/
theorem x_cmp {T E f d k : Nat} {K V : Nat → Int32} {P : Nat → Nat} {Y0 Y : hMem} {c : List Int32} {rc : Nat → Int32 → hMem → Option hMem} (hT : T < 6) (hE : tkE E K) (H : HRC T E K V P Y0 f rc) (hd : d ≤ 5) (hf : 6 * (5 - d) + 3 ≤ f) (h : XS T E K V P Y0 k c Y) (hl : c.length ≤ k) : ∃ Y', fX5_readNot_L35 rc (nI d) Y = some Y' ∧ outX T E K V P Y0 k c (match prs K V f 3 d k with | .error e => .error e | .ok s => lpS K (prs K V f 3 d) opCmp 1 s) Y' := by
  obtain ⟨Y2, b1, b2⟩ := H 3 d k c Y (by omega) hd hf h hl
  unfold fX5_readNot_L35 fX5_readNot_L58
  rw [b1, Option.bind_some]
  cases hres : prs K V f 3 d k with
  | error kf =>
    obtain ⟨x1, x2⟩ := b2.2 kf hres
    refine ⟨Y2, ?_, outX.bad x1 x2⟩
    simp only [x1.2.1, if_neg (show ¬ (1 : Int32) = 60 from by decide), if_neg (show ¬ (1 : Int32) = 61 from by decide)]
  | ok s =>
    obtain ⟨x1, x2⟩ := b2.1 s hres
    have hK := x1.2.2.1
    have hk := x1.2.2.2.2.1
    have hE160 := hE.1
    dsimp only
    rw [lpS_s]
    simp only [hK]
    have go : ∀ o, K s.2 ≠ 0 → K s.2 ≠ 1 → ∃ Y', fX5_readNot_L74 rc (nI d) o Y2 = some Y' ∧ outX T E K V P Y0 k c (match prs K V f 3 d (s.2 + 1) with | .error e => .error e | .ok r => lpS K (prs K V f 3 d) opCmp 0 (s.1 ++ r.1 ++ [o], r.2)) Y' := fun o n0 n1 => by
      obtain ⟨Y3, a1, a2⟩ := x1.adv hT hE160 (hE.lt hk n0 n1)
      obtain ⟨Y4, d1, d2⟩ := H 3 d (s.2 + 1) (c ++ s.1) Y3 (by omega) hd hf a2 (by rw [List.length_append]; omega)
      unfold fX5_readNot_L74
      rw [a1, Option.bind_some, d1, Option.bind_some]
      cases hres2 : prs K V f 3 d (s.2 + 1) with
      | error kf =>
        obtain ⟨w1, w2⟩ := d2.2 kf hres2
        obtain ⟨Y5, e1, e2⟩ := w1.add hT o
        rw [show Y4 30 8 = nI (56 + 4 * T) from w1.1.2.2.2.1, nI_clamp (by omega), if_pos (tx_isB hT), e1, Option.bind_some]
        exact ⟨Y5, rfl, outX.bad e2 w2⟩
      | ok r =>
        obtain ⟨w1, w2⟩ := d2.1 r hres2
        have hs := w1.2.2.2.2.1
        obtain ⟨Y5, e1, e2⟩ := w1.add hT (by rw [List.length_append, List.length_append]; omega) o
        rw [show Y4 30 8 = nI (56 + 4 * T) from w1.1.2.2.2.1, nI_clamp (by omega), if_pos (tx_isB hT), e1, Option.bind_some]
        rw [List.append_assoc, List.append_assoc] at e2
        refine ⟨Y5, rfl, outX.ok (by rw [List.append_assoc]; exact e2) ?_⟩
        rw [List.length_append, List.length_append]
        show k + (s.1.length + r.1.length + 1) ≤ r.2
        omega
    unfold opCmp
    by_cases c60 : K s.2 = 60
    · simp only [if_pos c60]
      exact go (-14) (by rw [c60]; decide) (by rw [c60]; decide)
    · by_cases c61 : K s.2 = 61
      · simp only [if_neg c60, if_pos c61]
        exact go (-15) (by rw [c61]; decide) (by rw [c61]; decide)
      · simp only [if_neg c60, if_neg c61]
        exact ⟨Y2, rfl, outX.ok x1 x2⟩
theorem x_prs {T E : Nat} {K V : Nat → Int32} {P : Nat → Nat} {Y0 : hMem} (hT : T < 6) (hE : tkE E K) (hP : ∀ k, P k < 2 ^ 31) : ∀ f, HRC T E K V P Y0 f (fRR_read f) := by
  intro f
  induction f with
  | zero => intro lv d k c Y hlv hd hf; omega
  | succ f ih =>
    intro lv d k c Y hlv hd hf h hl
    have h160 : ∀ i, i < 160 → ¬ (160 : Int32) ≤ nI i := fun i hi => nI_ge (b := 160) hi (by decide)
    rcases (by omega : lv = 0 ∨ lv = 1 ∨ lv = 2 ∨ lv = 3 ∨ lv = 4 ∨ lv = 5) with rfl | rfl | rfl | rfl | rfl | rfl
    · show ∃ Y', fX5_readOr (fRR_read f) (nI d) Y = some Y' ∧ _
      unfold fX5_readOr
      refine x_level (lv := 1) (op := opOr) hT hE ih (by omega) hd (by omega) rfl rfl (fun kk i Y hi => ?_) (fun kk Y => ?_) h hl
      · unfold fX5_readOr_L7 opOr
        dsimp only
        rw [if_neg (h160 i hi), nI_1]
        by_cases c7 : Y 30 6 = 7
        · rw [if_pos c7, if_pos c7]
        · rw [if_neg c7, if_neg c7]
      · unfold fX5_readOr_L7; dsimp only; rw [if_pos (show (160 : Int32) ≤ nI 160 from by decide)]
    · show ∃ Y', fX5_readAnd (fRR_read f) (nI d) Y = some Y' ∧ _
      unfold fX5_readAnd
      refine x_level (lv := 2) (op := opAnd) hT hE ih (by omega) hd (by omega) rfl rfl (fun kk i Y hi => ?_) (fun kk Y => ?_) h hl
      · unfold fX5_readAnd_L7 opAnd
        dsimp only
        rw [if_neg (h160 i hi), nI_1]
        by_cases c7 : Y 30 6 = 8
        · rw [if_pos c7, if_pos c7]
        · rw [if_neg c7, if_neg c7]
      · unfold fX5_readAnd_L7; dsimp only; rw [if_pos (show (160 : Int32) ≤ nI 160 from by decide)]
    · show ∃ Y', fX5_readNot (fRR_read f) (nI d) Y = some Y' ∧ outX T E K V P Y0 k c (if K k = 9 ∧ d < 5 then (match prs K V f 2 (d + 1) (k + 1) with | .error e => .error e | .ok s => .ok (s.1 ++ [-13], s.2)) else (match prs K V f 3 d k with | .error e => .error e | .ok s => lpS K (prs K V f 3 d) opCmp 1 s)) Y'
      have cmp := x_cmp hT hE ih hd (by omega) h hl
      have hE160 := hE.1
      unfold fX5_readNot
      simp only [h.2.2.1]
      by_cases c9 : K k = 9
      · rw [if_pos c9]
        by_cases d5 : d < 5
        · rw [if_neg (show ¬ (5 : Int32) ≤ nI d from nI_ge (b := 5) d5 (by decide)), if_pos ⟨c9, d5⟩]
          obtain ⟨Y1, a1, a2⟩ := h.adv hT hE160 (hE.lt h.2.2.2.2.1 (by rw [c9]; decide) (by rw [c9]; decide))
          obtain ⟨Y2, b1, b2⟩ := ih 2 (d + 1) (k + 1) c Y1 (by omega) (by omega) (by omega) a2 (by omega)
          rw [a1, Option.bind_some, nI_1, b1, Option.bind_some]
          cases hres : prs K V f 2 (d + 1) (k + 1) with
          | error kf =>
            obtain ⟨x1, x2⟩ := b2.2 kf hres
            obtain ⟨Y3, e1, e2⟩ := x1.add hT (-13)
            rw [show Y2 30 8 = nI (56 + 4 * T) from x1.1.2.2.2.1, nI_clamp (by omega), if_pos (tx_isB hT), e1, Option.bind_some]
            exact ⟨Y3, rfl, outX.bad e2 x2⟩
          | ok s =>
            obtain ⟨x1, x2⟩ := b2.1 s hres
            have hs := x1.2.2.2.2.1
            obtain ⟨Y3, e1, e2⟩ := x1.add hT (by rw [List.length_append]; omega) (-13)
            rw [show Y2 30 8 = nI (56 + 4 * T) from x1.1.2.2.2.1, nI_clamp (by omega), if_pos (tx_isB hT), e1, Option.bind_some]
            rw [List.append_assoc] at e2
            exact ⟨Y3, rfl, outX.ok e2 (by rw [List.length_append]; show k + (s.1.length + 1) ≤ s.2; omega)⟩
        · rw [if_pos (show (5 : Int32) ≤ nI d from nI_le (a := 5) (by omega) (by omega)), if_neg (fun q => d5 q.2)]; exact cmp
      · rw [if_neg c9, if_neg (fun q => c9 q.1)]; exact cmp
    · show ∃ Y', fX5_readSum (fRR_read f) (nI d) Y = some Y' ∧ _
      unfold fX5_readSum
      refine x_level (lv := 4) (op := opSum) hT hE ih (by omega) hd (by omega) rfl rfl (fun kk i Y hi => ?_) (fun kk Y => ?_) h hl
      · unfold fX5_readSum_L7 fX5_readSum_L32 fX5_readSum_L48 opSum
        dsimp only
        rw [if_neg (h160 i hi), nI_1]
        by_cases c7 : Y 30 6 = 43
        · simp only [if_pos c7]
        · by_cases c8 : Y 30 6 = 45
          · simp only [if_neg c7, if_pos c8]
          · simp only [if_neg c7, if_neg c8]
      · unfold fX5_readSum_L7; dsimp only; rw [if_pos (show (160 : Int32) ≤ nI 160 from by decide)]
    · show ∃ Y', fX5_readTerm (fRR_read f) (nI d) Y = some Y' ∧ _
      unfold fX5_readTerm
      refine x_level (lv := 5) (op := opMul) hT hE ih (by omega) hd (by omega) rfl rfl (fun kk i Y hi => ?_) (fun kk Y => ?_) h hl
      · unfold fX5_readTerm_L7 opMul
        dsimp only
        rw [if_neg (h160 i hi), nI_1]
        by_cases c7 : Y 30 6 = 42
        · rw [if_pos c7, if_pos c7]
        · rw [if_neg c7, if_neg c7]
      · unfold fX5_readTerm_L7; dsimp only; rw [if_pos (show (160 : Int32) ≤ nI 160 from by decide)]
    · show ∃ Y', fX5_readOne (fRR_read f) (nI d) Y = some Y' ∧ _
      exact x_one hT hE hP ih hd (by omega) h hl
