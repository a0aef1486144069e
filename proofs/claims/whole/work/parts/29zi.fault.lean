/-! TEXT: behind a fault x reads nothing more -/
def HRF (T E : Nat) (K V : Nat → Int32) (P : Nat → Nat) (Y0 : hMem) (kf f : Nat) (rc : Nat → Int32 → hMem → Option hMem) : Prop := ∀ lv d Y, lv ≤ 5 → d ≤ 5 → 6 * (5 - d) + (6 - lv) ≤ f → XF T E K V P Y0 kf Y → ∃ Y', rc lv (nI d) Y = some Y' ∧ XF T E K V P Y0 kf Y'
theorem f_level {T E : Nat} {K V : Nat → Int32} {P : Nat → Nat} {Y0 : hMem} {kf lv d : Nat} {rc : Nat → Int32 → hMem → Option hMem} {body : (Int32 × hMem → Option hMem) → Int32 × hMem → Option hMem} {Y : hMem} (H : ∃ Y', rc lv (nI d) Y = some Y' ∧ XF T E K V P Y0 kf Y') (hb : ∀ kk Y, Y 30 6 = 1 → body kk (0, Y) = some Y) : ∃ Y', ((rc lv (nI d) Y).bind fun q2 => h_lp body h_FU (0, q2)) = some Y' ∧ XF T E K V P Y0 kf Y' := by
  obtain ⟨Y2, b1, b2⟩ := H
  refine ⟨Y2, ?_, b2⟩
  rw [b1, Option.bind_some]
  unfold h_FU
  rw [show (20000 : Nat) = 19999 + 1 from rfl, lp_s, hb _ _ b2.2.1]
theorem x_fault {T E : Nat} {K V : Nat → Int32} {P : Nat → Nat} {Y0 : hMem} {kf : Nat} (hT : T < 6) (hP : P kf < 2 ^ 31) : ∀ f, HRF T E K V P Y0 kf f (fRR_read f) := by
  intro f
  induction f with
  | zero => intro lv d Y hlv hd hf; omega
  | succ f ih =>
    intro lv d Y hlv hd hf h
    have h6 := h.2.1
    have h0 : ¬ (160 : Int32) ≤ 0 := by decide
    rcases (by omega : lv = 0 ∨ lv = 1 ∨ lv = 2 ∨ lv = 3 ∨ lv = 4 ∨ lv = 5) with rfl | rfl | rfl | rfl | rfl | rfl
    · show ∃ Y', fX5_readOr (fRR_read f) (nI d) Y = some Y' ∧ _
      unfold fX5_readOr
      refine f_level (ih 1 d Y (by omega) hd (by omega) h) (fun kk Z z => ?_)
      unfold fX5_readOr_L7
      simp only [z, if_neg h0, if_neg (show ¬ (1 : Int32) = 7 from by decide)]
    · show ∃ Y', fX5_readAnd (fRR_read f) (nI d) Y = some Y' ∧ _
      unfold fX5_readAnd
      refine f_level (ih 2 d Y (by omega) hd (by omega) h) (fun kk Z z => ?_)
      unfold fX5_readAnd_L7
      simp only [z, if_neg h0, if_neg (show ¬ (1 : Int32) = 8 from by decide)]
    · show ∃ Y', fX5_readNot (fRR_read f) (nI d) Y = some Y' ∧ _
      obtain ⟨Y2, b1, b2⟩ := ih 3 d Y (by omega) hd (by omega) h
      unfold fX5_readNot fX5_readNot_L35
      refine ⟨Y2, ?_, b2⟩
      simp only [h6, if_neg (show ¬ (1 : Int32) = 9 from by decide), b1, Option.bind_some, b2.2.1, if_neg (show ¬ (1 : Int32) = 60 from by decide), if_neg (show ¬ (1 : Int32) = 61 from by decide)]
    · show ∃ Y', fX5_readSum (fRR_read f) (nI d) Y = some Y' ∧ _
      unfold fX5_readSum
      refine f_level (ih 4 d Y (by omega) hd (by omega) h) (fun kk Z z => ?_)
      unfold fX5_readSum_L7
      simp only [z, if_neg h0, if_neg (show ¬ (1 : Int32) = 43 from by decide), if_neg (show ¬ (1 : Int32) = 45 from by decide)]
    · show ∃ Y', fX5_readTerm (fRR_read f) (nI d) Y = some Y' ∧ _
      unfold fX5_readTerm
      refine f_level (ih 5 d Y (by omega) hd (by omega) h) (fun kk Z z => ?_)
      unfold fX5_readTerm_L7
      simp only [z, if_neg h0, if_neg (show ¬ (1 : Int32) = 42 from by decide)]
    · show ∃ Y', fX5_readOne (fRR_read f) (nI d) Y = some Y' ∧ _
      obtain ⟨Y2, b1, b2⟩ := h.ref hT hP
      unfold fX5_readOne fX5_readOne_L99
      refine ⟨Y2, ?_, b2⟩
      simp only [h6, if_neg (show ¬ (1 : Int32) = 2 from by decide), if_neg (show ¬ (1 : Int32) = 3 from by decide), if_neg (show ¬ (1 : Int32) = 45 from by decide), if_neg (show ¬ (1 : Int32) = 40 from by decide), b1, Option.bind_some]
/-- what is asked for stands there, or a fault -/
theorem XS.exp {T E k : Nat} {K V : Nat → Int32} {P : Nat → Nat} {Y0 Y : hMem} {c : List Int32} (hT : T < 6) (hE : tkE E K) (h : XS T E K V P Y0 k c Y) (hl : c.length ≤ 160) {a : Int32} (a0 : a ≠ 0) (a1 : a ≠ 1) : ∃ Y', fX5_expect a Y = some Y' ∧ ((K k = a ∧ XS T E K V P Y0 (k + 1) c Y') ∨ (K k ≠ a ∧ XF T E K V P Y0 k Y')) := by
  have hK := h.2.2.1
  unfold fX5_expect
  rw [hK]
  by_cases e : K k = a
  · have hlt := hE.lt h.2.2.2.2.1 (by rw [e]; exact a0) (by rw [e]; exact a1)
    obtain ⟨Y', y1, y2⟩ := h.adv hT hE.1 hlt
    rw [if_pos e, y1, Option.bind_some]
    exact ⟨Y', rfl, Or.inl ⟨e, y2⟩⟩
  · obtain ⟨Y', y1, y2⟩ := h.ref hT hE.1 hl
    rw [if_neg e, y1, Option.bind_some]
    exact ⟨Y', rfl, Or.inr ⟨e, y2⟩⟩
theorem XF.exp {T E kf : Nat} {K V : Nat → Int32} {P : Nat → Nat} {Y0 Y : hMem} (hT : T < 6) (hP : P kf < 2 ^ 31) (h : XF T E K V P Y0 kf Y) {a : Int32} (a1 : a ≠ 1) : ∃ Y', fX5_expect a Y = some Y' ∧ XF T E K V P Y0 kf Y' := by
  obtain ⟨Y', y1, y2⟩ := h.ref hT hP
  unfold fX5_expect
  rw [h.2.1, if_neg (fun q => a1 q.symm), y1, Option.bind_some]
  exact ⟨Y', rfl, y2⟩
