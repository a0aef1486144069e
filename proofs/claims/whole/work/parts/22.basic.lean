/-! THE SMALL TESTS, both sides as h_ib -/
theorem xe_sq (a : Int32) (M : hMem) : fX9_isSquare a M = if h_ib a 32 then 1 else 0 := if_ge a 32 0 1 (by decide)
theorem xe_sec (a : Int32) (M : hMem) : fX9_isSecond a M = if h_ib a 24 then 1 else 0 := if_ge a 24 0 1 (by decide)
theorem xe_beh (a : Int32) (M : hMem) : fX9_isBehind a M = if h_ib a 25 then 1 else 0 := if_gt a 24 0 1 (by decide)
theorem xe_byte (a : Int32) (M : hMem) : fX9_isByte a M = if h_ib a 256 then 1 else 0 := if_gt a 255 0 1 (by decide)
theorem xe_lie (a : Int32) (M : hMem) : fX9_isLie a M = if h_ib a 3 then 1 else 0 := if_ge a 3 0 1 (by decide)
theorem xe_pace (a : Int32) (M : hMem) : fX9_isPace a M = if h_ib a 5 then 1 else 0 := if_gt a 4 0 1 (by decide)
theorem xe_reach (a : Int32) (M : hMem) : fX9_isReach a M = if h_ib a 4 then 1 else 0 := if_gt a 3 0 1 (by decide)
theorem xe_seed (a : Int32) (M : hMem) : fX9_isSeed a M = if h_ib a 100000 then 1 else 0 := if_gt a 99999 0 1 (by decide)
theorem xe_sheet (a : Int32) (M : hMem) : fX9_isSheet a M = if h_ib a 4 then 1 else 0 := if_ge a 4 0 1 (by decide)
theorem ib2 (a : Int32) : h_ib a 2 ↔ a = 0 ∨ a = 1 := by
  constructor
  · intro h
    obtain ⟨j, h1, h2, rfl⟩ := ib_ex h
    rcases (by omega : j = 0 ∨ j = 1) with rfl | rfl
    · exact Or.inl rfl
    · exact Or.inr rfl
  · rintro (rfl | rfl)
    · exact ib_mk (j := 0) (by omega) (by omega)
    · exact ib_mk (j := 1) (by omega) (by omega)
theorem xe_01 (a : Int32) (M : hMem) : fX9_isZeroOrOne a M = if h_ib a 2 then 1 else 0 := by
  unfold fX9_isZeroOrOne
  by_cases h0 : a = 0
  · rw [if_pos h0, if_pos ((ib2 a).mpr (Or.inl h0))]
  · rw [if_neg h0]
    by_cases h1 : a = 1
    · rw [if_pos h1, if_pos ((ib2 a).mpr (Or.inr h1))]
    · rw [if_neg h1, if_neg (fun h => ((ib2 a).mp h).elim h0 h1)]
theorem me_in (a : Int32) (n : Nat) (M : hMem) (hn : n < 2 ^ 31) : fX10_in a 0 (nI n) M = if h_ib a (n + 1) then 1 else 0 := if_gt a n 0 1 hn
theorem me_in1 (a : Int32) (M : hMem) : fX10_in a 0 1 M = if h_ib a 2 then 1 else 0 := me_in a 1 M (by decide)
theorem me_in2 (a : Int32) (M : hMem) : fX10_in a 0 2 M = if h_ib a 3 then 1 else 0 := me_in a 2 M (by decide)
theorem me_in3 (a : Int32) (M : hMem) : fX10_in a 0 3 M = if h_ib a 4 then 1 else 0 := me_in a 3 M (by decide)
theorem me_in4 (a : Int32) (M : hMem) : fX10_in a 0 4 M = if h_ib a 5 then 1 else 0 := me_in a 4 M (by decide)
theorem me_in9 (a : Int32) (M : hMem) : fX10_in a 0 9 M = if h_ib a 10 then 1 else 0 := me_in a 9 M (by decide)
theorem me_in23 (a : Int32) (M : hMem) : fX10_in a 0 23 M = if h_ib a 24 then 1 else 0 := me_in a 23 M (by decide)
theorem me_sec (a : Int32) (M : hMem) : fX10_areSeconds a M = if h_ib a 25 then 1 else 0 := me_in a 24 M (by decide)
theorem me_sq (a : Int32) (M : hMem) : fX10_isSquare a M = if h_ib a 32 then 1 else 0 := me_in a 31 M (by decide)
theorem me_byte (a : Int32) (M : hMem) : fX10_isByte a M = if h_ib a 256 then 1 else 0 := me_in a 255 M (by decide)
theorem lim_m1 {H : Nat} (hH : H < 2 ^ 30) : (nI H - 1).toInt = (H : Int) - 1 := pk_sub_toInt (a := H) (b := 1) hH (by decide)
/-- a number below a count that may be 0 -/
theorem me_cnt (a : Int32) (H : Nat) (M : hMem) (hH : H < 2 ^ 30) : fX10_in a 0 (nI H - 1) M = if h_ib a H then 1 else 0 := by
  unfold fX10_in
  have h1 := lt0_int a
  have h2 : nI H - 1 < a ↔ (H : Int) - 1 < a.toInt := by rw [Int32.lt_iff_toInt_lt, lim_m1 hH]
  have h3 := ib_int a H
  by_cases c1 : a < 0
  · rw [if_pos c1, if_neg (fun h => by have := h3.mp h; have := h1.mp c1; omega)]
  · rw [if_neg c1]
    have c1' : ¬ a.toInt < 0 := fun h => c1 (h1.mpr h)
    by_cases c2 : nI H - 1 < a
    · rw [if_pos c2, if_neg (fun h => by have := h3.mp h; have := h2.mp c2; omega)]
    · have c2' : ¬ (H : Int) - 1 < a.toInt := fun h => c2 (h2.mpr h)
      rw [if_neg c2, if_pos (h3.mpr (by omega))]
theorem xe_hat {a : Int32} {X : hMem} {H : Nat} (h : X 1 5 = nI H) (hH : H < 2 ^ 31) : fX9_isHat a X = if h_ib a H then 1 else 0 := by
  unfold fX9_isHat; rw [h]; exact if_ge a H 0 1 hH
theorem xe_cat {a : Int32} {X : hMem} {H : Nat} (h : X 1 6 = nI H) (hH : H < 2 ^ 31) : fX9_isCatcher a X = if h_ib a H then 1 else 0 := by
  unfold fX9_isCatcher; rw [h]; exact if_ge a H 0 1 hH
theorem me_hat {a : Int32} {M : hMem} {H : Nat} (h : M 0 3 = nI H) (hH : H < 2 ^ 30) : fX10_isHat a M = if h_ib a H then 1 else 0 := by
  unfold fX10_isHat; rw [h]; exact me_cnt a H M hH
theorem me_cat {a : Int32} {M : hMem} {H : Nat} (h : M 0 8 = nI H) (hH : H < 2 ^ 30) : fX10_isCatcher a M = if h_ib a H then 1 else 0 := by
  unfold fX10_isCatcher; rw [h]; exact me_cnt a H M hH
theorem me_has {M : hMem} {k c : Nat} (hk : k < 3) (hc : c < 32) : fX10_has (nI k) (nI c) M = some (if bt (M 1 k) c = true then 1 else 0) := by
  unfold fX10_has
  rw [if_pos (ib_mk hk (by omega)), nI_clamp (by omega), bit_s _ hc, bit_1]
  split <;> rfl
theorem me_has0 {M : hMem} {c : Nat} (hc : c < 32) : fX10_has 0 (nI c) M = some (if bt (M 1 0) c = true then 1 else 0) := me_has (k := 0) (by omega) hc
theorem me_has1 {M : hMem} {c : Nat} (hc : c < 32) : fX10_has 1 (nI c) M = some (if bt (M 1 1) c = true then 1 else 0) := me_has (k := 1) (by omega) hc
theorem me_has2 {M : hMem} {c : Nat} (hc : c < 32) : fX10_has 2 (nI c) M = some (if bt (M 1 2) c = true then 1 else 0) := me_has (k := 2) (by omega) hc
theorem xe_open {a : Int32} {X : hMem} : fX9_isOpen a X = if h_ib a 32 then (if bt (X 2 0) a.toNatClampNeg = true then 0 else 1) else 0 := by
  unfold fX9_isOpen
  rw [xe_sq, b01]
  by_cases h : h_ib a 32
  · rw [if_pos h, if_pos h]
    obtain ⟨c, hc, hc2, rfl⟩ := ib_ex h
    rw [bit_u _ hc, b01, nI_clamp hc2]
  · rw [if_neg h, if_neg h]
theorem me_open {a : Int32} {M : hMem} : fX10_isFree a M = some (if h_ib a 32 then (if bt (M 1 0) a.toNatClampNeg = true then 0 else 1) else 0) := by
  unfold fX10_isFree
  rw [me_sq, b01]
  by_cases h : h_ib a 32
  · rw [if_pos h, if_pos h]
    obtain ⟨c, hc, hc2, rfl⟩ := ib_ex h
    rw [me_has0 hc, Option.bind_some, b01, nI_clamp hc2]
    split <;> rfl
  · rw [if_neg h, if_neg h]
/-! CALLS: the answers are alike, and the memories go on alike -/
def EqC (fx fm : Option (Int32 × hMem)) : Prop := ∃ (v : Int32) (X' M' : hMem), fx = some (v, X') ∧ fm = some (v, M') ∧ RR X' M'
theorem EqC.now {v : Int32} {X' M' : hMem} (h : RR X' M') : EqC (some (v, X')) (some (v, M')) := ⟨v, X', M', rfl, rfl, h⟩
theorem EqC.val {v w : Int32} {X' M' : hMem} (e : v = w) (h : RR X' M') : EqC (some (v, X')) (some (w, M')) := ⟨w, X', M', by rw [e], rfl, h⟩
def EqP (fx fm : Option Int32) : Prop := ∃ v : Int32, fx = some v ∧ fm = some v
theorem EqP.now (v : Int32) : EqP (some v) (some v) := ⟨v, rfl, rfl⟩
theorem RR.hats {X M : hMem} (h : RR X M) : ∃ H, H ≤ 4 ∧ X 1 5 = nI H ∧ M 0 3 = nI H := by
  obtain ⟨T, -, -, -, -, -, h5, -, -⟩ := h.getN
  obtain ⟨H, q1, q2, q3⟩ := ib_ex h5.2
  exact ⟨H, by omega, h5.1.trans q3, q3⟩
theorem RR.cats {X M : hMem} (h : RR X M) : ∃ H, H ≤ 4 ∧ X 1 6 = nI H ∧ M 0 8 = nI H := by
  obtain ⟨T, -, -, -, -, -, -, h5, -⟩ := h.getN
  obtain ⟨H, q1, q2, q3⟩ := ib_ex h5.2
  exact ⟨H, by omega, h5.1.trans q3, q3⟩
theorem RR.setsE {X M : hMem} (h : RR X M) {k : Nat} (hk : k < 3) : X 2 k = M 1 k := by
  obtain ⟨T, -, h1, -⟩ := h.getN
  exact h1 k hk
theorem RR.gust {X M : hMem} (h : RR X M) {t : Nat} (ht : t < 24) : X 3 t = M 2 t ∧ X 4 t = M 3 t ∧ h_ib (M 2 t) 5 ∧ h_ib (M 3 t) 10 := by
  obtain ⟨T, -, -, h1, -⟩ := h.getN
  exact h1 t ht
theorem RR.hatE {X M : hMem} (h : RR X M) {i : Nat} (hi : i < 4) : X (7 + i) 0 = M 4 i ∧ X (7 + i) 1 = M 5 i ∧ X (7 + i) 2 = M 7 i * 32 + M 6 i ∧ h_ib (M 4 i) 6 ∧ h_ib (M 5 i) 10 ∧ h_ib (M 6 i) 32 ∧ h_ib (M 7 i) 3 := by
  obtain ⟨T, -, -, -, h1, -⟩ := h.getN
  exact h1 i hi
theorem RR.catE {X M : hMem} (h : RR X M) {p : Nat} (hp : p < 4) : X (11 + p) 0 = M 8 (3 * p) ∧ X (11 + p) 1 = M 8 (3 * p + 1) ∧ X (11 + p) 2 = M 8 (3 * p + 2) ∧ h_ib (M 8 (3 * p)) 32 ∧ h_ib (M 8 (3 * p + 1)) 5 ∧ h_ib (M 8 (3 * p + 2)) 4 := by
  obtain ⟨T, -, -, -, -, h1, -⟩ := h.getN
  exact h1 p hp
theorem eq_wind {X M : hMem} (h : RR X M) (a : Int32) : EqP (fX9_wind a X) (fX10_wind a M) := by
  unfold fX9_wind fX10_wind fX7_gust
  rw [xe_sec, me_in23, b01, b01]
  by_cases ha : h_ib a 24
  · obtain ⟨t, ht, ht2, rfl⟩ := ib_ex ha
    simp only [if_pos ha, Option.bind_some, nI_clamp ht2, (h.gust ht).1, (h.gust ht).2.1]
    exact EqP.now _
  · rw [if_neg ha, if_neg ha]; exact EqP.now _
theorem q_gt2 {α : Type} {a : Int32} {A B : α} : (if a < 0 then A else if 2 < a then A else B) = if h_ib a 3 then B else A := if_gt a 2 A B (by decide)
theorem q_gt3 {α : Type} {a : Int32} {A B : α} : (if a < 0 then A else if 3 < a then A else B) = if h_ib a 4 then B else A := if_gt a 3 A B (by decide)
theorem q_gt4 {α : Type} {a : Int32} {A B : α} : (if a < 0 then A else if 4 < a then A else B) = if h_ib a 5 then B else A := if_gt a 4 A B (by decide)
theorem q_gt5 {α : Type} {a : Int32} {A B : α} : (if a < 0 then A else if 5 < a then A else B) = if h_ib a 6 then B else A := if_gt a 5 A B (by decide)
theorem q_gt6 {α : Type} {a : Int32} {A B : α} : (if a < 0 then A else if 6 < a then A else B) = if h_ib a 7 then B else A := if_gt a 6 A B (by decide)
theorem q_gt9 {α : Type} {a : Int32} {A B : α} : (if a < 0 then A else if 9 < a then A else B) = if h_ib a 10 then B else A := if_gt a 9 A B (by decide)
theorem q_gt13 {α : Type} {a : Int32} {A B : α} : (if a < 0 then A else if 13 < a then A else B) = if h_ib a 14 then B else A := if_gt a 13 A B (by decide)
theorem q_gt25 {α : Type} {a : Int32} {A B : α} : (if a < 0 then A else if 25 < a then A else B) = if h_ib a 26 then B else A := if_gt a 25 A B (by decide)
theorem q_gt31 {α : Type} {a : Int32} {A B : α} : (if a < 0 then A else if 31 < a then A else B) = if h_ib a 32 then B else A := if_gt a 31 A B (by decide)
theorem q_gt35 {α : Type} {a : Int32} {A B : α} : (if a < 0 then A else if 35 < a then A else B) = if h_ib a 36 then B else A := if_gt a 35 A B (by decide)
theorem q_le1 {α : Type} {a : Int32} {A B : α} : (if a < 0 then A else if a ≤ 1 then B else A) = if h_ib a 2 then B else A := if_le a 1 A B (by decide)
theorem q_le6 {α : Type} {a : Int32} {A B : α} : (if a < 0 then A else if a ≤ 6 then B else A) = if h_ib a 7 then B else A := if_le a 6 A B (by decide)
theorem q_le9 {α : Type} {a : Int32} {A B : α} : (if a < 0 then A else if a ≤ 9 then B else A) = if h_ib a 10 then B else A := if_le a 9 A B (by decide)
theorem q_le13 {α : Type} {a : Int32} {A B : α} : (if a < 0 then A else if a ≤ 13 then B else A) = if h_ib a 14 then B else A := if_le a 13 A B (by decide)
theorem q_le25 {α : Type} {a : Int32} {A B : α} : (if a < 0 then A else if a ≤ 25 then B else A) = if h_ib a 26 then B else A := if_le a 25 A B (by decide)
theorem q_lt3 {α : Type} {a : Int32} {A B : α} : (if a < 0 then A else if a < 3 then B else A) = if h_ib a 3 then B else A := if_lt a 3 A B (by decide)
theorem q_lt6 {α : Type} {a : Int32} {A B : α} : (if a < 0 then A else if a < 6 then B else A) = if h_ib a 6 then B else A := if_lt a 6 A B (by decide)
theorem q_lt36 {α : Type} {a : Int32} {A B : α} : (if a < 0 then A else if a < 36 then B else A) = if h_ib a 36 then B else A := if_lt a 36 A B (by decide)
theorem q_ge3 {α : Type} {a : Int32} {A B : α} : (if a < 0 then A else if 3 ≤ a then A else B) = if h_ib a 3 then B else A := if_ge a 3 A B (by decide)
theorem q_ge6 {α : Type} {a : Int32} {A B : α} : (if a < 0 then A else if 6 ≤ a then A else B) = if h_ib a 6 then B else A := if_ge a 6 A B (by decide)
theorem q_ge24 {α : Type} {a : Int32} {A B : α} : (if a < 0 then A else if 24 ≤ a then A else B) = if h_ib a 24 then B else A := if_ge a 24 A B (by decide)
/-- gusts alone changed -/
theorem gNow_g {T : Nat} {X M X' M' : hMem} (n : gNow T X M) (hx : ∀ a, 1 ≤ a → a ≤ 14 → a ≠ 3 → a ≠ 4 → X' a = X a) (hm : ∀ a, 1 ≤ a → a ≤ 8 → a ≠ 2 → a ≠ 3 → M' a = M a) (h0 : ∀ j, kM0 j → M' 0 j = M 0 j) (g : gGust (X' 3) (X' 4) (M' 2) (M' 3)) : gNow T X' M' := by
  obtain ⟨h1, h2, h3, h4, h5, h6, h7⟩ := n
  refine ⟨?_, g, gHats_c h3 (fun i hi => hx _ (by omega) (by omega) (by omega) (by omega)) ?_ ?_ ?_ ?_, gCats_c h4 (fun i hi => hx _ (by omega) (by omega) (by omega) (by omega)) ?_, ?_, ?_, ?_⟩
  · rw [hx 2 (by omega) (by omega) (by omega) (by omega), hm 1 (by omega) (by omega) (by omega) (by omega)]; exact h1
  · intro i hi; rw [hm 4 (by omega) (by omega) (by omega) (by omega)]
  · intro i hi; rw [hm 5 (by omega) (by omega) (by omega) (by omega)]
  · intro i hi; rw [hm 6 (by omega) (by omega) (by omega) (by omega)]
  · intro i hi; rw [hm 7 (by omega) (by omega) (by omega) (by omega)]
  · intro i hi; rw [hm 8 (by omega) (by omega) (by omega) (by omega)]
  · rw [hx 1 (by omega) (by omega) (by omega) (by omega), h0 3 (by unfold kM0; omega)]; exact h5
  · rw [hx 1 (by omega) (by omega) (by omega) (by omega), h0 8 (by unfold kM0; omega)]; exact h6
  · rw [hx 1 (by omega) (by omega) (by omega) (by omega), h0 15 (by unfold kM0; omega)]; exact h7
theorem eq_blow {X M : hMem} (h : RR X M) (a b c : Int32) : EqC (fX9_blow a b c X) (fX10_blow a b c M) := by
  unfold fX9_blow fX10_blow fX7_gust
  rw [xe_sec, me_in23, b01, b01, me_in4, b01, me_in9, b01, q_gt4, q_le9]
  by_cases ha : h_ib a 24
  · by_cases hb : h_ib b 5
    · by_cases hc : h_ib c 10
      · obtain ⟨t, ht, ht2, rfl⟩ := ib_ex ha
        simp only [if_pos ha, if_pos hb, if_pos hc, Option.bind_some, nI_clamp ht2, (h.gust ht).1, (h.gust ht).2.1]
        refine EqC.now (h.now ?_ ?_ ?_ ?_ ?_)
        · intro q _ h2; simp (disch := omega) only [m_row]
        · simp (disch := omega) only [m_row]
        · intro q _ h2; simp (disch := omega) only [m_row]
        · intro j hj _ _ _; simp (disch := omega) only [m_row, m_own, u_n]
        · intro T _ _ _ n
          refine gNow_g n ?_ ?_ ?_ ?_
          · intro q _ _ _ _; simp (disch := omega) only [m_row]
          · intro q _ _ _ _; simp (disch := omega) only [m_row]
          · intro j hj; simp (disch := omega) only [m_row]
          · intro u hu
            simp (disch := omega) only [m_row, m_own]
            simp only [u_e]
            by_cases e : u = t
            · simp only [if_pos e]; exact ⟨trivial, trivial, hb, hc⟩
            · simp only [if_neg e]; exact n.2.1 u hu
      · simp only [if_pos ha, if_pos hb, if_neg hc]; exact EqC.now h
    · simp only [if_pos ha, if_neg hb]; exact EqC.now h
  · simp only [if_neg ha]; exact EqC.now h
