/-! the two first memories are alike -/
def X9i : hMem := PX MXc 45
def M9i : hMem := h_up (MAi MMo 9 WM16 45) 0 11 45
def b9 : Nat → Int32 := X9i 31
def isOkE {α β : Type} : Except α β → Bool
  | .ok _ => true
  | .error _ => false
set_option maxRecDepth 100000 in
theorem txt_first : isOkE (txt (ktF b9 45) (vtF b9 45)) = true := by decide +kernel
theorem b9_ib : ∀ i, i < 160 → h_ib (b9 i) 256 := by decide +kernel
theorem b9_m : ∀ i, i < 160 → M9i 9 i = b9 i := by decide +kernel
theorem m9_w : ∀ i, i < 96 → M9i 17 i = wdsL.getD i 0 := by decide +kernel
theorem gNow_i : gNow 1 X9i M9i := by
  refine ⟨?_, ?_, ?_, ?_, ⟨rfl, by decide +kernel⟩, ⟨rfl, by decide +kernel⟩, ⟨rfl, by decide +kernel⟩⟩
  · show ∀ k, k < 3 → X9i 2 k = M9i 1 k
    decide +kernel
  · show ∀ t, t < 24 → X9i 3 t = M9i 2 t ∧ X9i 4 t = M9i 3 t ∧ h_ib (M9i 2 t) 5 ∧ h_ib (M9i 3 t) 10
    decide +kernel
  · show ∀ h, h < 4 → X9i (7 + h) 0 = M9i 4 h ∧ X9i (7 + h) 1 = M9i 5 h ∧ X9i (7 + h) 2 = M9i 7 h * 32 + M9i 6 h ∧ h_ib (M9i 4 h) 6 ∧ h_ib (M9i 5 h) 10 ∧ h_ib (M9i 6 h) 32 ∧ h_ib (M9i 7 h) 3
    decide +kernel
  · show ∀ p, p < 4 → X9i (11 + p) 0 = M9i 8 (3 * p) ∧ X9i (11 + p) 1 = M9i 8 (3 * p + 1) ∧ X9i (11 + p) 2 = M9i 8 (3 * p + 2) ∧ h_ib (M9i 8 (3 * p)) 32 ∧ h_ib (M9i 8 (3 * p + 1)) 5 ∧ h_ib (M9i 8 (3 * p + 2)) 4
    decide +kernel
theorem gKept_i : gKept 1 X9i M9i := Or.inl (by decide +kernel)
theorem gSheets_i : gSheets X9i M9i := by
  show ∀ s, s < 4 → X9i (80 + 2 * s) 0 = M9i 13 s ∧ X9i (80 + 2 * s) 1 = M9i 14 s ∧ (M9i 13 s = -1 ∨ h_ib (M9i 13 s) 3) ∧ h_ib (M9i 14 s) 41 ∧ ∀ i, i < 40 → X9i (81 + 2 * s) i = M9i 15 (40 * s + i)
  decide +kernel
theorem rr_init : ∃ (v0 : Int32) (X0 : hMem) (v1 : Int32) (M1 : hMem), fX5_readInto 56 (PX MXc 45) = some (v0, X0) ∧ fX10_text (h_up (MAi MMo 9 WM16 45) 0 11 45) = some (v1, M1) ∧ RR X0 M1 := by
  have hTX : TXx b9 45 X9i := ⟨by decide, rfl, rfl⟩
  have hTM : TXm b9 45 M9i := ⟨by decide, rfl, b9_m, m9_w⟩
  obtain ⟨E, hE, hmin⟩ := ex_E (b := b9) (n := 45) (by decide)
  obtain ⟨-, x2⟩ := x_into (T := 0) (by decide) hTX b9_ib hE hmin
  obtain ⟨-, m2⟩ := m_text (T := 0) (M := M9i) (by decide) rfl hTM b9_ib hE (vok_t (by decide) b9_ib)
  have hok := txt_first
  cases ht : txt (ktF b9 45) (vtF b9 45) with
  | error kf => rw [ht] at hok; cases hok
  | ok w =>
    obtain ⟨w1, w2, w3⟩ := w
    obtain ⟨X', a1, a2, a4, a5, a6, a7, a8⟩ := x2 w1 w2 w3 ht
    obtain ⟨M', c1, c2, c3, c4, c5, c6, c7, c8⟩ := m2 w1 w2 w3 ht
    obtain ⟨f1, f2, f3⟩ := txt_wf (vb_t (by decide) b9_ib) ht
    refine ⟨-1, X', nI 0, M', a1, c1, ?_⟩
    have l12 : (w1 ++ w2).length = w1.length + w2.length := List.length_append
    have l123 : (w1 ++ w2 ++ w3).length = w1.length + w2.length + w3.length := by rw [List.length_append, l12]
    obtain ⟨x1, x3⟩ := a2
    obtain ⟨m1, m2', m3, m4, m5⟩ := c2
    have hx : ∀ a, a ≠ 30 → a ≠ 32 → a ≠ 33 → a ≠ 34 → a ≠ 56 → a ≠ 57 → a ≠ 58 → X' a = X9i a := x1
    refine ⟨1, by decide, by decide, ?_, c3, ?_, ?_, ?_, ?_, ?_, ?_, ?_, ?_⟩
    · rw [hx 0 (by decide) (by decide) (by decide) (by decide) (by decide) (by decide) (by decide)]; rfl
    · refine gNow_n gNow_i (fun a h1 h2 => hx a (by omega) (by omega) (by omega) (by omega) (by omega) (by omega) (by omega)) (fun a h1 h2 => m1 a (by omega) (by omega) (by omega) (by omega)) ?_ ?_ ?_
      · rw [hx 1 (by decide) (by decide) (by decide) (by decide) (by decide) (by decide) (by decide), m2' 3 (by unfold kY; omega) (by omega) (by omega)]; exact gNow_i.2.2.2.2.1
      · rw [hx 1 (by decide) (by decide) (by decide) (by decide) (by decide) (by decide) (by decide), m2' 8 (by unfold kY; omega) (by omega) (by omega)]; exact gNow_i.2.2.2.2.2.1
      · rw [hx 1 (by decide) (by decide) (by decide) (by decide) (by decide) (by decide) (by decide), m2' 15 (by unfold kY; omega) (by omega) (by omega)]; exact gNow_i.2.2.2.2.2.2
    · exact gKept_c gKept_i (fun a h1 h2 => hx a (by omega) (by omega) (by omega) (by omega) (by omega) (by omega) (by omega)) (m1 12 (by omega) (by omega) (by omega) (by omega)) (fun j h1 h2 => m2' j (by unfold kY; omega) (by omega) (by omega))
    · rw [hx 0 (by decide) (by decide) (by decide) (by decide) (by decide) (by decide) (by decide), m2' 16 (by unfold kY; omega) (by omega) (by omega)]; rfl
    · rw [m2' 39 (by unfold kY; omega) (by omega) (by omega)]; rfl
    · refine ⟨⟨by rw [x3, m5], by rw [m5]; exact ib_mk (j := 0) (by omega) (by omega)⟩, fun i hi => ?_⟩
      rw [hx 31 (by decide) (by decide) (by decide) (by decide) (by decide) (by decide) (by decide), m1 9 (by omega) (by omega) (by omega) (by omega)]
      exact ⟨(b9_m i hi).symm, by rw [b9_m i hi]; exact b9_ib i hi⟩
    · exact gSheets_c gSheets_i (fun a h => hx a (by omega) (by omega) (by omega) (by omega) (by omega) (by omega) (by omega)) (fun a h1 h2 => m1 a (by omega) (by omega) (by omega) (by omega))
    · intro t ht0
      have : t = 0 := by omega
      subst this
      refine ⟨w1.length, (w1 ++ w2).length, (w1 ++ w2 ++ w3).length, a5, a6, a7, by omega, by omega, a8, ?_, ?_, ?_, ?_, c5, c6, c7, c8⟩
      · exact wfG_R w1 0 1 0 f1 (Nat.le_refl _) (fun j hj => by rw [Nat.zero_add, a4 j (by omega), List.append_assoc, getD_l hj])
      · rw [show (w1 ++ w2).length - w1.length = w2.length from by omega]
        exact wfG_R w2 0 1 _ f2 (Nat.le_refl _) (fun j hj => by rw [a4 _ (by omega), List.append_assoc, getD_r, getD_l hj])
      · rw [show (w1 ++ w2 ++ w3).length - (w1 ++ w2).length = w3.length from by omega]
        exact wfG_R w3 0 1 _ f3 (Nat.le_refl _) (fun j hj => by rw [a4 _ (by omega), getD_r])
      · intro i hi
        show M' 10 (200 * 0 + i) = _
        rw [c4 i hi, a4 i hi]
    · intro i hi
      rw [m1 17 (by omega) (by omega) (by omega) (by omega)]
      exact m9_w i hi
