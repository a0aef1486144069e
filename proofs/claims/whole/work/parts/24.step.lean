/-! A SECOND OF A HAT -/
theorem evR_c {c nm nm' : Nat → Int32} (h : ∀ j, j < 6 → nm j = nm' j) : ∀ (n i top : Nat) (s : List Int32), wfR c n i top → evR c nm n i s = evR c nm' n i s
  | 0, _, _, _, _ => rfl
  | n + 1, i, top, s, hw => by
    rw [evR_s, evR_s]
    rcases hw with ⟨w1, w2, w3, w4⟩ | ⟨w1, w3, w4⟩ | ⟨w1, w3, w4⟩
    · rw [if_pos w1, if_pos w1]
      by_cases hz : c i < 0
      · obtain ⟨j, hj, ej⟩ := w_nm w1 hz
        rw [if_pos hz, if_pos hz, ej, nI_clamp (by omega), h j hj]
        exact evR_c h n (i + 1) _ _ w4
      · rw [if_neg hz, if_neg hz]; exact evR_c h n (i + 1) _ _ w4
    · have hu := w_un w1
      rw [if_neg hu.2, if_pos w1, if_neg hu.2, if_pos w1]
      cases s with
      | nil => rfl
      | cons a r => exact evR_c h n (i + 1) _ _ w4
    · obtain ⟨o1, o2, o3, o4, o5⟩ := w_op w1
      rw [if_neg o2, if_neg o5, if_neg o2, if_neg o5]
      cases s with
      | nil => rfl
      | cons b r' =>
        cases r' with
        | nil => rfl
        | cons a r => exact evR_c h n (i + 1) _ _ w4
theorem evX_c {c e mc ms nm nm' : Nat → Int32} {p : Nat} (hp : p < 3) (hg : gText c e mc ms) (h : ∀ j, j < 6 → nm j = nm' j) : evX c e p nm = evX c e p nm' := by
  obtain ⟨e0, e1, e2, g0, g1, g2, l0, l1, l2, w0, w1, w2, -⟩ := hg
  unfold evX
  rcases (by omega : p = 0 ∨ p = 1 ∨ p = 2) with rfl | rfl | rfl
  · simp only [g0, nI_clamp (show e0 < 2 ^ 31 by omega), if_true, Nat.sub_zero]
    rw [evR_c h _ _ _ _ w0]
  · simp only [g1, g0, nI_clamp (show e0 < 2 ^ 31 by omega), nI_clamp (show e1 < 2 ^ 31 by omega), if_neg (show ¬ 1 = 0 by omega), Nat.sub_self]
    rw [evR_c h _ _ _ _ w1]
  · simp only [g1, g2, nI_clamp (show e1 < 2 ^ 31 by omega), nI_clamp (show e2 < 2 ^ 31 by omega), if_neg (show ¬ 2 = 0 by omega), show 2 - 1 = 1 from rfl]
    rw [evR_c h _ _ _ _ w2]
/-- sets, ways, strengths, kind, more, what the text says -/
abbrev hWd : Type := (Nat → Int32) × (Nat → Int32) × (Nat → Int32) × Nat × Nat × (Nat → (Nat → Int32) → Int32)
def nbr (c way : Nat) : Option Nat := if way = 0 then (if 8 ≤ c then some (c - 8) else none) else if way = 1 then (if c % 8 < 7 then some (c + 1) else none) else if way = 2 then (if c + 8 < 32 then some (c + 8) else none) else (if 0 < c % 8 then some (c - 1) else none)
def besS (W : Int32) (c way : Nat) : Option Nat := match nbr c way with | none => none | some d => if bt W d = true then none else some d
def sldS (W P : Int32) (way : Nat) : Nat → Nat → Nat
  | 0, c => c
  | n + 1, c => match besS W c way with | none => c | some d => if bt P d = true then d else sldS W P way n d
theorem sldS_s (W P : Int32) (way n c : Nat) : sldS W P way (n + 1) c = (match besS W c way with | none => c | some d => if bt P d = true then d else sldS W P way n d) := rfl
def farN (k mo v l : Nat) : Nat := min 12 (if (k = 1 ∧ l = 1) ∨ k = 3 then v + 1 + mo / 4 else if k = 2 then min 1 v else if k = 4 then (if 1 < v then v + mo / 2 else min 1 v) else if k = 5 then (if l = 0 then v / 3 else v) - mo else if l = 0 then v / 3 else v)
def eddN (k mo w : Nat) : Nat := if k = 3 then (w + 1 + mo) % 4 else if k = 5 then w else (w + 1) % 4
def stepS (w : hWd) (t : Nat) (s : Nat × Nat) : Nat × Nat :=
  if w.2.1 t = 4 then s else if bt (w.1 1) s.1 = true then s else
  let nm := nmS (w.2.2.1 t) (nI s.2) (nI w.2.2.2.2.1) (nI t) (nI s.1) (nI w.2.2.2.1)
  let wy := (w.2.1 t).toNatClampNeg
  let q := sldS (w.1 0) (w.1 1) (if bt (w.1 2) s.1 = true then eddN w.2.2.2.1 w.2.2.2.2.1 wy else wy) (farN w.2.2.2.1 w.2.2.2.2.1 (w.2.2.2.2.2 0 nm).toNatClampNeg s.2) s.1
  (q, if w.2.2.2.1 = 2 ∨ w.2.2.2.1 = 4 ∨ q = s.1 then s.2 else (s.2 + (w.2.2.2.2.2 1 nm).toNatClampNeg) % 3)
/-- a world in which all is within its bounds -/
def okW (w : hWd) : Prop := (∀ t, t < 24 → h_ib (w.2.1 t) 5) ∧ w.2.2.2.1 < 6 ∧ w.2.2.2.2.1 < 10 ∧ ∀ nm, h_ib (w.2.2.2.2.2 0 nm) 10 ∧ h_ib (w.2.2.2.2.2 1 nm) 3
theorem nbr_lt {c way d : Nat} (hc : c < 32) (h : nbr c way = some d) : d < 32 := by
  unfold nbr at h
  split at h
  · split at h
    · cases h; omega
    · cases h
  · split at h
    · split at h
      · cases h; omega
      · cases h
    · split at h
      · split at h
        · cases h; omega
        · cases h
      · split at h
        · cases h; omega
        · cases h
theorem besS_lt {W : Int32} {c way d : Nat} (hc : c < 32) (h : besS W c way = some d) : d < 32 := by
  unfold besS at h
  cases e : nbr c way with
  | none => rw [e] at h; cases h
  | some f =>
    rw [e] at h
    have hf := nbr_lt hc e
    by_cases hb : bt W f = true
    · simp only [if_pos hb] at h; cases h
    · simp only [if_neg hb] at h; cases h; exact hf
theorem sldS_lt {W P : Int32} {way : Nat} : ∀ (n c : Nat), c < 32 → sldS W P way n c < 32
  | 0, c, hc => hc
  | n + 1, c, hc => by
    unfold sldS
    cases e : besS W c way with
    | none => exact hc
    | some d =>
      have hd := besS_lt hc e
      by_cases hb : bt P d = true
      · simp only [if_pos hb]; exact hd
      · simp only [if_neg hb]; exact sldS_lt n d hd
theorem sldS_none {W P : Int32} {way c : Nat} (h : besS W c way = none) : ∀ n, sldS W P way n c = c
  | 0 => rfl
  | n + 1 => by unfold sldS; rw [h]
theorem ite_lt3 {c : Prop} [Decidable c] {a b : Nat} (ha : a < 3) (hb : b < 3) : (if c then a else b) < 3 := by split <;> assumption
theorem stepS_lt {w : hWd} {t : Nat} {s : Nat × Nat} (h1 : s.1 < 32) (h2 : s.2 < 3) : (stepS w t s).1 < 32 ∧ (stepS w t s).2 < 3 := by
  unfold stepS
  by_cases a : w.2.1 t = 4
  · rw [if_pos a]; exact ⟨h1, h2⟩
  · rw [if_neg a]
    by_cases b : bt (w.1 1) s.1 = true
    · rw [if_pos b]; exact ⟨h1, h2⟩
    · rw [if_neg b]
      refine ⟨sldS_lt _ _ h1, ?_⟩
      exact ite_lt3 h2 (Nat.mod_lt _ (by decide))
/-! x's side -/
theorem dc4 {A B C D : Nat} {p : Nat → Nat → Nat → Nat → Bool} (h : (List.range A).all (fun a => (List.range B).all (fun b => (List.range C).all (fun c => (List.range D).all (fun d => p a b c d)))) = true) {a b c d : Nat} (ha : a < A) (hb : b < B) (hc : c < C) (hd : d < D) : p a b c d = true := dc2 (p := fun c d => p a b c d) (dc2 (p := fun a b => (List.range C).all (fun c => (List.range D).all (fun d => p a b c d))) h ha hb) hc hd
def hM0 : hMem := fun _ _ => 0
theorem x_far {k mo v l : Nat} (hk : k < 6) (hm : mo < 10) (hv : v < 10) (hl : l < 3) (M : hMem) : fX3_far (nI k) (nI mo) (nI v) (nI l) M = nI (farN k mo v l) := by
  have h := dc4 (A := 6) (B := 10) (C := 10) (D := 3) (p := fun k mo v l => decide (fX3_far (nI k) (nI mo) (nI v) (nI l) hM0 = nI (farN k mo v l))) (by decide +kernel) hk hm hv hl
  exact of_decide_eq_true h
theorem x_edd {k mo w : Nat} (hk : k < 6) (hm : mo < 10) (hw : w < 4) (M : hMem) : fX3_eddyWay (nI k) (nI mo) (nI w) M = nI (eddN k mo w) := by
  have h := dc4 (A := 6) (B := 10) (C := 4) (D := 1) (p := fun k mo w _ => decide (fX3_eddyWay (nI k) (nI mo) (nI w) hM0 = nI (eddN k mo w))) (by decide +kernel) hk hm hw (show 0 < 1 by decide)
  exact of_decide_eq_true h
theorem x_turns {k : Nat} (hk : k < 6) (M : hMem) : fX3_turnsOver (nI k) M = some (if k = 2 ∨ k = 4 then 0 else 1) := by
  have h := h_forall (N := 6) (p := fun k => decide (fX3_turnsOver (nI k) hM0 = some (if k = 2 ∨ k = 4 then 0 else 1))) (by decide +kernel) hk
  exact of_decide_eq_true h
theorem x_sqOf {q l : Nat} (hq : q < 32) (hl : l < 3) (M : hMem) : fX9_squareOf (nI (32 * l + q)) M = nI q := by
  unfold fX9_squareOf
  rw [show (32 : Int32) = nI 32 from rfl, n_rem (by omega) (by omega) (by omega)]
  congr 1
  omega
theorem x_lieOf {q l : Nat} (hq : q < 32) (hl : l < 3) (M : hMem) : fX9_lieOf (nI (32 * l + q)) M = nI l := by
  unfold fX9_lieOf
  rw [show (32 : Int32) = nI 32 from rfl, pk_div (by omega) (by omega) (by omega)]
  congr 1
  omega
theorem x_stOf (q l : Nat) (M : hMem) : fX9_stateOf (nI q) (nI l) M = nI (32 * l + q) := by
  unfold fX9_stateOf
  rw [show (32 : Int32) = nI 32 from rfl, pk_mul, nI_add]
  congr 1
  omega
/-- what x's mind holds: the world w, its text being T -/
def MX (w : hWd) (T : Nat) (X : hMem) : Prop := X 40 0 = w.1 0 ∧ X 40 1 = w.1 1 ∧ X 40 2 = w.1 2 ∧ X 40 3 = nI w.2.2.2.1 ∧ X 40 4 = nI w.2.2.2.2.1 ∧ (∀ t, t < 24 → X 45 t = w.2.1 t ∧ X 46 t = w.2.2.1 t) ∧ T < 6 ∧ X 40 6 = nI (56 + 4 * T) ∧ (∃ mc ms, gText (X (57 + 4 * T)) (X (58 + 4 * T)) mc ms) ∧ w.2.2.2.2.2 = evX (X (57 + 4 * T)) (X (58 + 4 * T))
/-- in thought names and a text's pending numbers change, no more -/
def kT (X X' : hMem) : Prop := ∀ a, a ≠ 48 → ¬ (59 ≤ a ∧ a < 80 ∧ a % 4 = 3) → X' a = X a
theorem kT.rf (X : hMem) : kT X X := fun _ _ _ => rfl
theorem kT.tr {X Y Z : hMem} (h : kT X Y) (g : kT Y Z) : kT X Z := fun a h1 h2 => (g a h1 h2).trans (h a h1 h2)
theorem MX.kT {w : hWd} {T : Nat} {X X' : hMem} (h : MX w T X) (k : kT X X') : MX w T X' := by
  obtain ⟨h1, h2, h3, h4, h5, h6, h7, h8, h9, h10⟩ := h
  refine ⟨?_, ?_, ?_, ?_, ?_, ?_, h7, ?_, ?_, ?_⟩
  · rw [k 40 (by omega) (by omega)]; exact h1
  · rw [k 40 (by omega) (by omega)]; exact h2
  · rw [k 40 (by omega) (by omega)]; exact h3
  · rw [k 40 (by omega) (by omega)]; exact h4
  · rw [k 40 (by omega) (by omega)]; exact h5
  · rw [k 45 (by omega) (by omega), k 46 (by omega) (by omega)]; exact h6
  · rw [k 40 (by omega) (by omega)]; exact h8
  · rw [k (57 + 4 * T) (by omega) (by omega), k (58 + 4 * T) (by omega) (by omega)]; exact h9
  · rw [k (57 + 4 * T) (by omega) (by omega), k (58 + 4 * T) (by omega) (by omega)]; exact h10
theorem bes_m (W : Int32) (d : Nat) : (if bt W d = true then -1 else nI d) = (match (match some d with | none => none | some d => if bt W d = true then none else some d : Option Nat) with | none => (-1 : Int32) | some d => nI d) := by
  cases hb : bt W d <;> simp [hb]
theorem x_bes {X : hMem} {W : Int32} (hW : X 40 0 = W) {c way : Nat} (hc : c < 32) (hw : way < 4) : fX8_beside (nI c) (nI way) X = (match besS W c way with | none => -1 | some d => nI d) := by
  have L79 : ∀ d, d < 32 → fX8_beside_L79 (nI d) X = if bt W d = true then -1 else nI d := fun d hd => by
    unfold fX8_beside_L79
    rw [xe_sq, b01, if_pos (ib_mk hd (by decide)), hW, bit_u _ hd, b01]
  have L79n : ∀ x : Int32, ¬ h_ib x 32 → fX8_beside_L79 x X = -1 := fun x hx => by
    unfold fX8_beside_L79
    rw [xe_sq, b01, if_neg hx]
  have r8 : h_rem (nI c) 8 = nI (c % 8) := n_rem (by omega) (by decide) (by decide)
  unfold fX8_beside fX8_beside_L52 fX8_beside_L78 besS nbr
  rw [r8]
  rcases (by omega : way = 0 ∨ way = 1 ∨ way = 2 ∨ way = 3) with rfl | rfl | rfl | rfl
  · rw [if_pos (show nI 0 = 0 from rfl)]
    simp only [if_true]
    by_cases h : 8 ≤ c
    · rw [if_pos h, show nI c - 8 = nI (c - 8) from pk_sub (b := 8) h, L79 _ (by omega)]; exact bes_m W _
    · rw [if_neg h, L79n _ (fun hh => by have := ((ib_int _ _).mp hh).1; rw [show (nI c - 8).toInt = (c : Int) - 8 from pk_sub_toInt (b := 8) (by omega) (by decide)] at this; omega)]
  · rw [if_neg (show ¬ nI 1 = 0 from by decide), if_pos (show nI 1 = 1 from rfl)]
    simp only [if_neg (show ¬ 1 = 0 by decide), if_true]
    by_cases h : c % 8 < 7
    · rw [if_pos h, if_neg (show ¬ (7 : Int32) ≤ nI (c % 8) from nI_ge (b := 7) h (by decide)), nI_1, L79 _ (by omega)]; exact bes_m W _
    · rw [if_neg h, if_pos (show (7 : Int32) ≤ nI (c % 8) from nI_le (a := 7) (by omega) (by omega)), L79n _ (by decide)]
  · rw [if_neg (show ¬ nI 2 = 0 from by decide), if_neg (show ¬ nI 2 = 1 from by decide), if_pos (show nI 2 = 2 from rfl)]
    simp only [if_neg (show ¬ 2 = 0 by decide), if_neg (show ¬ 2 = 1 by decide), if_true]
    rw [show nI c + 8 = nI (c + 8) from nI_add c 8]
    by_cases h : c + 8 < 32
    · rw [if_pos h, L79 _ h]; exact bes_m W _
    · rw [if_neg h, L79n _ (fun hh => h ((ib_iff (by omega)).mp hh))]
  · rw [if_neg (show ¬ nI 3 = 0 from by decide), if_neg (show ¬ nI 3 = 1 from by decide), if_neg (show ¬ nI 3 = 2 from by decide)]
    simp only [if_neg (show ¬ 3 = 0 by decide), if_neg (show ¬ 3 = 1 by decide), if_neg (show ¬ 3 = 2 by decide)]
    by_cases h : 0 < c % 8
    · rw [if_pos h, if_neg (show ¬ nI (c % 8) ≤ 0 from nI_ge (a := 0) h (by omega)), nI_sub1 (by omega), L79 _ (by omega)]; exact bes_m W _
    · rw [if_neg h, if_pos (show nI (c % 8) ≤ 0 from nI_le (b := 0) (by omega) (by decide)), L79n _ (by decide)]
theorem x_slide {X : hMem} {W P : Int32} (hW : X 40 0 = W) (hP : X 40 1 = P) {c way far : Nat} (hc : c < 32) (hw : way < 4) (hf : far ≤ 12) : fX8_slide (nI c) (nI way) (nI far) X = some (nI (sldS W P way far c)) := by
  unfold fX8_slide
  obtain ⟨r, h1, h2⟩ := lp_h (body := fX8_slide_L6 (nI way) (nI far) X) (fun s => ∃ c' i : Nat, s = (nI c', nI i) ∧ c' < 32 ∧ i ≤ far ∧ sldS W P way (far - i) c' = sldS W P way far c) (fun r => r = nI (sldS W P way far c)) (fun s => far - s.2.toNatClampNeg) (by
    rintro k s ⟨c', i, rfl, hc', hi, hr⟩ hk
    unfold fX8_slide_L6
    simp only []
    rcases Nat.lt_or_ge i far with h | h
    · rw [if_neg (nI_ge h (by omega)), x_bes hW hc' hw, nI_1]
      obtain ⟨m, hm⟩ : ∃ m, far - i = m + 1 := ⟨far - i - 1, by omega⟩
      rw [hm, sldS_s] at hr
      cases e : besS W c' way with
      | none => simp only [e] at hr ⊢; rw [if_neg (by decide)]; exact ⟨_, rfl, by rw [hr]⟩
      | some d =>
        have hd := besS_lt hc' e
        simp only [e] at hr ⊢
        rw [if_pos (nI_pos' (by omega)), hP, bit_u _ hd, b01]
        by_cases hb : bt P d = true
        · rw [if_pos hb] at hr ⊢; exact ⟨_, rfl, by rw [hr]⟩
        · rw [if_neg hb] at hr ⊢
          exact hk _ ⟨d, i + 1, rfl, hd, h, by rw [show far - (i + 1) = m from by omega, hr]⟩ (by simp only [nI_clamp (show i + 1 < 2 ^ 31 by omega), nI_clamp (show i < 2 ^ 31 by omega)]; omega)
    · rw [if_pos (nI_le h (by omega))]
      rw [show far - i = 0 from by omega] at hr
      exact ⟨_, rfl, by rw [← hr]; rfl⟩) h_FU (nI c, 0) ⟨c, 0, rfl, hc, Nat.zero_le _, rfl⟩ (by show far - (0 : Int32).toNatClampNeg < 20000; omega)
  rw [h1, h2]
/-- a second, x's -/
theorem x_next {w : hWd} {T : Nat} {X : hMem} (hw : okW w) (h : MX w T X) {t q l : Nat} (ht : t < 24) (hq : q < 32) (hl : l < 3) : ∃ X', fX8_next (nI t) (nI (32 * l + q)) X = some (nI (32 * (stepS w t (q, l)).2 + (stepS w t (q, l)).1), X') ∧ kT X X' := by
  have h0 := h
  obtain ⟨h1, h2, h3, h4, h5, h6, h7, h8, ⟨mc, ms, h9⟩, h10⟩ := h
  obtain ⟨o1, o2, o3, o4⟩ := hw
  unfold fX8_next
  rw [xe_sec, b01, if_pos (ib_mk ht (by decide)), if_pos (ib_mk ht (by decide))]
  simp only [nI_clamp (show t < 2 ^ 31 by omega), (h6 t ht).1]
  by_cases c4 : w.2.1 t = 4
  · rw [if_pos c4]
    refine ⟨X, ?_, kT.rf X⟩
    rw [show stepS w t (q, l) = (q, l) from by unfold stepS; rw [if_pos c4]]
  · rw [if_neg c4]
    unfold fX8_isWet
    rw [x_sqOf hq hl, h2, bit_u _ hq, b01, b01]
    by_cases cw : bt (w.1 1) q = true
    · rw [if_pos cw]
      refine ⟨X, ?_, kT.rf X⟩
      rw [show stepS w t (q, l) = (q, l) from by unfold stepS; rw [if_neg c4, if_pos cw]]
    · rw [if_neg cw, if_pos (ib_mk ht (by decide)), (h6 t ht).2]
      unfold fX8_tell fX8_tell_L44
      simp only [x_lieOf hq hl, x_sqOf hq hl]
      have frT : kT X (h_up (h_up (h_up (h_up (h_up (h_up X 48 0 (w.2.2.1 t)) 48 1 (nI l)) 48 2 ((h_up (h_up X 48 0 (w.2.2.1 t)) 48 1 (nI l)) 40 4)) 48 3 (nI t)) 48 4 (nI q)) 48 5 ((h_up (h_up (h_up (h_up (h_up X 48 0 (w.2.2.1 t)) 48 1 (nI l)) 48 2 ((h_up (h_up X 48 0 (w.2.2.1 t)) 48 1 (nI l)) 40 4)) 48 3 (nI t)) 48 4 (nI q)) 40 3)) := fun a ha _ => by
        simp (disch := omega) only [m_row]
      have nm6 : ∀ j, j < 6 → (h_up (h_up (h_up (h_up (h_up (h_up X 48 0 (w.2.2.1 t)) 48 1 (nI l)) 48 2 ((h_up (h_up X 48 0 (w.2.2.1 t)) 48 1 (nI l)) 40 4)) 48 3 (nI t)) 48 4 (nI q)) 48 5 ((h_up (h_up (h_up (h_up (h_up X 48 0 (w.2.2.1 t)) 48 1 (nI l)) 48 2 ((h_up (h_up X 48 0 (w.2.2.1 t)) 48 1 (nI l)) 40 4)) 48 3 (nI t)) 48 4 (nI q)) 40 3)) 48 j = nmS (w.2.2.1 t) (nI l) (nI w.2.2.2.2.1) (nI t) (nI q) (nI w.2.2.2.1) j := by
        intro j hj
        simp (disch := omega) only [m_row, m_own, u_e, h4, h5]
        rcases (by omega : j = 0 ∨ j = 1 ∨ j = 2 ∨ j = 3 ∨ j = 4 ∨ j = 5) with rfl | rfl | rfl | rfl | rfl | rfl <;> rfl
      generalize (h_up (h_up (h_up (h_up (h_up (h_up X 48 0 (w.2.2.1 t)) 48 1 (nI l)) 48 2 ((h_up (h_up X 48 0 (w.2.2.1 t)) 48 1 (nI l)) 40 4)) 48 3 (nI t)) 48 4 (nI q)) 48 5 ((h_up (h_up (h_up (h_up (h_up X 48 0 (w.2.2.1 t)) 48 1 (nI l)) 48 2 ((h_up (h_up X 48 0 (w.2.2.1 t)) 48 1 (nI l)) 40 4)) 48 3 (nI t)) 48 4 (nI q)) 40 3)) = Y at frT nm6
      obtain ⟨y1, y2, y3, y4, y5, y6, y7, y8, y9, y10⟩ := h0.kT frT
      have hB : h_isB hYx (56 + 4 * T) 3 0 = true := h_forall (N := 6) (p := fun T => h_isB hYx (56 + 4 * T) 3 0) (by decide +kernel) h7
      rw [Option.bind_some, y8, nI_clamp (by omega), if_pos hB]
      obtain ⟨mc', ms', y9⟩ := y9
      obtain ⟨Y1, s1, s2⟩ := x_says (p := 0) h7 (by omega) y9 rfl rfl (rfl : Y 48 = Y 48)
      have e0 : evX (Y (57 + 4 * T)) (Y (58 + 4 * T)) 0 (Y 48) = w.2.2.2.2.2 0 (nmS (w.2.2.1 t) (nI l) (nI w.2.2.2.2.1) (nI t) (nI q) (nI w.2.2.2.1)) := by
        rw [y10]; exact evX_c (by omega) y9 nm6
      rw [show ((0 : Int32)) = nI 0 from rfl, s1, Option.bind_some, e0]
      simp only [show nI 0 = (0 : Int32) from rfl]
      have kY1 : kT Y Y1 := fun a _ h => s2 a (by omega)
      have fr1 := frT.tr kY1
      obtain ⟨z1, z2, z3, z4, z5, z6, z7, z8, z9, z10⟩ := h0.kT fr1
      obtain ⟨v, v1, v2, v3⟩ := ib_ex (o4 (nmS (w.2.2.1 t) (nI l) (nI w.2.2.2.2.1) (nI t) (nI q) (nI w.2.2.2.1))).1
      obtain ⟨wy, wy1, wy2, wy3⟩ := ib_ex (o1 t ht)
      have wy4 : wy < 4 := by
        rcases (by omega : wy < 4 ∨ wy = 4) with g | g
        · exact g
        · exact absurd (wy3.trans (by rw [g]; rfl)) c4
      have L128 : ∀ wd, wd < 4 → ∃ X', fX8_next_L128 (nI q) (nI l) (nI (farN w.2.2.2.1 w.2.2.2.2.1 v l)) (nI wd) (nI q) Y1 = some (nI (32 * (if w.2.2.2.1 = 2 ∨ w.2.2.2.1 = 4 ∨ sldS (w.1 0) (w.1 1) wd (farN w.2.2.2.1 w.2.2.2.2.1 v l) q = q then l else (l + (w.2.2.2.2.2 1 (nmS (w.2.2.1 t) (nI l) (nI w.2.2.2.2.1) (nI t) (nI q) (nI w.2.2.2.1))).toNatClampNeg) % 3) + sldS (w.1 0) (w.1 1) wd (farN w.2.2.2.1 w.2.2.2.2.1 v l) q), X') ∧ kT X X' := by
        intro wd hwd
        unfold fX8_next_L128
        have hfar : farN w.2.2.2.1 w.2.2.2.2.1 v l ≤ 12 := Nat.min_le_left _ _
        rw [x_slide z1 z2 hq hwd hfar, Option.bind_some]
        have hs := sldS_lt (W := w.1 0) (P := w.1 1) (way := wd) (farN w.2.2.2.1 w.2.2.2.2.1 v l) q hq
        generalize sldS (w.1 0) (w.1 1) wd (farN w.2.2.2.1 w.2.2.2.2.1 v l) q = qq at hs ⊢
        by_cases e : qq = q
        · rw [if_pos (by rw [e]), if_pos (Or.inr (Or.inr e)), x_stOf]
          exact ⟨Y1, rfl, fr1⟩
        · rw [if_neg (fun h => e ((nI_eq (by omega) (by omega)).mp h)), z4, x_turns o2, Option.bind_some]
          by_cases k24 : w.2.2.2.1 = 2 ∨ w.2.2.2.1 = 4
          · rw [if_pos k24, if_pos rfl, if_pos (k24.elim Or.inl (fun h => Or.inr (Or.inl h))), x_stOf]
            exact ⟨Y1, rfl, fr1⟩
          · rw [if_neg k24, if_neg (show ¬ (1 : Int32) = 0 by decide), z8, nI_clamp (by omega), if_pos hB, if_neg (fun h => h.elim (fun a => k24 (Or.inl a)) (fun h => h.elim (fun a => k24 (Or.inr a)) e))]
            obtain ⟨mc2, ms2, z9⟩ := z9
            obtain ⟨Y2, r1, r2⟩ := x_says (p := 1) h7 (by omega) z9 rfl rfl (rfl : Y1 48 = Y1 48)
            have e1 : evX (Y1 (57 + 4 * T)) (Y1 (58 + 4 * T)) 1 (Y1 48) = w.2.2.2.2.2 1 (nmS (w.2.2.1 t) (nI l) (nI w.2.2.2.2.1) (nI t) (nI q) (nI w.2.2.2.1)) := by
              rw [z10]; exact evX_c (by omega) z9 (fun j hj => by rw [s2 48 (by omega)]; exact nm6 j hj)
            rw [show ((1 : Int32)) = nI 1 from rfl, r1, Option.bind_some, e1]
            obtain ⟨u, u1, u2, u3⟩ := ib_ex (o4 (nmS (w.2.2.1 t) (nI l) (nI w.2.2.2.2.1) (nI t) (nI q) (nI w.2.2.2.1))).2
            rw [u3, nI_add, show (3 : Int32) = nI 3 from rfl, n_rem (by omega) (by decide) (by decide), x_stOf, nI_clamp u2]
            exact ⟨Y2, rfl, fr1.tr (fun a _ h => r2 a (by omega))⟩
      have eS : ∀ wd, wd = (if bt (w.1 2) q = true then eddN w.2.2.2.1 w.2.2.2.2.1 wy else wy) → stepS w t (q, l) = (sldS (w.1 0) (w.1 1) wd (farN w.2.2.2.1 w.2.2.2.2.1 v l) q, if w.2.2.2.1 = 2 ∨ w.2.2.2.1 = 4 ∨ sldS (w.1 0) (w.1 1) wd (farN w.2.2.2.1 w.2.2.2.2.1 v l) q = q then l else (l + (w.2.2.2.2.2 1 (nmS (w.2.2.1 t) (nI l) (nI w.2.2.2.2.1) (nI t) (nI q) (nI w.2.2.2.1))).toNatClampNeg) % 3) := by
        intro wd hwd
        unfold stepS
        rw [if_neg c4, if_neg cw]
        simp only [v3, nI_clamp v2, wy3, nI_clamp wy2]
        rw [hwd]
      rw [z3, bit_u _ hq, b01, y4, y5, v3, x_far o2 o3 v1 hl]
      unfold fX8_next_L93
      rw [if_pos (ib_mk ht (by decide)), if_neg (show ¬ (1 : Int32) = 0 by decide), if_pos rfl, if_pos (ib_mk ht (by decide)), nI_clamp (by omega), (z6 t ht).1, wy3, z4, z5, x_edd o2 o3 wy4]
      by_cases ce : bt (w.1 2) q = true
      · rw [if_pos ce, eS (eddN w.2.2.2.1 w.2.2.2.2.1 wy) (by rw [if_pos ce])]
        refine L128 _ ?_
        unfold eddN
        split
        · omega
        · split <;> omega
      · rw [if_neg ce, eS wy (by rw [if_neg ce])]
        exact L128 _ wy4
