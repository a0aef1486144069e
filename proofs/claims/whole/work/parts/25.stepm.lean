/-! A SECOND, the other one's -/
def MM (w : hWd) (h : Nat) (c e : Nat → Int32) (M : hMem) : Prop := h < 4 ∧ (∀ k, k < 3 → M 1 k = w.1 k) ∧ (∀ t, t < 24 → M 2 t = w.2.1 t ∧ M 3 t = w.2.2.1 t) ∧ M 4 h = nI w.2.2.2.1 ∧ M 5 h = nI w.2.2.2.2.1 ∧ (∃ r, r < 6 ∧ M 0 15 = nI r ∧ gText c e (fun i => M 10 (200 * r + i)) (fun p => M 11 (4 * r + p))) ∧ w.2.2.2.2.2 = evX c e
def kS (M M' : hMem) : Prop := (∀ a, a ≠ 0 → a ≠ 19 → a ≠ 20 → M' a = M a) ∧ ∀ j, j ≠ 36 → j ≠ 37 → M' 0 j = M 0 j
theorem kS.rf (M : hMem) : kS M M := ⟨fun _ _ _ _ => rfl, fun _ _ _ => rfl⟩
theorem kS.tr {X Y Z : hMem} (h : kS X Y) (g : kS Y Z) : kS X Z := ⟨fun a h1 h2 h3 => (g.1 a h1 h2 h3).trans (h.1 a h1 h2 h3), fun j h1 h2 => (g.2 j h1 h2).trans (h.2 j h1 h2)⟩
theorem MM.kS {w : hWd} {h : Nat} {c e : Nat → Int32} {M M' : hMem} (m : MM w h c e M) (k : kS M M') : MM w h c e M' := by
  obtain ⟨h1, h2, h3, h4, h5, ⟨r, h6, h7, h8⟩, h9⟩ := m
  refine ⟨h1, ?_, ?_, ?_, ?_, ⟨r, h6, ?_, ?_⟩, h9⟩
  · rw [k.1 1 (by omega) (by omega) (by omega)]; exact h2
  · rw [k.1 2 (by omega) (by omega) (by omega), k.1 3 (by omega) (by omega) (by omega)]; exact h3
  · rw [k.1 4 (by omega) (by omega) (by omega)]; exact h4
  · rw [k.1 5 (by omega) (by omega) (by omega)]; exact h5
  · rw [k.2 15 (by omega) (by omega)]; exact h7
  · rw [k.1 10 (by omega) (by omega) (by omega), k.1 11 (by omega) (by omega) (by omega)]; exact h8
theorem m_next0 {c way : Nat} (hc : c < 32) (hw : way < 4) (M : hMem) : fX10_next0 (nI c) (nI way) M = (match nbr c way with | none => -1 | some d => nI d) := by
  have h := dc2 (N := 32) (K := 4) (p := fun c way => decide (fX10_next0 (nI c) (nI way) hM0 = (match nbr c way with | none => -1 | some d => nI d))) (by decide +kernel) hc hw
  exact of_decide_eq_true h
theorem m_bes {M : hMem} {W : Int32} (hW : M 1 0 = W) {c way : Nat} (hc : c < 32) (hw : way < 4) : fX10_beside (nI c) (nI way) M = some (match besS W c way with | none => -1 | some d => nI d) := by
  unfold fX10_beside
  rw [m_next0 hc hw]
  unfold besS
  cases e : nbr c way with
  | none => rfl
  | some d =>
    have hd := nbr_lt hc e
    simp only []
    rw [if_neg (n_m1 (by omega)), me_has0 hd, Option.bind_some, b01, hW]
    by_cases hb : bt W d = true
    · rw [if_pos hb, if_pos hb]
    · rw [if_neg hb, if_neg hb]
theorem nI_neq {k : Nat} (n : Nat) (hk : k < 2 ^ 31) (hn : n < 2 ^ 31) (h : k ≠ n) : ¬ nI k = nI n := fun e => h ((nI_eq hk hn).mp e)
def hM1 (k mo l : Nat) : hMem := fun a j => if a = 4 then nI k else if a = 5 then nI mo else nI l
theorem m_goesBy {M : hMem} {h k mo v l : Nat} (hh : h < 4) (h4 : M 4 h = nI k) (h5 : M 5 h = nI mo) (h37 : M 0 37 = nI l) (hk : k < 6) (hm : mo < 10) (hv : v < 10) (hl : l < 3) : fX10_goesBy (nI h) (nI v) M = some (nI (farN k mo v l)) := by
  have e : fX10_goesBy (nI h) (nI v) M = fX10_goesBy (nI 0) (nI v) (hM1 k mo l) := by
    unfold fX10_goesBy fX10_goesBy_L29 fX10_goesBy_L41 fX10_goesBy_L56 fX10_goesBy_L61 fX10_within
    rw [if_pos (ib_mk hh (by decide)), if_pos (ib_mk hh (by decide)), if_pos (ib_mk (j := 0) (n := 4) (by decide) (by decide)), if_pos (ib_mk (j := 0) (n := 4) (by decide) (by decide)), nI_clamp (by omega), h4, h5, h37]
    rfl
  rw [e]
  have h := dc4 (A := 6) (B := 10) (C := 10) (D := 3) (p := fun k mo v l => decide (fX10_goesBy (nI 0) (nI v) (hM1 k mo l) = some (nI (farN k mo v l)))) (by decide +kernel) hk hm hv hl
  exact of_decide_eq_true h
theorem m_wayIn {M : hMem} {h k mo q wy : Nat} (hh : h < 4) (h4 : M 4 h = nI k) (h5 : M 5 h = nI mo) (h36 : M 0 36 = nI q) (hk : k < 6) (hm : mo < 10) (hq : q < 32) (hw : wy < 4) : fX10_wayIn (nI h) (nI wy) M = some (nI (if bt (M 1 2) q = true then eddN k mo wy else wy)) := by
  unfold fX10_wayIn
  rw [h36, me_has2 hq, Option.bind_some, b01]
  by_cases hb : bt (M 1 2) q = true
  · rw [if_pos hb, if_pos hb, if_pos (ib_mk hh (by decide))]
    simp only [nI_clamp (show h < 2 ^ 31 by omega), h4, h5]
    unfold eddN
    by_cases k5 : k = 5
    · subst k5; rw [if_pos (show nI 5 = 5 from rfl), if_neg (show ¬ 5 = 3 by decide), if_pos rfl]
    · rw [if_neg (show ¬ nI k = 5 from nI_neq 5 (by omega) (by decide) k5), if_pos (ib_mk hh (by decide))]
      by_cases k3 : k = 3
      · subst k3; rw [if_pos (show nI 3 = 3 from rfl), if_pos (ib_mk hh (by decide)), if_pos rfl, nI_1, nI_add, show (4 : Int32) = nI 4 from rfl, n_rem (by omega) (by decide) (by decide)]
      · rw [if_neg (show ¬ nI k = 3 from nI_neq 3 (by omega) (by decide) k3), if_neg k3, if_neg k5, nI_1, show (4 : Int32) = nI 4 from rfl, show nI (wy + 1) + 0 = nI (wy + 1) from nI_add (wy + 1) 0, n_rem (by omega) (by decide) (by decide)]
  · rw [if_neg hb, if_neg hb]
/-- whether a second is one in which the hat is held -/
def hldM (M : hMem) (t : Nat) : Bool := !decide (nI t < M 0 38) && !decide (M 0 38 + M 0 39 ≤ nI t)
theorem hldM_c {M M' : hMem} (k : kS M M') : hldM M' = hldM M := by
  funext t
  unfold hldM
  rw [k.2 38 (by omega) (by omega), k.2 39 (by omega) (by omega)]
theorem hldM_0 {M : hMem} (h : M 0 39 = 0) (t : Nat) : hldM M t = false := by
  unfold hldM
  rw [h, show M 0 38 + 0 = M 0 38 from Int32.add_zero _]
  by_cases c : nI t < M 0 38
  · rw [decide_eq_true c]; rfl
  · rw [decide_eq_true (fa_of_nlt c)]; simp
theorem hldM_f {M : hMem} {f m t : Nat} (h1 : M 0 38 = nI f) (h2 : M 0 39 = nI m) (hf : f < 2 ^ 30) (hm : m < 2 ^ 30) (ht : t < 2 ^ 30) : hldM M t = decide (f ≤ t ∧ t < f + m) := by
  unfold hldM
  rw [h1, h2, nI_add]
  by_cases c : t < f
  · rw [decide_eq_true (nI_lt c (by omega)), decide_eq_false (p := f ≤ t ∧ t < f + m) (by omega)]; rfl
  · rw [decide_eq_false (nI_nlt (by omega) (by omega))]
    by_cases d : t < f + m
    · rw [decide_eq_false (nI_ge d (by omega)), decide_eq_true (p := f ≤ t ∧ t < f + m) (by omega)]; rfl
    · rw [decide_eq_true (nI_le (show f + m ≤ t by omega) (by omega)), decide_eq_false (p := f ≤ t ∧ t < f + m) (by omega)]; rfl
set_option maxHeartbeats 1000000 in
theorem m_goes {w : hWd} {hh : Nat} {c e : Nat → Int32} {M : hMem} (m : MM w hh c e M) {q l way far : Nat} (hq : q < 32) (hw : way < 4) (hfar : far ≤ 12) (h36 : M 0 36 = nI q) (h37 : M 0 37 = nI l) (hp : bt (w.1 1) q = false) {tn : Int32} : ∃ Y, h_lp (fX10_seconds_L149 (nI hh) (nI q) (nI far) tn (nI way)) h_FU (0, M) = fX10_seconds_L205 (nI hh) (nI q) tn Y ∧ kS M Y ∧ Y 0 36 = nI (sldS (w.1 0) (w.1 1) way far q) ∧ Y 0 37 = nI l := by
  have hop : ∀ Z : hMem, fX10_seconds_L205 (nI hh) (nI q) tn Z = fX10_seconds_L205 (nI hh) (nI q) tn Z := fun _ => rfl
  have key : ∀ (n i : Nat) (Y : hMem) (p : Nat), far - i < n → i ≤ far → p < 32 → kS M Y → Y 0 36 = nI p → Y 0 37 = nI l → (if bt (w.1 1) p = true then p else sldS (w.1 0) (w.1 1) way (far - i) p) = sldS (w.1 0) (w.1 1) way far q → ∃ Y', h_lp (fX10_seconds_L149 (nI hh) (nI q) (nI far) tn (nI way)) n (nI i, Y) = fX10_seconds_L205 (nI hh) (nI q) tn Y' ∧ kS M Y' ∧ Y' 0 36 = nI (sldS (w.1 0) (w.1 1) way far q) ∧ Y' 0 37 = nI l := by
    intro n
    induction n with
    | zero => intro i Y p h; exact absurd h (Nat.not_lt_zero _)
    | succ n ih =>
      intro i Y p hn hi hp' hk y36 y37 hr
      rw [lp_s]
      generalize hg : h_lp (fX10_seconds_L149 (nI hh) (nI q) (nI far) tn (nI way)) n = kk at *
      unfold fX10_seconds_L149
      simp only []
      rcases Nat.lt_or_ge i far with hlt | hge
      · rw [if_neg (nI_ge hlt (by omega)), y36, me_has1 hp', Option.bind_some, b01]
        have hW := (m.kS hk).2.1
        rw [hW 1 (by omega)]
        by_cases hb : bt (w.1 1) p = true
        · rw [if_pos hb] at hr ⊢
          exact ⟨Y, rfl, hk, by rw [y36, hr], y37⟩
        · rw [if_neg hb] at hr ⊢
          obtain ⟨z, hz⟩ : ∃ z, far - i = z + 1 := ⟨far - i - 1, by omega⟩
          rw [hz, sldS_s] at hr
          rw [m_bes (hW 0 (by omega)) hp' hw, Option.bind_some, nI_1]
          have hz2 : far - (i + 1) = z := by omega
          cases eb : besS (w.1 0) p way with
          | none =>
            simp only [eb] at hr ⊢
            rw [if_pos trivial]
            refine ih (i + 1) _ p (by omega) hlt hp' (hk.tr ⟨fun a h1 _ _ => m_row h1, fun j h1 h2 => by rw [m_own, u_n h1]⟩) ?_ ?_ ?_
            · rw [m_own, u_s]
            · rw [m_own, u_n (by omega)]; exact y37
            · rw [if_neg hb, sldS_none eb]; exact hr
          | some d =>
            have hd := besS_lt hp' eb
            simp only [eb] at hr ⊢
            rw [if_neg (n_m1 (by omega))]
            refine ih (i + 1) _ d (by omega) hlt hd (hk.tr ⟨fun a h1 _ _ => m_row h1, fun j h1 h2 => by rw [m_own, u_n h1]⟩) ?_ ?_ ?_
            · rw [m_own, u_s]
            · rw [m_own, u_n (by omega)]; exact y37
            · rw [hz2]; exact hr
      · rw [if_pos (nI_le hge (by omega))]
        refine ⟨Y, rfl, hk, ?_, y37⟩
        rw [show far - i = 0 from by omega] at hr
        rw [y36, ← hr]
        congr 1
        split <;> rfl
  exact key h_FU 0 M q (by show far - 0 < 20000; omega) (Nat.zero_le _) hq (kS.rf M) h36 h37 (by rw [if_neg (by rw [hp]; decide)]; rfl)
set_option maxHeartbeats 1000000 in
theorem m_seconds {w : hWd} {h : Nat} {c e : Nat → Int32} {M : hMem} (hw : okW w) (m : MM w h c e M) {t q l : Nat} (ht : t < 24) (hq : q < 32) (hl : l < 3) (h36 : M 0 36 = nI q) (h37 : M 0 37 = nI l) : ∃ M', fX10_seconds (nI h) (nI t) M = some M' ∧ kS M M' ∧ M' 0 36 = nI (if hldM M t = true then (q, l) else stepS w t (q, l)).1 ∧ M' 0 37 = nI (if hldM M t = true then (q, l) else stepS w t (q, l)).2 := by
  have m0 := m
  obtain ⟨h1, h2, h3, h4, h5, ⟨r, h6, h7, h8⟩, h9⟩ := m
  obtain ⟨o1, o2, o3, o4⟩ := hw
  have L26 : ∀ tb : Int32, ∃ M', fX10_seconds_L26 (nI h) (nI t) tb M = some M' ∧ kS M M' ∧ M' 0 36 = nI (if ¬ tb = 0 then (q, l) else stepS w t (q, l)).1 ∧ M' 0 37 = nI (if ¬ tb = 0 then (q, l) else stepS w t (q, l)).2 := by
    intro tb
    unfold fX10_seconds_L26
    rw [h36, me_has1 hq, Option.bind_some, b01, h2 1 (by omega)]
    have stay : stepS w t (q, l) = (q, l) → ∃ M', some M = some M' ∧ kS M M' ∧ M' 0 36 = nI (if ¬ tb = 0 then (q, l) else stepS w t (q, l)).1 ∧ M' 0 37 = nI (if ¬ tb = 0 then (q, l) else stepS w t (q, l)).2 := fun es => by
      refine ⟨M, rfl, kS.rf M, ?_, ?_⟩ <;> rw [es, ite_self]
      · exact h36
      · exact h37
    by_cases cw : bt (w.1 1) q = true
    · rw [if_pos cw]
      exact stay (by unfold stepS; simp only [if_pos cw, ite_self])
    · rw [if_neg cw, if_pos (ib_mk ht (by decide))]
      simp only [nI_clamp (show t < 2 ^ 31 by omega), (h3 t ht).1, (h3 t ht).2]
      by_cases c4 : w.2.1 t = 4
      · rw [if_pos c4]
        exact stay (by unfold stepS; rw [if_pos c4])
      · rw [if_neg c4]
        by_cases hb : tb = 0
        · rw [if_pos hb, if_pos (ib_mk ht (by decide)), if_pos (ib_mk h1 (by decide)), if_pos (ib_mk h1 (by decide))]
          simp only [nI_clamp (show h < 2 ^ 31 by omega), h4, h5, h37]
          obtain ⟨Y, a1, a2⟩ := m_asksOf (p := 0) (s := w.2.2.1 t) (l := nI l) (mo := nI w.2.2.2.2.1) (t := nI t) (q := nI q) (k := nI w.2.2.2.1) h6 (by omega) h7 h8 (fun _ _ => trivial)
          have e0 : evX c e 0 (fun j => if j < 6 then nmS (w.2.2.1 t) (nI l) (nI w.2.2.2.2.1) (nI t) (nI q) (nI w.2.2.2.1) j else M 20 j) = w.2.2.2.2.2 0 (nmS (w.2.2.1 t) (nI l) (nI w.2.2.2.2.1) (nI t) (nI q) (nI w.2.2.2.1)) := by
            rw [h9]; exact evX_c (by omega) h8 (fun j hj => if_pos hj)
          rw [show fX10_asksOf 0 (w.2.2.1 t) (nI l) (nI w.2.2.2.2.1) (nI t) (nI q) (nI w.2.2.2.1) M = _ from a1, Option.bind_some, e0]
          have kY : kS M Y := ⟨fun a _ h19 h20 => a2 a h19 h20, fun j _ _ => by rw [a2 0 (by omega) (by omega)]⟩
          obtain ⟨y1, y2, y3, y4, y5, ⟨r', y6, y7, y8⟩, y9⟩ := m0.kS kY
          obtain ⟨v, v1, v2, v3⟩ := ib_ex (o4 (nmS (w.2.2.1 t) (nI l) (nI w.2.2.2.2.1) (nI t) (nI q) (nI w.2.2.2.1))).1
          have y37 : Y 0 37 = nI l := by rw [a2 0 (by omega) (by omega)]; exact h37
          have y36 : Y 0 36 = nI q := by rw [a2 0 (by omega) (by omega)]; exact h36
          rw [v3, m_goesBy h1 y4 y5 y37 o2 o3 v1 hl, Option.bind_some, if_pos (ib_mk ht (by decide)), if_pos (ib_mk h1 (by decide)), if_pos (ib_mk h1 (by decide))]
          dsimp only
          rw [(y3 t ht).2, y37, y5, y36, y4]
          obtain ⟨Y2, b1, b2⟩ := m_asksOf (p := 1) (s := w.2.2.1 t) (l := nI l) (mo := nI w.2.2.2.2.1) (t := nI t) (q := nI q) (k := nI w.2.2.2.1) y6 (by omega) y7 y8 (fun _ _ => trivial)
          have e1 : evX c e 1 (fun j => if j < 6 then nmS (w.2.2.1 t) (nI l) (nI w.2.2.2.2.1) (nI t) (nI q) (nI w.2.2.2.1) j else Y 20 j) = w.2.2.2.2.2 1 (nmS (w.2.2.1 t) (nI l) (nI w.2.2.2.2.1) (nI t) (nI q) (nI w.2.2.2.1)) := by
            rw [h9]; exact evX_c (by omega) y8 (fun j hj => if_pos hj)
          rw [show fX10_asksOf 1 (w.2.2.1 t) (nI l) (nI w.2.2.2.2.1) (nI t) (nI q) (nI w.2.2.2.1) Y = _ from b1, Option.bind_some, e1, if_pos (ib_mk ht (by decide))]
          have kY2 : kS M Y2 := kY.tr ⟨fun a _ h19 h20 => b2 a h19 h20, fun j _ _ => by rw [b2 0 (by omega) (by omega)]⟩
          obtain ⟨z1, z2, z3, z4, z5, z6, z9⟩ := m0.kS kY2
          obtain ⟨wy, wy1, wy2, wy3⟩ := ib_ex (o1 t ht)
          have wy4 : wy < 4 := by
            rcases (by omega : wy < 4 ∨ wy = 4) with g | g
            · exact g
            · exact absurd (wy3.trans (by rw [g]; rfl)) c4
          have z37 : Y2 0 37 = nI l := by rw [b2 0 (by omega) (by omega)]; exact y37
          have z36 : Y2 0 36 = nI q := by rw [b2 0 (by omega) (by omega)]; exact y36
          dsimp only
          rw [(z3 t ht).1, wy3, m_wayIn h1 z4 z5 z36 o2 o3 hq wy4, Option.bind_some, z2 2 (by omega)]
          have hwd : (if bt (w.1 2) q = true then eddN w.2.2.2.1 w.2.2.2.2.1 wy else wy) < 4 := by
            split
            · unfold eddN
              split
              · omega
              · split <;> omega
            · exact wy4
          have hfar : farN w.2.2.2.1 w.2.2.2.2.1 v l ≤ 12 := Nat.min_le_left _ _
          obtain ⟨Y3, g1, g2, g3, g4⟩ := m_goes (m0.kS kY2) (tn := w.2.2.2.2.2 1 (nmS (w.2.2.1 t) (nI l) (nI w.2.2.2.2.1) (nI t) (nI q) (nI w.2.2.2.1))) hq hwd hfar z36 z37 (by cases hbb : bt (w.1 1) q with | true => exact absurd hbb cw | false => rfl)
          rw [g1]
          have k3 := kY2.tr g2
          obtain ⟨-, -, -, x4, x5, -, -⟩ := m0.kS k3
          have eS : stepS w t (q, l) = (sldS (w.1 0) (w.1 1) (if bt (w.1 2) q = true then eddN w.2.2.2.1 w.2.2.2.2.1 wy else wy) (farN w.2.2.2.1 w.2.2.2.2.1 v l) q, if w.2.2.2.1 = 2 ∨ w.2.2.2.1 = 4 ∨ sldS (w.1 0) (w.1 1) (if bt (w.1 2) q = true then eddN w.2.2.2.1 w.2.2.2.2.1 wy else wy) (farN w.2.2.2.1 w.2.2.2.2.1 v l) q = q then l else (l + (w.2.2.2.2.2 1 (nmS (w.2.2.1 t) (nI l) (nI w.2.2.2.2.1) (nI t) (nI q) (nI w.2.2.2.1))).toNatClampNeg) % 3) := by
            unfold stepS
            rw [if_neg c4, if_neg cw]
            simp only [v3, nI_clamp v2, wy3, nI_clamp wy2]
          rw [if_neg (fun hn => hn hb), eS]
          have hs := sldS_lt (W := w.1 0) (P := w.1 1) (way := (if bt (w.1 2) q = true then eddN w.2.2.2.1 w.2.2.2.2.1 wy else wy)) (farN w.2.2.2.1 w.2.2.2.2.1 v l) q hq
          generalize sldS (w.1 0) (w.1 1) (if bt (w.1 2) q = true then eddN w.2.2.2.1 w.2.2.2.2.1 wy else wy) (farN w.2.2.2.1 w.2.2.2.2.1 v l) q = qq at g3 hs ⊢
          obtain ⟨u, u1, u2, u3⟩ := ib_ex (o4 (nmS (w.2.2.1 t) (nI l) (nI w.2.2.2.2.1) (nI t) (nI q) (nI w.2.2.2.1))).2
          rw [u3, nI_clamp u2]
          have same : ∀ tt : Int32, ¬ tt = 0 → fX10_seconds_L239 (nI u) tt Y3 = some (h_up Y3 0 37 (nI l)) := fun tt htt => by
            unfold fX10_seconds_L239; rw [if_neg htt, g4]
          have fin : ∀ l2 : Nat, kS M (h_up Y3 0 37 (nI l2)) ∧ (h_up Y3 0 37 (nI l2)) 0 36 = nI qq ∧ (h_up Y3 0 37 (nI l2)) 0 37 = nI l2 := fun l2 => by
            refine ⟨k3.tr ⟨fun a h1 _ _ => m_row h1, fun j h1 h2 => by rw [m_own, u_n h2]⟩, ?_, ?_⟩
            · rw [m_own, u_n (by omega)]; exact g3
            · rw [m_own, u_s]
          unfold fX10_seconds_L205 fX10_seconds_L234
          rw [if_pos (ib_mk h1 (by decide))]
          simp only [nI_clamp (show h < 2 ^ 31 by omega), x4, g3]
          by_cases k2 : w.2.2.2.1 = 2
          · rw [if_pos (show nI w.2.2.2.1 = 2 from by rw [k2]; rfl), same _ (by decide), if_pos (Or.inl k2)]
            exact ⟨_, rfl, fin l⟩
          · rw [if_neg (show ¬ nI w.2.2.2.1 = 2 from nI_neq 2 (by omega) (by decide) k2), if_pos (ib_mk h1 (by decide))]
            by_cases k4 : w.2.2.2.1 = 4
            · rw [if_pos (show nI w.2.2.2.1 = 4 from by rw [k4]; rfl), same _ (by decide), if_pos (Or.inr (Or.inl k4))]
              exact ⟨_, rfl, fin l⟩
            · rw [if_neg (show ¬ nI w.2.2.2.1 = 4 from nI_neq 4 (by omega) (by decide) k4)]
              by_cases kq : qq = q
              · rw [if_pos (by rw [kq]), same _ (by decide), if_pos (Or.inr (Or.inr kq))]
                exact ⟨_, rfl, fin l⟩
              · rw [if_neg (nI_neq q (by omega) (by omega) kq), if_neg (fun hh => hh.elim k2 (fun hh => hh.elim k4 kq))]
                unfold fX10_seconds_L239
                rw [if_pos rfl, g4, nI_add, show (3 : Int32) = nI 3 from rfl, n_rem (by omega) (by decide) (by decide)]
                exact ⟨_, rfl, fin _⟩
        · rw [if_neg hb, if_pos hb]
          exact ⟨M, rfl, kS.rf M, h36, h37⟩
  unfold fX10_seconds fX10_seconds_L25
  by_cases d1 : nI t < M 0 38
  · rw [if_pos d1]
    obtain ⟨M', g1, g2, g3, g4⟩ := L26 0
    have hf : hldM M t = false := by unfold hldM; rw [decide_eq_true d1]; rfl
    rw [if_neg (by simp)] at g3 g4
    exact ⟨M', g1, g2, by rw [hf, if_neg (by decide)]; exact g3, by rw [hf, if_neg (by decide)]; exact g4⟩
  · rw [if_neg d1]
    by_cases d2 : M 0 38 + M 0 39 ≤ nI t
    · rw [if_pos d2]
      obtain ⟨M', g1, g2, g3, g4⟩ := L26 0
      have hf : hldM M t = false := by unfold hldM; rw [decide_eq_true d2]; simp
      rw [if_neg (by simp)] at g3 g4
      exact ⟨M', g1, g2, by rw [hf, if_neg (by decide)]; exact g3, by rw [hf, if_neg (by decide)]; exact g4⟩
    · rw [if_neg d2]
      obtain ⟨M', g1, g2, g3, g4⟩ := L26 1
      have hf : hldM M t = true := by unfold hldM; rw [decide_eq_false d1, decide_eq_false d2]; rfl
      rw [if_pos (by decide)] at g3 g4
      exact ⟨M', g1, g2, by rw [hf, if_pos rfl]; exact g3, by rw [hf, if_pos rfl]; exact g4⟩
