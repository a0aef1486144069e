/-! SETTINGS: count, told, force, come, hat, set, does, street -/
theorem RR.texts {X M : hMem} (R : RR X M) : ∃ T, 1 ≤ T ∧ T ≤ 6 ∧ X 0 4 = nI T ∧ M 0 14 = nI T ∧ gNum (X 1 7) (M 0 15) T := by
  obtain ⟨T, t1, t2, t3, t4, n, -⟩ := R
  exact ⟨T, t1, t2, t3, t4, n.2.2.2.2.2.2⟩
theorem RR.tape {X M : hMem} (R : RR X M) : gTape X M := by
  obtain ⟨T, t1, t2, t3, t4, n, k, f1, f2, tp, -⟩ := R
  exact tp
theorem RR.shs {X M : hMem} (R : RR X M) : gSheets X M := by
  obtain ⟨T, t1, t2, t3, t4, n, k, f1, f2, tp, sh, -⟩ := R
  exact sh
theorem eq_count {X M : hMem} (R : RR X M) (a : Int32) : EqP (some (fX9_count a X)) (fX10_count a M) := by
  obtain ⟨H, _, hx, hm⟩ := R.hats
  obtain ⟨C, _, cx, cm⟩ := R.cats
  obtain ⟨T, _, _, t3, t4, g⟩ := R.texts
  unfold fX10_count fX9_count
  rw [hx, hm, cx, cm, t3, t4, g.1, R.tape.1.1, R.setsE (k := 0) (by omega), R.setsE (k := 1) (by omega), R.setsE (k := 2) (by omega)]
  by_cases c0 : a = 0
  · rw [if_pos c0, if_pos c0]; exact EqP.now _
  rw [if_neg c0, if_neg c0]
  by_cases c1 : a = 1
  · rw [if_pos c1, if_pos c1]; exact EqP.now _
  rw [if_neg c1, if_neg c1]
  by_cases c2 : a = 2
  · rw [if_pos c2, if_pos c2, c2, if_pos (show h_ib (2 - 2) 3 from ib_mk (j := 0) (by omega) (by omega))]; exact EqP.now _
  rw [if_neg c2, if_neg c2]
  by_cases c3 : a = 3
  · rw [if_pos c3, if_pos c3, c3, if_pos (show h_ib (3 - 2) 3 from ib_mk (j := 1) (by omega) (by omega))]; exact EqP.now _
  rw [if_neg c3, if_neg c3]
  by_cases c4 : a = 4
  · rw [if_pos c4, if_pos c4, c4, if_pos (show h_ib (4 - 2) 3 from ib_mk (j := 2) (by omega) (by omega))]; exact EqP.now _
  rw [if_neg c4, if_neg c4]
  by_cases c5 : a = 5
  · rw [if_pos c5, if_pos c5]; exact EqP.now _
  rw [if_neg c5, if_neg c5]
  by_cases c6 : a = 6
  · rw [if_pos c6, if_pos c6]; exact EqP.now _
  rw [if_neg c6, if_neg c6]
  by_cases c7 : a = 7
  · rw [if_pos c7, if_pos c7]; exact EqP.now _
  rw [if_neg c7, if_neg c7]; exact EqP.now _
theorem eq_told {X M : hMem} (R : RR X M) (a b : Int32) : EqP (fX9_told a b X) (fX10_told a b M) := by
  obtain ⟨H, hH, hx, hm⟩ := R.hats
  unfold fX9_told fX10_told
  rw [xe_hat hx (by omega), me_hat hm (by omega), b01, b01]
  by_cases ha : h_ib a H
  rotate_left
  · rw [if_neg ha, if_neg ha]; exact EqP.now _
  rw [if_pos ha, if_pos ha]
  obtain ⟨h, h1, h2, rfl⟩ := ib_ex ha
  obtain ⟨q, l, hq, hl, e6, e7, e2⟩ := R.sqE (h := h) (by omega)
  obtain ⟨k0, k1, -⟩ := R.hatE (i := h) (by omega)
  simp only [nI_clamp h2, e6, e7, e2, if_pos (show h_ib (nI h) 4 from ib_mk (by omega) (by omega)), k0, k1, x_sqS (s := (q, l)) hq hl, x_lieS (s := (q, l)) hq hl]
  by_cases c0 : b = 0
  · simp only [if_pos c0]; exact EqP.now _
  simp only [if_neg c0]
  by_cases c1 : b = 1
  · simp only [if_pos c1]; exact EqP.now _
  simp only [if_neg c1]
  by_cases c2 : b = 2
  · simp only [if_pos c2]; exact EqP.now _
  simp only [if_neg c2]
  by_cases c3 : b = 3
  · simp only [if_pos c3]; exact EqP.now _
  simp only [if_neg c3]; exact EqP.now _
/-- numbers alone changed -/
theorem gNow_n {T : Nat} {X M X' M' : hMem} (n : gNow T X M) (hx : ∀ a, 2 ≤ a → a ≤ 14 → X' a = X a) (hm : ∀ a, 1 ≤ a → a ≤ 8 → M' a = M a) (g5 : gNum (X' 1 5) (M' 0 3) 5) (g6 : gNum (X' 1 6) (M' 0 8) 5) (g7 : gNum (X' 1 7) (M' 0 15) T) : gNow T X' M' := by
  obtain ⟨h1, h2, h3, h4, h5, h6, h7⟩ := n
  refine ⟨?_, ?_, gHats_c h3 (fun i hi => hx _ (by omega) (by omega)) ?_ ?_ ?_ ?_, gCats_c h4 (fun i hi => hx _ (by omega) (by omega)) ?_, g5, g6, g7⟩
  · rw [hx 2 (by omega) (by omega), hm 1 (by omega) (by omega)]; exact h1
  · rw [hx 3 (by omega) (by omega), hx 4 (by omega) (by omega), hm 2 (by omega) (by omega), hm 3 (by omega) (by omega)]; exact h2
  · intro i hi; rw [hm 4 (by omega) (by omega)]
  · intro i hi; rw [hm 5 (by omega) (by omega)]
  · intro i hi; rw [hm 6 (by omega) (by omega)]
  · intro i hi; rw [hm 7 (by omega) (by omega)]
  · intro i hi; rw [hm 8 (by omega) (by omega)]
/-- catchers alone changed -/
theorem gNow_p {T : Nat} {X M X' M' : hMem} (n : gNow T X M) (hx : ∀ a, 1 ≤ a → a ≤ 10 → X' a = X a) (hm : ∀ a, 1 ≤ a → a ≤ 7 → M' a = M a) (h0 : ∀ j, kM0 j → M' 0 j = M 0 j) (g : gCats (fun p => X' (11 + p)) (M' 8)) : gNow T X' M' := by
  obtain ⟨h1, h2, h3, h4, h5, h6, h7⟩ := n
  refine ⟨?_, ?_, gHats_c h3 (fun i hi => hx _ (by omega) (by omega)) ?_ ?_ ?_ ?_, g, ?_, ?_, ?_⟩
  · rw [hx 2 (by omega) (by omega), hm 1 (by omega) (by omega)]; exact h1
  · rw [hx 3 (by omega) (by omega), hx 4 (by omega) (by omega), hm 2 (by omega) (by omega), hm 3 (by omega) (by omega)]; exact h2
  · intro i hi; rw [hm 4 (by omega) (by omega)]
  · intro i hi; rw [hm 5 (by omega) (by omega)]
  · intro i hi; rw [hm 6 (by omega) (by omega)]
  · intro i hi; rw [hm 7 (by omega) (by omega)]
  · rw [hx 1 (by omega) (by omega), h0 3 (by unfold kM0; omega)]; exact h5
  · rw [hx 1 (by omega) (by omega), h0 8 (by unfold kM0; omega)]; exact h6
  · rw [hx 1 (by omega) (by omega), h0 15 (by unfold kM0; omega)]; exact h7
/-- the sets alone changed -/
theorem gNow_s {T : Nat} {X M X' M' : hMem} (n : gNow T X M) (hx : ∀ a, 1 ≤ a → a ≤ 14 → a ≠ 2 → X' a = X a) (hm : ∀ a, 2 ≤ a → a ≤ 8 → M' a = M a) (h0 : ∀ j, kM0 j → M' 0 j = M 0 j) (g : gSets (X' 2) (M' 1)) : gNow T X' M' := by
  obtain ⟨h1, h2, h3, h4, h5, h6, h7⟩ := n
  refine ⟨g, ?_, gHats_c h3 (fun i hi => hx _ (by omega) (by omega) (by omega)) ?_ ?_ ?_ ?_, gCats_c h4 (fun i hi => hx _ (by omega) (by omega) (by omega)) ?_, ?_, ?_, ?_⟩
  · rw [hx 3 (by omega) (by omega) (by omega), hx 4 (by omega) (by omega) (by omega), hm 2 (by omega) (by omega), hm 3 (by omega) (by omega)]; exact h2
  · intro i hi; rw [hm 4 (by omega) (by omega)]
  · intro i hi; rw [hm 5 (by omega) (by omega)]
  · intro i hi; rw [hm 6 (by omega) (by omega)]
  · intro i hi; rw [hm 7 (by omega) (by omega)]
  · intro i hi; rw [hm 8 (by omega) (by omega)]
  · rw [hx 1 (by omega) (by omega) (by omega), h0 3 (by unfold kM0; omega)]; exact h5
  · rw [hx 1 (by omega) (by omega) (by omega), h0 8 (by unfold kM0; omega)]; exact h6
  · rw [hx 1 (by omega) (by omega) (by omega), h0 15 (by unfold kM0; omega)]; exact h7
theorem eq_force {X M : hMem} (R : RR X M) (a : Int32) : EqC (fX9_force a X) (fX10_force a M) := by
  obtain ⟨T, t1, t2, t3, t4, g⟩ := R.texts
  unfold fX9_force fX10_force
  rw [t3, t4, if_lt _ _ _ _ (by omega), me_cnt a T M (by omega), b01]
  by_cases ha : h_ib a T
  rotate_left
  · rw [if_neg ha, if_neg ha]; exact EqC.now R
  rw [if_pos ha, if_pos ha]
  refine EqC.val g.1 (R.now ?_ ?_ ?_ ?_ ?_)
  · intro q _ h2; simp (disch := omega) only [m_row]
  · simp (disch := omega) only [m_row]
  · intro q _ h2; simp (disch := omega) only [m_row]
  · intro j hj _ _ h15; simp (disch := omega) only [m_own, u_n]
  · intro T' h6 e1 _ n
    have eT : T' = T := (nI_eq (by omega) (by omega)).mp (e1.symm.trans t3)
    subst eT
    refine gNow_n n ?_ ?_ ?_ ?_ ?_
    · intro q _ h2; simp (disch := omega) only [m_row]
    · intro q _ h2; simp (disch := omega) only [m_row]
    · simp (disch := omega) only [m_own, u_n]; exact n.2.2.2.2.1
    · simp (disch := omega) only [m_own, u_n]; exact n.2.2.2.2.2.1
    · simp (disch := omega) only [m_own, u_s]; exact ⟨rfl, ha⟩
theorem eqOp {X M : hMem} (R : RR X M) {α : Type} (a : Int32) (f g : Option α) : (if fX9_isOpen a X = 0 then f else g) = (if h_ib a 32 ∧ bt (M 1 0) a.toNatClampNeg = false then g else f) := by
  rw [xe_open, R.setsE (k := 0) (by omega)]
  by_cases h : h_ib a 32
  · rw [if_pos h, b10]
    by_cases hb : bt (M 1 0) a.toNatClampNeg = true
    · rw [if_pos hb, if_neg (show ¬ (h_ib a 32 ∧ bt (M 1 0) a.toNatClampNeg = false) from fun q => by rw [hb] at q; cases q.2)]
    · rw [if_neg hb, if_pos (show h_ib a 32 ∧ bt (M 1 0) a.toNatClampNeg = false from ⟨h, eq_false_of_ne_true hb⟩)]
  · rw [if_neg h, if_pos rfl, if_neg (show ¬ (h_ib a 32 ∧ bt (M 1 0) a.toNatClampNeg = false) from fun q => h q.1)]
theorem emOp {M : hMem} {α : Type} (a : Int32) (f g : Option α) : ((fX10_isFree a M).bind fun q => if q = 0 then f else g) = (if h_ib a 32 ∧ bt (M 1 0) a.toNatClampNeg = false then g else f) := by
  rw [me_open, Option.bind_some]
  by_cases h : h_ib a 32
  · rw [if_pos h, b10]
    by_cases hb : bt (M 1 0) a.toNatClampNeg = true
    · rw [if_pos hb, if_neg (show ¬ (h_ib a 32 ∧ bt (M 1 0) a.toNatClampNeg = false) from fun q => by rw [hb] at q; cases q.2)]
    · rw [if_neg hb, if_pos (show h_ib a 32 ∧ bt (M 1 0) a.toNatClampNeg = false from ⟨h, eq_false_of_ne_true hb⟩)]
  · rw [if_neg h, if_pos rfl, if_neg (show ¬ (h_ib a 32 ∧ bt (M 1 0) a.toNatClampNeg = false) from fun q => h q.1)]
theorem eq_come {X M : hMem} (R : RR X M) (a b c : Int32) : EqC (fX9_come a b c X) (fX10_come a b c M) := by
  obtain ⟨C, hC, hx, hm⟩ := R.cats
  unfold fX9_come fX10_come fX9_come_L87 fX10_come_L80
  rw [eqOp R, emOp, xe_pace, xe_reach, b01, b01, me_in4, me_in3, b01, b01]
  by_cases ha : h_ib a 32 ∧ bt (M 1 0) a.toNatClampNeg = false
  rotate_left
  · rw [if_neg ha, if_neg ha]; exact EqC.now R
  rw [if_pos ha, if_pos ha]
  by_cases hb : h_ib b 5
  rotate_left
  · rw [if_neg hb, if_neg hb]; exact EqC.now R
  rw [if_pos hb, if_pos hb]
  by_cases hc : h_ib c 4
  rotate_left
  · rw [if_neg hc, if_neg hc]; exact EqC.now R
  rw [if_pos hc, if_pos hc]
  by_cases h4 : C = 4
  · subst h4
    rw [hx, hm, if_neg (by decide), if_pos (show nI 4 = (4 : Int32) from rfl)]; exact EqC.now R
  rw [hx, hm, if_pos (show nI C < (4 : Int32) from nI_lt (b := 4) (by omega) (by decide)), if_neg (show ¬ nI C = (4 : Int32) from nI_neq 4 (by omega) (by omega) h4), if_pos (ib_mk (by omega) (by omega))]
  simp (disch := omega) only [m_row, hx, hm, nI_clamp]
  simp only [show (3 : Int32) = nI 3 from rfl, show (2 : Int32) = nI 2 from rfl, show (1 : Int32) = nI 1 from rfl, pk_mul, nI_add]
  simp (disch := omega) only [nI_clamp, m_own, u_s]
  rw [if_pos (ib_mk (by omega) (by omega)), if_pos (ib_mk (by omega) (by omega)), if_pos (ib_mk (by omega) (by omega))]
  refine EqC.now (R.now ?_ ?_ ?_ ?_ ?_)
  · intro q _ h2; simp (disch := omega) only [m_row]
  · simp (disch := omega) only [m_row]
  · intro q _ h2; simp (disch := omega) only [m_row]
  · intro j hj _ h8 _; simp (disch := omega) only [m_own, m_row, u_n]
  · intro T _ _ _ n
    obtain ⟨n1, n2, n3, n4, n5, n6, n7⟩ := n
    refine ⟨?_, ?_, gHats_c n3 ?_ ?_ ?_ ?_ ?_, ?_, ?_, ?_, ?_⟩
    · simp (disch := omega) only [m_row]; exact n1
    · simp (disch := omega) only [m_row]; exact n2
    · intro i hi; simp (disch := omega) only [m_row]
    · intro i hi; simp (disch := omega) only [m_row]
    · intro i hi; simp (disch := omega) only [m_row]
    · intro i hi; simp (disch := omega) only [m_row]
    · intro i hi; simp (disch := omega) only [m_row]
    · intro i hi
      simp (disch := omega) only [m_row, m_own]
      by_cases e : i = C
      · subst e
        simp (disch := omega) only [m_row, m_own, u_n, u_s]
        exact ⟨trivial, trivial, trivial, ha.1, hb, hc⟩
      · simp (disch := omega) only [m_row, u_n]
        exact n4 i hi
    · simp (disch := omega) only [m_own, m_row, u_n]; exact n5
    · simp (disch := omega) only [m_own, m_row, u_s]; exact ⟨rfl, ib_mk (by omega) (by omega)⟩
    · simp (disch := omega) only [m_own, m_row, u_n]; exact n7
theorem if_div {α : Type} (a : Int32) (n d : Nat) (A B : α) (hn : n < 2 ^ 31) (hd : 0 < d) (hd2 : d < 2 ^ 31) : (if a < 0 then A else if nI n ≤ a / nI d then A else B) = if h_ib a (n * d) then B else A := by
  by_cases c1 : a < 0
  · rw [if_pos c1, if_neg (fun h => by have := ((ib_int _ _).mp h).1; have := (lt0_int a).mp c1; omega)]
  rw [if_neg c1]
  have h0 := (lt0_int a)
  have hb := a.toInt_lt
  have hc1 : ¬ a.toInt < 0 := fun h => c1 (h0.mpr h)
  obtain ⟨j, hj⟩ : ∃ j : Nat, j = a.toInt.toNat := ⟨_, rfl⟩
  have e : a = nI j := by
    apply Int32.toInt_inj.mp
    rw [nI_toInt (by omega)]; omega
  have hj2 : j < 2 ^ 31 := by omega
  rw [e, pk_div hj2 hd hd2]
  have hq : j / d < 2 ^ 31 := Nat.lt_of_le_of_lt (Nat.div_le_self _ _) hj2
  by_cases h : j < n * d
  · rw [if_pos ((ib_iff hj2).mpr h), if_neg (nI_ge ((Nat.div_lt_iff_lt_mul hd).mpr h) hn)]
  · rw [if_neg (fun q => h ((ib_iff hj2).mp q)), if_pos (nI_le ((Nat.le_div_iff_mul_le hd).mpr (by omega)) hq)]
theorem eq_hat {X M : hMem} (R : RR X M) (a b c : Int32) : EqC (fX9_hat a b c X) (fX10_hat a b c M) := by
  obtain ⟨H, hH, hx, hm⟩ := R.hats
  unfold fX9_hat fX10_hat fX9_hat_L90 fX10_hat_L77
  rw [eqOp R, emOp, xe_lie, b01, show fX10_in a 0 59 M = if h_ib a 60 then 1 else 0 from me_in a 59 M (by decide), b01, me_in2, b01, show (if a < 0 then some ((-2 : Int32), X) else if 6 ≤ a / 10 then some ((-2 : Int32), X) else _) = _ from if_div a 6 10 _ _ (by decide) (by decide) (by decide)]
  by_cases ha : h_ib a 60
  rotate_left
  · rw [if_neg ha, if_neg ha]; exact EqC.now R
  rw [if_pos ha, if_pos ha]
  by_cases hb : h_ib b 32 ∧ bt (M 1 0) b.toNatClampNeg = false
  rotate_left
  · rw [if_neg hb, if_neg hb]; exact EqC.now R
  rw [if_pos hb, if_pos hb]
  by_cases hc : h_ib c 3
  rotate_left
  · rw [if_neg hc, if_neg hc]; exact EqC.now R
  rw [if_pos hc, if_pos hc]
  by_cases h4 : H = 4
  · subst h4
    rw [hx, hm, if_neg (by decide), if_pos (show nI 4 = (4 : Int32) from rfl)]; exact EqC.now R
  obtain ⟨j, hj, hj2, rfl⟩ := ib_ex ha
  have ed : nI j / 10 = nI (j / 10) := pk_div (d := 10) hj2 (by decide) (by decide)
  have er : h_rem (nI j) 10 = nI (j % 10) := n_rem (d := 10) hj2 (by decide) (by decide)
  rw [hx, hm, if_pos (show nI H < (4 : Int32) from nI_lt (b := 4) (by omega) (by decide)), if_neg (show ¬ nI H = (4 : Int32) from nI_neq 4 (by omega) (by omega) h4), if_pos (ib_mk (by omega) (by omega))]
  simp (disch := omega) only [m_row, hx, hm, nI_clamp, ed, er]
  simp (disch := omega) only [m_own, u_s, nI_1]
  simp only [if_pos (show h_ib (nI H) 4 from ib_mk (by omega) (by omega))]
  refine EqC.now (R.now ?_ ?_ ?_ ?_ ?_)
  · intro q _ h2; simp (disch := omega) only [m_row]
  · simp (disch := omega) only [m_row]
  · intro q _ h2; simp (disch := omega) only [m_row]
  · intro j hj _ h8 _; simp (disch := omega) only [m_own, m_row, u_n]
  · intro T _ _ _ n
    obtain ⟨n1, n2, n3, n4, n5, n6, n7⟩ := n
    refine ⟨?_, ?_, ?_, gCats_c n4 ?_ ?_, ?_, ?_, ?_⟩
    · simp (disch := omega) only [m_row]; exact n1
    · simp (disch := omega) only [m_row]; exact n2
    · intro i hi
      simp (disch := omega) only [m_row, m_own]
      by_cases e : i = H
      · subst e
        simp (disch := omega) only [m_row, m_own, u_n, u_s]
        exact ⟨trivial, trivial, rfl, ib_mk (by omega) (by omega), ib_mk (by omega) (by omega), hb.1, hc⟩
      · simp (disch := omega) only [m_row, u_n]
        exact n3 i hi
    · intro i hi; simp (disch := omega) only [m_row]
    · intro i hi; simp (disch := omega) only [m_row]
    · simp (disch := omega) only [m_own, m_row, u_s]; exact ⟨rfl, ib_mk (by omega) (by omega)⟩
    · simp (disch := omega) only [m_own, m_row, u_n]; exact n6
    · simp (disch := omega) only [m_own, m_row, u_n]; exact n7
theorem eq_set {X M : hMem} (R : RR X M) (a b c : Int32) : EqC (fX9_set a b c X) (fX10_set a b c M) := by
  obtain ⟨H, hH, hx, hm⟩ := R.hats
  unfold fX9_set fX10_set fX9_set_L68 fX10_set_L47 fX10_set_L66 fX10_set_L87
  rw [xe_hat hx (by omega), me_hat hm (by omega), b01, b01, eqOp R, emOp, me_in1, b01, me_in2, b01, xe_lie, b01]
  by_cases ha : h_ib a H
  rotate_left
  · rw [if_neg ha, if_neg ha]; exact EqC.now R
  rw [if_pos ha, if_pos ha]
  obtain ⟨h, h1, h2, rfl⟩ := ib_ex ha
  obtain ⟨q, l, hq, hl, e6, e7, e2⟩ := R.sqE (h := h) (by omega)
  simp only [nI_clamp h2, e6, e7, e2, if_pos (show h_ib (nI h) 4 from ib_mk (by omega) (by omega)), x_sqS (s := (q, l)) hq hl, x_lieS (s := (q, l)) hq hl]
  have fin : ∀ (q' l' : Int32) (X' M' : hMem), h_ib q' 32 → h_ib l' 3 → (∀ a, a ≠ 7 + h → X' a = X a) → X' (7 + h) 0 = X (7 + h) 0 → X' (7 + h) 1 = X (7 + h) 1 → X' (7 + h) 2 = l' * 32 + q' → (∀ a, a ≠ 6 → a ≠ 7 → M' a = M a) → (∀ i, M' 6 i = if i = h then q' else M 6 i) → (∀ i, M' 7 i = if i = h then l' else M 7 i) → RR X' M' := by
    intro q' l' X' M' i1 i2 f1 f2 f3 f4 f5 f6 f7
    refine R.now ?_ ?_ ?_ ?_ ?_
    · intro q _ h2; exact f1 _ (by omega)
    · rw [f1 _ (by omega)]
    · intro q _ h2; exact f5 _ (by omega) (by omega)
    · intro j hj _ _ _; rw [f5 0 (by omega) (by omega)]
    · intro T _ _ _ n
      refine gNow_h n ?_ ?_ ?_ ?_
      · intro q _ _ _; exact f1 _ (by omega)
      · intro q _ _ _; exact f5 _ (by omega) (by omega)
      · intro j hj; rw [f5 0 (by omega) (by omega)]
      · intro i hi
        simp only [f6, f7, f5 4 (by omega) (by omega), f5 5 (by omega) (by omega)]
        obtain ⟨p0, p1, p2, p3, p4, p5, p6⟩ := n.2.2.1 i hi
        by_cases e : i = h
        · subst e
          rw [if_pos rfl, if_pos rfl]
          exact ⟨f2.trans p0, f3.trans p1, f4, p3, p4, i1, i2⟩
        · rw [if_neg e, if_neg e, f1 _ (by omega)]
          exact ⟨p0, p1, p2, p3, p4, p5, p6⟩
  by_cases c0 : b = 0
  · subst c0
    rw [if_pos rfl, if_pos ((ib2 0).mpr (Or.inl rfl)), if_pos rfl]
    simp only [if_neg (show ¬ (0 : Int32) = 1 from by decide), if_true]
    by_cases hc : h_ib c 32 ∧ bt (M 1 0) c.toNatClampNeg = false
    rotate_left
    · rw [if_neg hc, if_neg hc]; exact EqC.now R
    rw [if_pos hc, if_pos hc]
    refine EqC.now (fin c (nI l) _ _ hc.1 (ib_mk hl (by omega)) ?_ ?_ ?_ ?_ ?_ ?_ ?_)
    · intro a ha; simp (disch := omega) only [m_row]
    · simp (disch := omega) only [m_own, u_n]
    · simp (disch := omega) only [m_own, u_n]
    · simp (disch := omega) only [m_own, u_s]; rfl
    · intro a h6 h7; simp (disch := omega) only [m_row]
    · intro i; simp (disch := omega) only [m_row, m_own, u_e]
    · intro i; simp (disch := omega) only [m_row, m_own, u_e, e7]
  · rw [if_neg c0]
    by_cases c1 : b = 1
    · subst c1
      rw [if_pos rfl, if_pos ((ib2 1).mpr (Or.inr rfl)), if_neg c0]
      by_cases hc : h_ib c 3
      rotate_left
      · rw [if_neg hc, if_neg hc]; exact EqC.now R
      rw [if_pos hc, if_pos hc]
      simp only [if_neg c0, if_true]
      refine EqC.now (fin (nI q) c _ _ (ib_mk hq (by omega)) hc ?_ ?_ ?_ ?_ ?_ ?_ ?_)
      · intro a ha; simp (disch := omega) only [m_row]
      · simp (disch := omega) only [m_own, u_n]
      · simp (disch := omega) only [m_own, u_n]
      · simp (disch := omega) only [m_own, u_s]; rfl
      · intro a h6 h7; simp (disch := omega) only [m_row]
      · intro i; simp (disch := omega) only [m_row, m_own, u_e]
      · intro i; simp (disch := omega) only [m_row, m_own, u_e]
    · rw [if_neg c1, if_neg (fun h => ((ib2 b).mp h).elim c0 c1)]; exact EqC.now R
theorem ib3 (a : Int32) : h_ib a 3 ↔ a = 0 ∨ a = 1 ∨ a = 2 := by
  constructor
  · intro h
    obtain ⟨j, h1, h2, rfl⟩ := ib_ex h
    rcases (by omega : j = 0 ∨ j = 1 ∨ j = 2) with rfl | rfl | rfl
    · exact Or.inl rfl
    · exact Or.inr (Or.inl rfl)
    · exact Or.inr (Or.inr rfl)
  · rintro (rfl | rfl | rfl)
    · exact ib_mk (j := 0) (by omega) (by omega)
    · exact ib_mk (j := 1) (by omega) (by omega)
    · exact ib_mk (j := 2) (by omega) (by omega)
theorem eq_does {X M : hMem} (R : RR X M) (a b c : Int32) : EqC (fX9_does a b c X) (fX10_does a b c M) := by
  obtain ⟨H, hH, hx, hm⟩ := R.cats
  unfold fX9_does fX10_does fX9_does_L54 fX9_does_L82 fX10_does_L49
  rw [xe_cat hx (by omega), me_cat hm (by omega), b01, b01, eqOp R, emOp, me_in2, b01, xe_pace, b01, xe_reach, b01]
  by_cases ha : h_ib a H
  rotate_left
  · rw [if_neg ha, if_neg ha]; exact EqC.now R
  rw [if_pos ha, if_pos ha]
  obtain ⟨p, h1, h2, rfl⟩ := ib_ex ha
  obtain ⟨e0, e1, e2, i0, i1, i2⟩ := R.catE (p := p) (by omega)
  have fin : ∀ (k : Nat) (v : Int32), k < 3 → (k = 0 → h_ib v 32) → (k = 1 → h_ib v 5) → (k = 2 → h_ib v 4) → RR (h_up X (11 + p) k v) (h_up M 8 (3 * p + k) v) := by
    intro k v hk k0 k1 k2
    refine R.now ?_ ?_ ?_ ?_ ?_
    · intro q _ h2; simp (disch := omega) only [m_row]
    · simp (disch := omega) only [m_row]
    · intro q _ h2; simp (disch := omega) only [m_row]
    · intro j hj _ _ _; simp (disch := omega) only [m_row]
    · intro T _ _ _ n
      refine gNow_p n ?_ ?_ ?_ ?_
      · intro q _ h2; simp (disch := omega) only [m_row]
      · intro q _ h2; simp (disch := omega) only [m_row]
      · intro j hj; simp (disch := omega) only [m_row]
      · intro i hi
        obtain ⟨p0, p1, p2, p3, p4, p5⟩ := n.2.2.2.1 i hi
        by_cases e : i = p
        · subst e
          rcases (by omega : k = 0 ∨ k = 1 ∨ k = 2) with rfl | rfl | rfl
          · simp (disch := omega) only [m_own, Nat.add_zero, u_s, u_n]
            exact ⟨trivial, p1, p2, k0 rfl, p4, p5⟩
          · simp (disch := omega) only [m_own, u_s, u_n]
            exact ⟨p0, trivial, p2, p3, k1 rfl, p5⟩
          · simp (disch := omega) only [m_own, u_s, u_n]
            exact ⟨p0, p1, trivial, p3, p4, k2 rfl⟩
        · simp (disch := omega) only [m_row, m_own, u_n]
          exact ⟨p0, p1, p2, p3, p4, p5⟩
  simp only [nI_clamp h2, if_pos (show h_ib (nI p) 4 from ib_mk (by omega) (by omega)), show (3 : Int32) * nI p = nI (3 * p) from pk_mul 3 p]
  by_cases c0 : b = 0
  · subst c0
    rw [if_pos rfl, if_pos ((ib3 0).mpr (Or.inl rfl)), if_pos rfl]
    simp only [if_neg (show ¬ (0 : Int32) = 1 from by decide), if_neg (show ¬ (0 : Int32) = 2 from by decide), show nI (3 * p) + 0 = nI (3 * p + 0) from nI_add (3 * p) 0]
    rw [if_pos (ib_mk (by omega) (by omega)), if_pos (ib_mk (by omega) (by omega)), nI_clamp (by omega)]
    by_cases hc : h_ib c 32 ∧ bt (M 1 0) c.toNatClampNeg = false
    rotate_left
    · rw [if_neg hc, if_neg hc]; exact EqC.now R
    rw [if_pos hc, if_pos hc]
    exact EqC.val e0 (fin 0 c (by omega) (fun _ => hc.1) (by omega) (by omega))
  · rw [if_neg c0]
    by_cases c1 : b = 1
    · subst c1
      rw [if_pos rfl, if_pos ((ib3 1).mpr (Or.inr (Or.inl rfl))), if_neg c0, show (5 : Int32) - 1 = 4 from by decide, me_in4, b01]
      simp only [if_neg (show ¬ (1 : Int32) = 2 from by decide), show nI (3 * p) + 1 = nI (3 * p + 1) from nI_add (3 * p) 1]
      rw [if_pos (ib_mk (by omega) (by omega)), if_pos (ib_mk (by omega) (by omega)), nI_clamp (by omega)]
      by_cases hc : h_ib c 5
      rotate_left
      · rw [if_neg hc, if_neg hc]; exact EqC.now R
      rw [if_pos hc, if_pos hc]
      exact EqC.val e1 (fin 1 c (by omega) (by omega) (fun _ => hc) (by omega))
    · rw [if_neg c1]
      by_cases c2 : b = 2
      · subst c2
        rw [if_pos rfl, if_pos ((ib3 2).mpr (Or.inr (Or.inr rfl))), if_neg c0, show (5 : Int32) - 2 = 3 from by decide, me_in3, b01]
        simp only [show nI (3 * p) + 2 = nI (3 * p + 2) from nI_add (3 * p) 2]
        rw [if_pos (ib_mk (by omega) (by omega)), if_pos (ib_mk (by omega) (by omega)), nI_clamp (by omega)]
        by_cases hc : h_ib c 4
        rotate_left
        · rw [if_neg hc, if_neg hc]; exact EqC.now R
        rw [if_pos hc, if_pos hc]
        exact EqC.val e2 (fin 2 c (by omega) (by omega) (by omega) (fun _ => hc))
      · rw [if_neg c2, if_neg (fun h => ((ib3 b).mp h).elim c0 (fun h => h.elim c1 c2))]; exact EqC.now R
def hatIn (H : Nat) (M : hMem) (c : Nat) : Prop := ∃ h, h < H ∧ M 6 h = nI c
def catIn (C : Nat) (M : hMem) (c : Nat) : Prop := ∃ p, p < C ∧ M 8 (3 * p) = nI c
theorem x_hatSq {X M : hMem} (R : RR X M) {H : Nat} (hH : H ≤ 4) (hx : X 1 5 = nI H) : ∃ S, fX7_hatSquares X = some S ∧ ∀ c, c < 32 → (bt S c = true ↔ hatIn H M c) := by
  unfold fX7_hatSquares
  refine lp_u0 (body := fX7_hatSquares_L4 X) H (fun i s => s.2 = nI i ∧ ∀ c, c < 32 → (bt s.1 c = true ↔ hatIn i M c)) _ (0, 0) ⟨rfl, fun c hc => ?_⟩ (by omega) ?_ ?_
  · show bt 0 c = true ↔ _
    rw [b_0]
    exact ⟨fun h => (by cases h), fun ⟨h, h1, _⟩ => absurd h1 (Nat.not_lt_zero _)⟩
  · rintro k ⟨S, i⟩ ⟨rfl, h⟩
    unfold fX7_hatSquares_L4
    dsimp only
    rw [hx, if_pos (nI_le (Nat.le_refl _) (by omega))]
    exact ⟨_, rfl, h⟩
  · rintro k i ⟨S, i'⟩ hi ⟨e, h⟩ hk
    dsimp only at e h
    subst e
    obtain ⟨q, l, hq, hl, e6, e7, e2⟩ := R.sqE (h := i) (by omega)
    unfold fX7_hatSquares_L4
    dsimp only
    rw [hx, if_neg (nI_ge hi (by omega)), if_pos (ib_mk (by omega) (by omega)), nI_clamp (by omega), e2, x_sqS (s := (q, l)) hq hl, nI_1]
    refine hk _ ⟨rfl, fun c hc => ?_⟩
    show bt (S ||| 1 <<< (nI q &&& 31)) c = true ↔ _
    rw [b_set _ hq hc, Bool.or_eq_true, h c hc, decide_eq_true_eq]
    constructor
    · rintro (⟨j, j1, j2⟩ | rfl)
      · exact ⟨j, by omega, j2⟩
      · exact ⟨i, by omega, e6⟩
    · rintro ⟨j, j1, j2⟩
      by_cases e : j = i
      · subst e
        right
        exact ((nI_eq (by omega) (by omega)).mp (j2.symm.trans e6))
      · left
        exact ⟨j, by omega, j2⟩
theorem x_catSq {X M : hMem} (R : RR X M) {H : Nat} (hH : H ≤ 4) (hx : X 1 6 = nI H) : ∃ S, fX7_catcherSquares X = some S ∧ ∀ c, c < 32 → (bt S c = true ↔ catIn H M c) := by
  unfold fX7_catcherSquares
  refine lp_u0 (body := fX7_catcherSquares_L4 X) H (fun i s => s.2 = nI i ∧ ∀ c, c < 32 → (bt s.1 c = true ↔ catIn i M c)) _ (0, 0) ⟨rfl, fun c hc => ?_⟩ (by omega) ?_ ?_
  · show bt 0 c = true ↔ _
    rw [b_0]
    exact ⟨fun h => (by cases h), fun ⟨h, h1, _⟩ => absurd h1 (Nat.not_lt_zero _)⟩
  · rintro k ⟨S, i⟩ ⟨rfl, h⟩
    unfold fX7_catcherSquares_L4
    dsimp only
    rw [hx, if_pos (nI_le (Nat.le_refl _) (by omega))]
    exact ⟨_, rfl, h⟩
  · rintro k i ⟨S, i'⟩ hi ⟨e, h⟩ hk
    dsimp only at e h
    subst e
    obtain ⟨e0, -, -, i0, -, -⟩ := R.catE (p := i) (by omega)
    obtain ⟨q, hq, hq2, e6⟩ := ib_ex i0
    unfold fX7_catcherSquares_L4
    dsimp only
    rw [hx, if_neg (nI_ge hi (by omega)), if_pos (ib_mk (by omega) (by omega)), nI_clamp (by omega), e0, e6, nI_1]
    refine hk _ ⟨rfl, fun c hc => ?_⟩
    show bt (S ||| 1 <<< (nI q &&& 31)) c = true ↔ _
    rw [b_set _ hq hc, Bool.or_eq_true, h c hc, decide_eq_true_eq]
    constructor
    · rintro (⟨j, j1, j2⟩ | rfl)
      · exact ⟨j, by omega, j2⟩
      · exact ⟨i, by omega, e6⟩
    · rintro ⟨j, j1, j2⟩
      by_cases e : j = i
      · subst e
        right
        exact ((nI_eq (by omega) (by omega)).mp (j2.symm.trans e6))
      · left
        exact ⟨j, by omega, j2⟩
theorem m_anyIn {X M : hMem} (R : RR X M) {H C c : Nat} (hH : H ≤ 4) (hC : C ≤ 4) (hm : M 0 3 = nI H) (cm : M 0 8 = nI C) (hc : c < 32) : ∃ r, fX10_isAnyIn (nI c) M = some r ∧ ((r = 1 ∧ (hatIn H M c ∨ catIn C M c)) ∨ (r = 0 ∧ ¬ (hatIn H M c ∨ catIn C M c))) := by
  unfold fX10_isAnyIn
  refine lp_u0 (body := fX10_isAnyIn_L2 (nI c) M) 4 (fun i s => s = nI i ∧ ∀ j, j < i → ¬ (j < H ∧ M 6 j = nI c) ∧ ¬ (j < C ∧ M 8 (3 * j) = nI c)) _ 0 ⟨rfl, fun j hj => absurd hj (Nat.not_lt_zero _)⟩ (by omega) ?_ ?_
  · rintro k s ⟨rfl, h⟩
    unfold fX10_isAnyIn_L2
    rw [if_pos (show (4 : Int32) ≤ nI 4 from by decide)]
    refine ⟨0, rfl, Or.inr ⟨rfl, ?_⟩⟩
    rintro (⟨j, j1, j2⟩ | ⟨j, j1, j2⟩)
    · exact (h j (by omega)).1 ⟨j1, j2⟩
    · exact (h j (by omega)).2 ⟨j1, j2⟩
  · rintro k i s hi ⟨rfl, h⟩ hk
    have cats : ¬ (i < H ∧ M 6 i = nI c) → ∃ r, fX10_isAnyIn_L25 k (nI c) (nI i) M = some r ∧ ((r = 1 ∧ (hatIn H M c ∨ catIn C M c)) ∨ (r = 0 ∧ ¬ (hatIn H M c ∨ catIn C M c))) := by
      intro nh
      have go : ¬ (i < C ∧ M 8 (3 * i) = nI c) → ∃ r, k (nI i + 1) = some r ∧ ((r = 1 ∧ (hatIn H M c ∨ catIn C M c)) ∨ (r = 0 ∧ ¬ (hatIn H M c ∨ catIn C M c))) := by
        intro nc
        rw [nI_1]
        refine hk _ ⟨rfl, fun j hj => ?_⟩
        by_cases e : j = i
        · subst e; exact ⟨nh, nc⟩
        · exact h j (by omega)
      unfold fX10_isAnyIn_L25
      rw [cm]
      by_cases hiC : C ≤ i
      · rw [if_pos (nI_le hiC (by omega))]
        exact go (by omega)
      · rw [if_neg (nI_ge (by omega) (by omega)), show (3 : Int32) * nI i = nI (3 * i) from pk_mul 3 i, if_pos (ib_mk (by omega) (by omega)), nI_clamp (by omega)]
        by_cases e : M 8 (3 * i) = nI c
        · rw [if_pos e]
          exact ⟨1, rfl, Or.inl ⟨rfl, Or.inr ⟨i, by omega, e⟩⟩⟩
        · rw [if_neg e]
          exact go (fun q => e q.2)
    unfold fX10_isAnyIn_L2
    rw [if_neg (show ¬ (4 : Int32) ≤ nI i from nI_ge (b := 4) hi (by decide)), hm]
    by_cases hiH : H ≤ i
    · rw [if_pos (nI_le hiH (by omega))]
      exact cats (by omega)
    · rw [if_neg (nI_ge (by omega) (by omega)), if_pos (ib_mk (by omega) (by omega)), nI_clamp (by omega)]
      by_cases e : M 6 i = nI c
      · rw [if_pos e]
        exact ⟨1, rfl, Or.inl ⟨rfl, Or.inl ⟨i, by omega, e⟩⟩⟩
      · rw [if_neg e]
        exact cats (fun q => e q.2)
/-- the walls' change on both sides -/
theorem set_1 (S : Int32) {c : Nat} (hc : c < 32) : (S &&& (((1 : Int32) <<< (nI c &&& 31)) ^^^ (-1))) ||| ((1 : Int32) <<< (nI c &&& 31)) = S ||| ((1 : Int32) <<< (nI c &&& 31)) := by
  apply b_ext
  intro i hi
  rw [b_or, b_or, b_clr S hc hi, b_pow hc hi]
  cases bt S i <;> cases decide (i = c) <;> rfl
theorem set_0 (S : Int32) {c : Nat} (hc : c < 32) : (S &&& (((1 : Int32) <<< (nI c &&& 31)) ^^^ (-1))) ||| ((0 : Int32) <<< (nI c &&& 31)) = S &&& (((1 : Int32) <<< (nI c &&& 31)) ^^^ (-1)) := by
  apply b_ext
  intro i hi
  rw [b_or, b_clr S hc hi, b_shl c hc 0 hi, b_0, Bool.and_false, Bool.or_false]
theorem eq_street64 {X M : hMem} (R : RR X M) {k c v : Nat} (hk : k < 3) (hc : c < 32) (hv : v < 2) : EqC (fX9_street_L64 (nI k) (nI c) (nI v) X) (fX10_street_L50 (nI k) (nI c) (nI v) M) := by
  have fin : ∀ s, RR (h_up X 2 k s) (h_up M 1 k s) := by
    intro s
    refine R.now ?_ ?_ ?_ ?_ ?_
    · intro q _ h2; simp (disch := omega) only [m_row]
    · simp (disch := omega) only [m_row]
    · intro q _ h2; simp (disch := omega) only [m_row]
    · intro j hj _ _ _; simp (disch := omega) only [m_row]
    · intro T _ _ _ n
      refine gNow_s n ?_ ?_ ?_ ?_
      · intro q _ h2 _; simp (disch := omega) only [m_row]
      · intro q _ h2; simp (disch := omega) only [m_row]
      · intro j hj; simp (disch := omega) only [m_row]
      · intro i hi
        simp only [m_own, u_e, n.1 i hi]
  unfold fX9_street_L64 fX10_street_L50 fX10_street_L64
  have i3 : h_ib (nI k) 3 := ib_mk hk (by omega)
  rw [me_has hk hc, Option.bind_some, b01]
  simp only [if_pos i3, nI_clamp (show k < 2 ^ 31 by omega), bit_u _ hc, R.setsE hk]
  rcases (by omega : v = 0 ∨ v = 1) with rfl | rfl
  · simp only [show nI 0 = (0 : Int32) from rfl, if_neg (show ¬ (0 : Int32) = 1 from by decide), set_0 _ hc]
    split
    · exact EqC.now (fin _)
    · exact EqC.now (fin _)
  · simp only [show nI 1 = (1 : Int32) from rfl, if_true, set_1 _ hc]
    split
    · exact EqC.now (fin _)
    · exact EqC.now (fin _)
theorem eq_street {X M : hMem} (R : RR X M) (a b c : Int32) : EqC (fX9_street a b c X) (fX10_street a b c M) := by
  obtain ⟨H, hH, hx, hm⟩ := R.hats
  obtain ⟨C, hC, cx, cm⟩ := R.cats
  unfold fX9_street fX10_street
  rw [q_lt3, me_in2, b01, xe_sq, me_sq, b01, b01, me_in1, b01, q_le1]
  by_cases ha : h_ib a 3
  rotate_left
  · rw [if_neg ha, if_neg ha]; exact EqC.now R
  rw [if_pos ha, if_pos ha]
  by_cases hb : h_ib b 32
  rotate_left
  · rw [if_neg hb, if_neg hb]; exact EqC.now R
  rw [if_pos hb, if_pos hb]
  by_cases hc : h_ib c 2
  rotate_left
  · rw [if_neg hc, if_neg hc]; exact EqC.now R
  rw [if_pos hc, if_pos hc]
  obtain ⟨k, hk, hk2, rfl⟩ := ib_ex ha
  obtain ⟨q, hq, hq2, rfl⟩ := ib_ex hb
  obtain ⟨v, hv, hv2, rfl⟩ := ib_ex hc
  have main := eq_street64 R hk hq hv
  by_cases c0 : nI k = 0
  rotate_left
  · rw [if_neg c0, if_neg c0]; exact main
  rw [if_pos c0, if_pos c0]
  by_cases c1 : nI v = 1
  rotate_left
  · rw [if_neg c1, if_neg c1]; exact main
  rw [if_pos c1, if_pos c1]
  obtain ⟨S1, s1, s2⟩ := x_hatSq R hH hx
  obtain ⟨S2, s3, s4⟩ := x_catSq R hC cx
  obtain ⟨r, r1, r2⟩ := m_anyIn R hH hC hm cm hq
  rw [s1, Option.bind_some, s3, Option.bind_some, r1, Option.bind_some, bit_u _ hq, b01, b_or]
  rcases r2 with ⟨rfl, r3⟩ | ⟨rfl, r3⟩
  · rw [if_pos (by rw [Bool.or_eq_true, s2 q hq, s4 q hq]; exact r3), if_neg (by decide)]; exact EqC.now R
  · rw [if_neg (by rw [Bool.or_eq_true, s2 q hq, s4 q hq]; exact r3), if_pos rfl]; exact main
