/-! GUSTSBY, COPY -/
theorem le_sub3 {a n : Nat} (ha : a < 2 ^ 31) (hn : n < 2 ^ 30) : (nI a ≤ nI n - 3) ↔ a + 3 ≤ n := by
  rw [Int32.le_iff_toInt_le, nI_toInt ha, show (nI n - 3).toInt = (n : Int) - 3 from pk_sub_toInt (a := n) (b := 3) hn (by decide)]
  omega
theorem eq_gustsBy {X M : hMem} (R : RR X M) (a b c d : Int32) : EqC (fX9_gustsBy a b c d X) (fX10_gustsBy a b c d M) := by
  unfold fX9_gustsBy fX10_gustsBy
  rw [xe_sheet, me_in3, b01, b01, q_gt2, me_in2, b01, q_le13, show fX10_in d 0 13 M = if h_ib d 14 then 1 else 0 from me_in d 13 M (by decide), b01]
  by_cases ha : h_ib a 4
  rotate_left
  · rw [if_neg ha, if_neg ha]; exact EqC.now R
  simp only [if_pos ha]
  by_cases hb : h_ib b 3
  rotate_left
  · rw [if_neg hb, if_neg hb]; exact EqC.now R
  rw [if_pos hb, if_pos hb]
  by_cases hd : h_ib d 14
  rotate_left
  · rw [if_neg hd, if_neg hd]; exact EqC.now R
  rw [if_pos hd, if_pos hd]
  obtain ⟨s, hs, hs2, rfl⟩ := ib_ex ha
  obtain ⟨n, hn, e0, e1, e2, e3, e4⟩ := R.shE hs
  simp only [if_pos ha, nI_clamp hs2, e0]
  by_cases c1 : M 13 s = -1
  · rw [if_pos c1, if_pos c1]; exact EqC.now R
  rw [if_neg c1, if_neg c1]
  by_cases c2 : M 13 s = b
  rotate_left
  · rw [if_neg c2, if_neg c2]; exact EqC.now R
  rw [if_pos c2, if_pos c2]
  obtain ⟨m, hm, hm2, rfl⟩ := ib_ex hd
  refine EqC.of (lp20 (body := fX9_gustsBy_L72 (nI m) (80 + 2 * s)) (body' := fX10_gustsBy_L64 (nI s) c (nI m)) m (fun i z z' => ∃ cnt idx X' M', z = (cnt, idx, nI i, X') ∧ z' = (cnt, nI i, M') ∧ RR X' M' ∧ ((i = 0 ∧ idx = c) ∨ ∃ q, c = nI q ∧ idx = nI (q + 3 * i) ∧ q + 3 * i ≤ 40)) EqQ (0, c, 0, X) (0, 0, M) ⟨0, c, X, M, rfl, rfl, R, Or.inl ⟨rfl, rfl⟩⟩ (by omega) ?_ ?_)
  · rintro k k' z z' ⟨cnt, idx, X', M', rfl, rfl, R', -⟩
    unfold fX9_gustsBy_L72 fX10_gustsBy_L64
    dsimp only
    rw [if_pos (nI_le (Nat.le_refl _) (by omega)), if_pos (nI_le (Nat.le_refl _) (by omega))]
    exact ⟨_, _, rfl, rfl, rfl, R'⟩
  · rintro k k' i z z' hi ⟨cnt, idx, X', M', rfl, rfl, R', hidx⟩ hk
    unfold fX9_gustsBy_L72 fX10_gustsBy_L64
    dsimp only
    rw [if_neg (nI_ge hi (by omega)), if_neg (nI_ge hi (by omega))]
    have hneg : (idx < 0 ↔ c < 0) := by
      rcases hidx with ⟨h1, h2⟩ | ⟨q, h1, h2, h3⟩
      · rw [h2]
      · rw [h1, h2]
        exact ⟨fun h => absurd h (nI_pos (by omega)), fun h => absurd h (nI_pos (by omega))⟩
    by_cases cn : c < 0
    · rw [if_pos (hneg.mpr cn), if_pos cn]
      exact ⟨_, _, rfl, rfl, rfl, R'⟩
    rw [if_neg (fun h => cn (hneg.mp h)), if_neg cn]
    obtain ⟨q, hq, rfl, rfl, hq3⟩ : ∃ q, q + 3 * i < 2 ^ 31 ∧ c = nI q ∧ idx = nI (q + 3 * i) ∧ (i = 0 ∨ q + 3 * i ≤ 40) := by
      rcases hidx with ⟨h1, h2⟩ | ⟨q, h1, h2, h3⟩
      · have h0 := (lt0_int c)
        have hb := c.toInt_lt
        have hc1 : ¬ c.toInt < 0 := fun h => cn (h0.mpr h)
        have e : c = nI c.toInt.toNat := by
          apply Int32.toInt_inj.mp
          rw [nI_toInt (by omega)]; omega
        refine ⟨c.toInt.toNat, by omega, e, ?_, Or.inl h1⟩
        rw [h1, h2, Nat.mul_zero, Nat.add_zero]; exact e
      · exact ⟨q, by omega, h1, h2, Or.inr h3⟩
    obtain ⟨n', hn', f0, f1, f2, f3, f4⟩ := R'.shE hs
    simp only [f1, f2, nI_clamp hs2, if_pos ha, show (3 : Int32) * nI i = nI (3 * i) from pk_mul 3 i, nI_add]
    rw [if_neg (nI_nlt (by omega) (by omega))]
    by_cases cl : q + 3 * i + 3 ≤ n'
    rotate_left
    · rw [if_neg (fun h => cl ((le_sub3 hq (by omega)).mp h)), if_neg (fun h => cl ((le_sub3 hq (by omega)).mp h))]
      exact ⟨_, _, rfl, rfl, rfl, R'⟩
    rw [if_pos ((le_sub3 hq (by omega)).mpr cl), if_pos ((le_sub3 hq (by omega)).mpr cl)]
    rw [show (40 : Int32) * nI s = nI (40 * s) from pk_mul 40 s, nI_add, show nI (q + 3 * i) + 1 = nI (q + 3 * i + 1) from nI_add _ 1, show nI (q + 3 * i) + 2 = nI (q + 3 * i + 2) from nI_add _ 2, show nI (q + 3 * i) + 3 = nI (q + 3 * i + 3) from nI_add _ 3, show nI (40 * s + (q + 3 * i)) + 1 = nI (40 * s + (q + 3 * i) + 1) from nI_add _ 1, show nI (40 * s + (q + 3 * i)) + 2 = nI (40 * s + (q + 3 * i) + 2) from nI_add _ 2]
    rw [if_pos (ib_mk (by omega) (by omega)), if_pos (ib_mk (by omega) (by omega)), if_pos (ib_mk (by omega) (by omega)), if_pos (ib_mk (by omega) (by omega)), if_pos (ib_mk (by omega) (by omega)), if_pos (ib_mk (by omega) (by omega))]
    simp (disch := omega) only [nI_clamp]
    rw [show 80 + 2 * s + 1 = 81 + 2 * s from by omega, f4 _ (by omega), f4 _ (by omega), f4 _ (by omega), show 40 * s + (q + 3 * i + 1) = 40 * s + (q + 3 * i) + 1 from by omega, show 40 * s + (q + 3 * i + 2) = 40 * s + (q + 3 * i) + 2 from by omega]
    obtain ⟨v, X2, M2, b1, b2, R2⟩ := eq_blow R' (M' 15 (40 * s + (q + 3 * i))) (M' 15 (40 * s + (q + 3 * i) + 1)) (M' 15 (40 * s + (q + 3 * i) + 2))
    rw [b1, b2, Option.bind_some, Option.bind_some]
    dsimp only
    by_cases hv : v < 0
    · rw [if_pos hv, if_pos hv, Int32.add_zero, nI_1]
      exact hk _ _ ⟨cnt, _, X2, M2, rfl, rfl, R2, Or.inr ⟨q, rfl, by rw [show q + 3 * (i + 1) = q + 3 * i + 3 from by omega], by omega⟩⟩
    · rw [if_neg hv, if_neg hv, nI_1]
      exact hk _ _ ⟨cnt + 1, _, X2, M2, rfl, rfl, R2, Or.inr ⟨q, rfl, by rw [show q + 3 * (i + 1) = q + 3 * i + 3 from by omega], by omega⟩⟩
theorem cpb_ok {a b c n0 n1 : Nat} (h1 : a + c ≤ n0) (h2 : b + c ≤ n1) (h3 : n0 < 2 ^ 31) (h4 : n1 < 2 ^ 31) : h_cpb (nI a) (nI b) (nI c) n0 n1 = true := by
  unfold h_cpb
  rw [nI_clamp (by omega), nI_clamp (by omega), nI_clamp (by omega), decide_eq_true (nI_pos' (by omega)), decide_eq_true (nI_pos' (by omega)), decide_eq_true (nI_pos' (by omega)), Nat.ble_eq_true_of_le h1, Nat.ble_eq_true_of_le h2]
  rfl
def cpy1 (f : Nat → Int32) (s d n : Nat) (j : Nat) : Int32 := if d ≤ j ∧ j < d + n then f (s + (j - d)) else f j
theorem m_cpy {s d n : Nat} (hs : s + n ≤ 160) (hd : d + n ≤ 160) (hn : n ≤ 160) (N : hMem) : ∃ r, h_lp (fX10_copy_L147 (nI n) (nI s) (nI d)) h_FU (0, N) = some r ∧ r.1 = nI n ∧ (∀ a, a ≠ 15 → r.2 a = N a) ∧ ∀ j, r.2 15 j = cpy1 (N 15) s d n j := by
  by_cases hsd : d ≤ s
  · refine lp_u0 (body := fX10_copy_L147 (nI n) (nI s) (nI d)) n (fun i z => ∃ Y : hMem, z = (nI i, Y) ∧ (∀ a, a ≠ 15 → Y a = N a) ∧ ∀ j, Y 15 j = cpy1 (N 15) s d i j) _ (0, N) ⟨N, rfl, fun _ _ => rfl, fun j => by unfold cpy1; rw [if_neg (by omega)]⟩ (by omega) ?_ ?_
    · rintro k z ⟨Y, rfl, h1, h3⟩
      unfold fX10_copy_L147
      dsimp only
      rw [if_pos (nI_le (Nat.le_refl _) (by omega))]
      exact ⟨_, rfl, rfl, h1, h3⟩
    · rintro k i z hi ⟨Y, rfl, h1, h3⟩ hk
      unfold fX10_copy_L147 fX10_copy_L173
      dsimp only
      rw [if_neg (nI_ge hi (by omega)), if_pos (nI_le hsd (by omega)), nI_add, nI_add, if_pos (ib_mk (by omega) (by omega)), if_pos (ib_mk (by omega) (by omega)), nI_clamp (by omega), nI_clamp (by omega), nI_1]
      refine hk _ ⟨_, rfl, ?_, ?_⟩
      · intro a ha; rw [m_row ha]; exact h1 a ha
      · intro j
        rw [m_own]
        by_cases e : j = d + i
        · subst e
          rw [u_s, h3]
          unfold cpy1
          rw [if_neg (by omega), if_pos (by omega), show s + (d + i - d) = s + i from by omega]
        · rw [u_n e, h3]
          unfold cpy1
          by_cases c : d ≤ j ∧ j < d + i
          · rw [if_pos c, if_pos (by omega)]
          · rw [if_neg c, if_neg (by omega)]
  · refine lp_u0 (body := fX10_copy_L147 (nI n) (nI s) (nI d)) n (fun i z => ∃ Y : hMem, z = (nI i, Y) ∧ (∀ a, a ≠ 15 → Y a = N a) ∧ ∀ j, Y 15 j = if d + n - i ≤ j ∧ j < d + n then N 15 (s + (j - d)) else N 15 j) _ (0, N) ⟨N, rfl, fun _ _ => rfl, fun j => by rw [if_neg (by omega)]⟩ (by omega) ?_ ?_
    · rintro k z ⟨Y, rfl, h1, h3⟩
      unfold fX10_copy_L147
      dsimp only
      rw [if_pos (nI_le (Nat.le_refl _) (by omega))]
      refine ⟨_, rfl, rfl, h1, fun j => ?_⟩
      show Y 15 j = _
      rw [h3]
      unfold cpy1
      rw [show d + n - n = d from by omega]
    · rintro k i z hi ⟨Y, rfl, h1, h3⟩ hk
      unfold fX10_copy_L147 fX10_copy_L173
      dsimp only
      rw [if_neg (nI_ge hi (by omega)), if_neg (nI_ge (by omega) (by omega)), nI_sub1 (by omega), pk_sub (by omega), nI_add, nI_add, if_pos (ib_mk (by omega) (by omega)), if_pos (ib_mk (by omega) (by omega)), nI_clamp (by omega), nI_clamp (by omega), nI_1]
      refine hk _ ⟨_, rfl, ?_, ?_⟩
      · intro a ha; rw [m_row ha]; exact h1 a ha
      · intro j
        rw [m_own]
        by_cases e : j = d + (n - 1 - i)
        · subst e
          rw [u_s, h3, if_neg (by omega), if_pos (by omega), show s + (d + (n - 1 - i) - d) = s + (n - 1 - i) from by omega]
        · rw [u_n e, h3]
          by_cases c : d + n - i ≤ j ∧ j < d + n
          · rw [if_pos c, if_pos (by omega)]
          · rw [if_neg c, if_neg (by omega)]
theorem lt_subN {a b n : Nat} (ha : a < 2 ^ 31) (hb : b < 2 ^ 31) (hn : n ≤ 40) : (nI n - nI b < nI a) ↔ n < a + b := by
  rw [Int32.lt_iff_toInt_lt, nI_toInt ha, fb_subI (by rw [nI_toInt hb, nI_toInt (by omega)]; omega) (by rw [nI_toInt hb, nI_toInt (by omega)]; omega), nI_toInt hb, nI_toInt (by omega)]
  omega
theorem nat_of {a : Int32} (h : ¬ a < 0) : ∃ j, j < 2 ^ 31 ∧ a = nI j := by
  have h0 := (lt0_int a)
  have hb := a.toInt_lt
  have hc1 : ¬ a.toInt < 0 := fun q => h (h0.mpr q)
  refine ⟨a.toInt.toNat, by omega, ?_⟩
  apply Int32.toInt_inj.mp
  rw [nI_toInt (by omega)]; omega
theorem eq_copy {X M : hMem} (R : RR X M) (a b c d e : Int32) : EqC (fX9_copy a b c d e X) (fX10_copy a b c d e M) := by
  unfold fX9_copy fX10_copy
  rw [xe_sheet, xe_sheet, me_in3, me_in3, b01, b01, b01, b01]
  by_cases ha : h_ib a 4
  rotate_left
  · rw [if_neg ha, if_neg ha]; exact EqC.now R
  simp only [if_pos ha]
  by_cases hc : h_ib c 4
  rotate_left
  · rw [if_neg hc, if_neg hc]; exact EqC.now R
  rw [if_pos hc, if_pos hc]
  simp only [if_pos ha, if_pos hc]
  obtain ⟨s, hs, hs2, rfl⟩ := ib_ex ha
  obtain ⟨t, ht, ht2, rfl⟩ := ib_ex hc
  obtain ⟨n, hn, e0, e1, e2, e3, e4⟩ := R.shE hs
  obtain ⟨m, hm, f0, f1, f2, f3, f4⟩ := R.shE ht
  simp only [nI_clamp hs2, nI_clamp ht2, e0, e1, e2, f0, f1, f2]
  by_cases c1 : M 13 s = -1
  · rw [if_pos c1, if_pos c1]; exact EqC.now R
  rw [if_neg c1, if_neg c1]
  by_cases c2 : M 13 t = -1
  · rw [if_pos c2, if_pos c2]; exact EqC.now R
  rw [if_neg c2, if_neg c2]
  by_cases c3 : M 13 s = M 13 t
  rotate_left
  · rw [if_neg c3, if_neg c3]; exact EqC.now R
  rw [if_pos c3, if_pos c3]
  by_cases ce : e < 0
  · rw [if_pos ce, if_pos ce]; exact EqC.now R
  rw [if_neg ce, if_neg ce]
  by_cases cb : b < 0
  · rw [if_pos cb, if_pos cb]; exact EqC.now R
  rw [if_neg cb, if_neg cb]
  by_cases cd : d < 0
  · rw [if_pos cd, if_pos cd]; exact EqC.now R
  rw [if_neg cd, if_neg cd]
  obtain ⟨k, hk, rfl⟩ := nat_of ce
  obtain ⟨i, hi, rfl⟩ := nat_of cb
  obtain ⟨j, hj, rfl⟩ := nat_of cd
  have q1 : (nI n - nI k < nI i) ↔ n < i + k := lt_subN hi hk hn
  have q2 : (nI j ≤ nI m - nI k) ↔ j + k ≤ m := by
    rw [nle_lt, lt_subN hj hk hm]; omega
  have q3 : (nI n < nI i) ↔ n < i := nI_ltI (by omega) hi
  have q4 : (nI m < nI j) ↔ m < j := nI_ltI (by omega) hj
  have q5 : (nI n - nI i < nI k) ↔ n < i + k := by rw [lt_subN hk hi hn, Nat.add_comm]
  have q6 : (nI k ≤ nI m - nI j) ↔ j + k ≤ m := by
    rw [nle_lt, lt_subN hk hj hm]; omega
  simp only [q1, q2, q3, q4, q5, q6]
  by_cases b1 : n < i + k
  · rw [if_pos b1]
    by_cases b2 : n < i
    · rw [if_pos b2]; exact EqC.now R
    rw [if_neg b2]
    by_cases b3 : m < j
    · rw [if_pos b3]; exact EqC.now R
    rw [if_neg b3, if_pos b1]; exact EqC.now R
  rw [if_neg b1, if_neg (show ¬ n < i by omega)]
  by_cases b4 : j + k ≤ m
  rotate_left
  · rw [if_neg b4]
    by_cases b3 : m < j
    · rw [if_pos b3]; exact EqC.now R
    rw [if_neg b3, if_neg b1, if_neg b4]; exact EqC.now R
  rw [if_pos b4, if_neg (show ¬ m < j by omega), if_neg b1, if_pos b4, if_pos (cpb_ok (by omega) (by omega) (by omega) (by omega)), show (40 : Int32) * nI s = nI (40 * s) from pk_mul 40 s, show (40 : Int32) * nI t = nI (40 * t) from pk_mul 40 t, nI_add, nI_add]
  obtain ⟨z, z1, z2, z3, z4⟩ := m_cpy (s := 40 * s + i) (d := 40 * t + j) (n := k) (by omega) (by omega) (by omega) M
  refine ⟨nI k, _, z.2, rfl, by rw [z1, ← z2], R.sheets ?_ ?_ ?_ ?_ ?_⟩
  · intro a _ h2; simp (disch := omega) only [m_cpr]
  · simp (disch := omega) only [m_cpr]
  · intro a _ h2; rw [z3 a (by omega)]
  · intro j hj; rw [z3 0 (by omega)]
  · intro q hq
    obtain ⟨p1, p2, p3, p4, p5⟩ := R.shs q hq
    rw [z3 13 (by omega), z3 14 (by omega)]
    by_cases e : q = t
    · subst e
      simp (disch := omega) only [m_cpr]
      refine ⟨p1, p2, p3, p4, fun u hu => ?_⟩
      rw [show 81 + 2 * q = 80 + 2 * q + 1 from by omega, m_cpo, nI_clamp (by omega), nI_clamp (by omega), nI_clamp (by omega), z4]
      unfold va_cpy cpy1
      by_cases c : j ≤ u ∧ u < j + k
      · rw [if_pos c, if_pos (by omega), show 80 + 2 * s + 1 = 81 + 2 * s from by omega, e4 _ (by omega), show 40 * s + (i + (u - j)) = 40 * s + i + (40 * q + u - (40 * q + j)) from by omega]
      · rw [if_neg c, if_neg (by omega), show 80 + 2 * q + 1 = 81 + 2 * q from by omega]; exact p5 u hu
    · simp (disch := omega) only [m_cpr]
      refine ⟨p1, p2, p3, p4, fun u hu => ?_⟩
      rw [z4]
      unfold cpy1
      rw [if_neg (by omega)]
      exact p5 u hu
