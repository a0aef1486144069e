/-! ORDER, the other side -/
theorem m_isIn {H : Nat} (hH : H ≤ 4) (h0 : 0 < H) (N : Nat) (hN : N < 5000) (M : hMem) : fX10_isInOrder (nI N) (nI H) M = some (if okN H H 0 N = true then 1 else 0) := by
  unfold fX10_isInOrder
  obtain ⟨r, r1, r2⟩ := lp_u0 (body := fX10_isInOrder_L7 (nI H) M) H (fun i z => ∃ s K : Nat, z = (nI s, nI K, nI i) ∧ K < 5000 ∧ s < 32 ∧ okN H (H - i) s K = okN H H 0 N) (fun r => r = if okN H H 0 N = true then 1 else 0) (0, nI N, 0) ⟨0, N, rfl, hN, by omega, rfl⟩ (by omega) (by
    rintro k z ⟨s, K, rfl, hK, hs, he⟩
    unfold fX10_isInOrder_L7
    dsimp only
    rw [if_pos (nI_le (Nat.le_refl _) (by omega))]
    rw [Nat.sub_self] at he
    by_cases c : K = 0
    · subst c
      refine ⟨1, by rw [if_pos (show nI 0 = (0 : Int32) from rfl)], ?_⟩
      rw [← he]; rfl
    · refine ⟨0, by rw [if_neg (show ¬ nI K = (0 : Int32) from nI_neq 0 (by omega) (by omega) c)], ?_⟩
      rw [← he, if_neg]
      intro h
      exact c (eq_of_beq h)) (by
    rintro k i z hi ⟨s, K, rfl, hK, hs, he⟩ hk
    have er : h_rem (nI K) 10 = nI (K % 10) := n_rem (d := 10) (by omega) (by decide) (by decide)
    have ed : nI K / 10 = nI (K / 10) := pk_div (d := 10) (by omega) (by decide) (by decide)
    have hd : K % 10 < 10 := Nat.mod_lt _ (by decide)
    rw [show H - i = (H - (i + 1)) + 1 from by omega, okN_s] at he
    unfold fX10_isInOrder_L7
    dsimp only
    rw [if_neg (nI_ge hi (by omega)), er, ed]
    unfold fX10_in
    by_cases c1 : 1 ≤ K % 10
    · by_cases c2 : K % 10 ≤ H
      · rw [if_neg (show ¬ nI (K % 10) < (1 : Int32) from nI_nlt (b := 1) c1 (by omega)), if_neg (nI_nlt c2 (by omega)), if_neg (show ¬ (1 : Int32) = 0 from by decide)]
        rw [Nat.ble_eq_true_of_le c1, Nat.ble_eq_true_of_le c2, Bool.true_and, Bool.true_and] at he
        have hm := dc2 (N := 32) (K := 5) (p := fun s d => decide (((nI s >>> (nI d &&& 31)) &&& 1) = if s.testBit d = true then 1 else 0) && (decide (nI s ||| (1 <<< (nI d &&& 31)) = nI (s ||| 2 ^ d)) && Nat.blt (s ||| 2 ^ d) 32)) (by decide +kernel) hs (show K % 10 < 5 by omega)
        obtain ⟨hm1, hm2⟩ := Bool.and_eq_true_iff.mp hm
        obtain ⟨hm2, hm3⟩ := Bool.and_eq_true_iff.mp hm2
        rw [of_decide_eq_true hm1, bit_1]
        by_cases tb : s.testBit (K % 10) = true
        · rw [if_pos tb]
          rw [tb] at he
          refine ⟨0, rfl, ?_⟩
          rw [← he]; rfl
        · rw [if_neg tb, of_decide_eq_true hm2, nI_1]
          rw [eq_false_of_ne_true tb] at he
          exact hk _ ⟨_, _, rfl, by omega, Nat.le_of_ble_eq_true hm3, he⟩
      · rw [if_neg (show ¬ nI (K % 10) < (1 : Int32) from nI_nlt (b := 1) c1 (by omega)), if_pos (nI_lt (by omega) (by omega)), if_pos rfl]
        rw [show Nat.ble (K % 10) H = false from Bool.eq_false_iff.mpr (fun h => c2 (Nat.le_of_ble_eq_true h)), Bool.false_and, Bool.and_false] at he
        refine ⟨0, rfl, ?_⟩
        rw [← he]; rfl
    · rw [if_pos (show nI (K % 10) < (1 : Int32) from nI_lt (b := 1) (by omega) (by omega)), if_pos rfl]
      rw [show Nat.ble 1 (K % 10) = false from Bool.eq_false_iff.mpr (fun h => c1 (Nat.le_of_ble_eq_true h)), Bool.false_and] at he
      refine ⟨0, rfl, ?_⟩
      rw [← he]; rfl)
  rw [r1, r2]
theorem m_last {H pa re p N : Nat} {M : hMem} {W : Int32} {P : Nat → Nat → Nat × Nat} (hp : p < 4) (hH : H ≤ 4) (m1 : M 8 (3 * p + 1) = nI pa) (m2 : M 8 (3 * p + 2) = nI re) (hN : N < 5000) (hhad : ∀ i c0 t (Z : hMem), i < H → c0 < 32 → t ≤ 24 → kQ M Z → ∃ Z', fX10_had (nI i) (nI c0) (nI t) (nI pa) (nI re) Z = some (ansI (hadS W c0 t pa re (fun n => (P i n).1)), Z') ∧ kQ Z Z' ∧ ∀ n, hadS W c0 t pa re (fun n => (P i n).1) = some n → Z' 0 36 = nI (P i n).1 ∧ (P i n).1 < 32 ∧ n ≤ 24) : ∀ (k c t fuel : Nat) (Z : hMem), k < fuel → k ≤ 4 → c < 32 → t ≤ 24 → kQ M Z → (∀ j, j < k → 1 ≤ (N / 10 ^ j) % 10 ∧ (N / 10 ^ j) % 10 ≤ H) → ∃ Z', h_lp (fX10_lastBy_L59 (nI p) (nI N)) fuel (nI c, nI t, nI (if k = 0 then 0 else 10 ^ (k - 1)), Z) = some (ansI (lastL (fun i c t => hadS W c t pa re (fun n => (P i n).1)) (fun i n => (P i n).1) (digs N k) c t), Z') ∧ kQ M Z' := by
  intro k
  induction k with
  | zero =>
    intro c t fuel Z hf _ hc ht kZ _
    obtain ⟨f, rfl⟩ : ∃ f, fuel = f + 1 := ⟨fuel - 1, by omega⟩
    rw [lp_s]
    unfold fX10_lastBy_L59
    dsimp only
    rw [if_pos rfl, if_pos (show nI 0 ≤ (0 : Int32) from by decide)]
    exact ⟨Z, rfl, kZ⟩
  | succ k ih =>
    intro c t fuel Z hf hk4 hc ht kZ hd
    obtain ⟨f, rfl⟩ : ∃ f, fuel = f + 1 := ⟨fuel - 1, by omega⟩
    have hpw : 0 < 10 ^ k ∧ 10 ^ k < 2 ^ 31 := by
      rcases (by omega : k = 0 ∨ k = 1 ∨ k = 2 ∨ k = 3) with rfl | rfl | rfl | rfl <;> decide
    rw [lp_s, if_neg (show ¬ k + 1 = 0 by omega), Nat.add_sub_cancel]
    have e10 : nI (10 ^ k) / 10 = nI (if k = 0 then 0 else 10 ^ (k - 1)) := by
      rcases (by omega : k = 0 ∨ k = 1 ∨ k = 2 ∨ k = 3) with rfl | rfl | rfl | rfl <;> decide
    generalize hgo : h_lp (fX10_lastBy_L59 (nI p) (nI N)) f = go
    have ih' := fun c t Z h1 h2 h3 h4 => ih c t f Z (by omega) (by omega) h1 h2 h3 h4
    rw [hgo] at ih'
    obtain ⟨d1, d2⟩ := hd k (by omega)
    have hdm : N / 10 ^ k < 2 ^ 31 := Nat.lt_of_le_of_lt (Nat.div_le_self _ _) (by omega)
    unfold fX10_lastBy_L59
    dsimp only
    rw [if_neg (show ¬ nI (10 ^ k) ≤ (0 : Int32) from nI_ge (a := 0) hpw.1 hpw.2), if_neg (n_m1 (by omega)), if_neg (show ¬ nI (10 ^ k) = (0 : Int32) from nI_neq 0 hpw.2 (by omega) (by omega)), show (3 : Int32) * nI p + 1 = nI (3 * p + 1) from by rw [c3a hp, nI_1], show (3 : Int32) * nI p + 2 = nI (3 * p + 2) from by rw [c3a hp]; exact nI_add _ 2, if_pos (ib_mk (by omega) (by omega)), if_pos (ib_mk (by omega) (by omega)), nI_clamp (by omega), nI_clamp (by omega), kZ.1 8 (by omega), m1, m2, pk_div (by omega) hpw.1 hpw.2, show h_rem (nI (N / 10 ^ k)) 10 = nI (N / 10 ^ k % 10) from n_rem (d := 10) hdm (by decide) (by decide), nI_sub1 d1]
    obtain ⟨Z', z1, z2, z3⟩ := hhad (N / 10 ^ k % 10 - 1) c t Z (by omega) hc ht kZ
    rw [z1, Option.bind_some, e10]
    dsimp only
    show ∃ Z'', go _ = some (ansI (match hadS W c t pa re (fun n => (P (N / 10 ^ k % 10 - 1) n).1) with | none => none | some n => lastL _ _ (digs N k) (P (N / 10 ^ k % 10 - 1) n).1 n), Z'') ∧ _
    generalize hadS W c t pa re (fun n => (P (N / 10 ^ k % 10 - 1) n).1) = o at z3 ⊢
    cases o with
    | none =>
      rw [← hgo]
      obtain ⟨f', rfl⟩ : ∃ f', f = f' + 1 := ⟨f - 1, by omega⟩
      rw [lp_s]
      unfold fX10_lastBy_L59
      dsimp only
      by_cases c0 : nI (if k = 0 then 0 else 10 ^ (k - 1)) ≤ 0
      · rw [if_pos c0]; exact ⟨Z', rfl, kZ.tr z2⟩
      · rw [if_neg c0, if_pos (show ansI none = -1 from rfl)]; exact ⟨Z', rfl, kZ.tr z2⟩
    | some n =>
      obtain ⟨p1, p2, p3⟩ := z3 n rfl
      rw [p1]
      exact ih' (P (N / 10 ^ k % 10 - 1) n).1 n Z' p2 p3 (kZ.tr z2) (fun j hj => hd j (by omega))
