/-! TEXT: tokens, x's side -/
def sgn (v : Int32) : Bool := !decide (fX5_isSign v hM0 = 0)
def decS (b : Nat → Int32) (a : Nat) : Nat → Int32
  | 0 => 0
  | k + 1 => (10 * decS b a k + b (a + k)) - 48
theorem decS_s (b : Nat → Int32) (a k : Nat) : decS b a (k + 1) = (10 * decS b a k + b (a + k)) - 48 := rfl
def tW (b : Nat → Int32) (n i : Nat) : Nat := wrd b n i (tEnd b n i)
def tK (b : Nat → Int32) (n i : Nat) : Int32 := if n ≤ i then 0 else if dig (b i) = true then (if tEnd b n i - i ≤ 4 then 2 else 1) else if ltr (b i) = true then (if 1 ≤ tW b n i ∧ tW b n i ≤ 6 then 3 else kyV (tW b n i)) else if sgn (b i) = true then b i else 1
def tV (b : Nat → Int32) (n i : Nat) : Int32 := if tK b n i = 3 then nI (tW b n i - 1) else if tK b n i = 2 then decS b i (tEnd b n i - i) else 0
theorem tEnd_le {b : Nat → Int32} {n i : Nat} (hi : i ≤ n) : i ≤ tEnd b n i ∧ tEnd b n i ≤ n ∧ (i < n → i < tEnd b n i) := by
  unfold tEnd
  by_cases c1 : ltr (bA b n i) = true
  · have := bA_in (c := ltr) (by decide) c1
    rw [if_pos c1]
    have := spn_le (c := ltr) (by decide) (b := b) (n := n) 160 (i + 1) (by omega)
    omega
  · rw [if_neg c1]
    by_cases c2 : dig (bA b n i) = true
    · have := bA_in (c := dig) (by decide) c2
      rw [if_pos c2]
      have := spn_le (c := dig) (by decide) (b := b) (n := n) 160 (i + 1) (by omega)
      omega
    · rw [if_neg c2]
      omega
theorem nm_neg : ∀ w, w < 13 → (nmV w < 0 ↔ ¬ (1 ≤ w ∧ w ≤ 6)) := by decide
theorem ky_ne : ∀ w, w < 13 → ¬ kyV w = 3 ∧ ¬ kyV w = 2 ∧ ¬ kyV w = 0 := by decide
theorem x_kind {b : Nat → Int32} {n : Nat} {X : hMem} (h : TXx b n X) (hb : ∀ i, i < 160 → h_ib (b i) 256) {i : Nat} (hi : i ≤ n) : fX5_tokenBetween (nI i) (nI (tEnd b n i)) X = some (tK b n i) := by
  have hn := h.1
  obtain ⟨t1, t2, t3⟩ := tEnd_le (b := b) hi
  unfold fX5_tokenBetween tK
  rw [x_byte h (by omega), Option.bind_some]
  by_cases hin : n ≤ i
  · rw [if_pos hin, show bA b n i = -1 from if_neg (by omega), if_neg (show ¬ (0 : Int32) ≤ -1 from by decide)]
  · have e : bA b n i = b i := if_pos (by omega)
    rw [if_neg hin, e, if_pos (hb i (by omega)).1, x_dig, x_ltr, b01, b01]
    by_cases c1 : dig (b i) = true
    · rw [if_pos c1, if_pos c1, pk_sub t1]
      by_cases c2 : tEnd b n i - i ≤ 4
      · rw [if_pos (show nI (tEnd b n i - i) ≤ (4 : Int32) from nI_le (b := 4) c2 (by decide)), if_pos c2]
      · rw [if_neg (show ¬ nI (tEnd b n i - i) ≤ (4 : Int32) from nI_ge (a := 4) (by omega) (by omega)), if_neg c2]
    · rw [if_neg c1, if_neg c1]
      by_cases c2 : ltr (b i) = true
      · rw [if_pos c2, if_pos c2, x_name h t1 (by omega), Option.bind_some, x_key h t1 (by omega), Option.bind_some]
        unfold tW
        have hw := wrd_lt b n i (tEnd b n i)
        by_cases c3 : 1 ≤ wrd b n i (tEnd b n i) ∧ wrd b n i (tEnd b n i) ≤ 6
        · rw [if_neg (fun q => ((nm_neg _ hw).mp q) c3), if_pos c3]
        · rw [if_pos ((nm_neg _ hw).mpr c3), if_neg c3]
      · rw [if_neg c2, if_neg c2]
        unfold sgn
        rw [show fX5_isSign (b i) X = fX5_isSign (b i) hM0 from rfl]
        by_cases c3 : fX5_isSign (b i) hM0 = 0
        · rw [if_pos c3, decide_eq_true c3]; rfl
        · rw [if_neg c3, decide_eq_false c3]; rfl
theorem x_val {b : Nat → Int32} {n : Nat} {X : hMem} (h : TXx b n X) {i : Nat} (hi : i ≤ n) : fX5_valueOf (tK b n i) (nI i) (nI (tEnd b n i)) X = some (tV b n i) := by
  have hn := h.1
  obtain ⟨t1, t2, t3⟩ := tEnd_le (b := b) hi
  unfold fX5_valueOf tV
  by_cases c3 : tK b n i = 3
  · rw [if_pos c3, if_pos c3, x_name h t1 (by omega), Option.bind_some]
    have hw := wrd_lt b n i (tEnd b n i)
    have : 1 ≤ tW b n i ∧ tW b n i ≤ 6 := by
      unfold tK at c3
      by_cases a1 : n ≤ i
      · rw [if_pos a1] at c3; exact absurd c3 (by decide)
      rw [if_neg a1] at c3
      by_cases a2 : dig (b i) = true
      · rw [if_pos a2] at c3
        by_cases a3 : tEnd b n i - i ≤ 4
        · rw [if_pos a3] at c3; exact absurd c3 (by decide)
        · rw [if_neg a3] at c3; exact absurd c3 (by decide)
      rw [if_neg a2] at c3
      by_cases a4 : ltr (b i) = true
      · rw [if_pos a4] at c3
        by_cases a5 : 1 ≤ tW b n i ∧ tW b n i ≤ 6
        · exact a5
        · rw [if_neg a5] at c3; exact absurd c3 (ky_ne _ hw).1
      · rw [if_neg a4] at c3
        by_cases a6 : sgn (b i) = true
        · rw [if_pos a6] at c3
          rw [c3] at a6
          exact absurd a6 (by decide)
        · rw [if_neg a6] at c3; exact absurd c3 (by decide)
    unfold nmV
    unfold tW at this ⊢
    rw [if_pos this]
  · rw [if_neg c3, if_neg c3]
    by_cases c2 : tK b n i = 2
    · rw [c2, if_pos rfl]
      obtain ⟨r, r1, r2⟩ := lp_u0 (body := fX5_valueOf_L18 2 (nI (tEnd b n i)) X) (tEnd b n i - i) (fun k z => z = (decS b i k, nI (i + k))) (fun r => r = decS b i (tEnd b n i - i)) (0, nI i) rfl (by omega) (by
        rintro k z rfl
        unfold fX5_valueOf_L18
        dsimp only
        rw [if_pos (nI_le (by omega) (by omega))]
        exact ⟨_, rfl, rfl⟩) (by
        rintro k j z hj rfl hk
        unfold fX5_valueOf_L18
        dsimp only
        rw [if_neg (nI_ge (by omega) (by omega)), if_pos rfl, x_byte h (by omega), Option.bind_some, nI_1, show bA b n (i + j) = b (i + j) from if_pos (by omega), ← decS_s]
        exact hk _ rfl)
      rw [r1, r2]
    · rw [if_neg c2]
      unfold h_FU
      rw [show (20000 : Nat) = 19999 + 1 from rfl, lp_s]
      unfold fX5_valueOf_L18
      dsimp only
      by_cases c4 : nI (tEnd b n i) ≤ nI i
      · rw [if_pos c4]
      · rw [if_neg c4, if_neg c2]
/-- where the k-th token begins -/
def plc (b : Nat → Int32) (n : Nat) : Nat → Nat
  | 0 => spn blk b n 160 0
  | k + 1 => spn blk b n 160 (tEnd b n (plc b n k))
theorem plc_le (b : Nat → Int32) (n : Nat) : ∀ k, plc b n k ≤ n
  | 0 => (spn_le (c := blk) (by decide) 160 0 (Nat.zero_le _)).2
  | k + 1 => (spn_le (c := blk) (by decide) 160 _ (tEnd_le (b := b) (plc_le b n k)).2.1).2
theorem x_parts {b : Nat → Int32} {n : Nat} {X : hMem} (h : TXx b n X) (hb : ∀ i, i < 160 → h_ib (b i) 256) : ∃ X', fX5_partTokens X = some X' ∧ (∀ a, a ≠ 32 → a ≠ 33 → a ≠ 34 → X' a = X a) ∧ ∀ k, k ≤ 160 → (∀ j, j < k → tK b n (plc b n j) ≠ 0 ∧ tK b n (plc b n j) ≠ 1) → X' 32 k = tK b n (plc b n k) ∧ X' 33 k = nI (plc b n k) ∧ X' 34 k = tV b n (plc b n k) := by
  have hn := h.1
  unfold fX5_partTokens
  refine lp_u0 (body := fX5_partTokens_L6) 161 (fun i z => ∃ (p : Nat) (l : Int32) (Y : hMem), z = (nI p, nI i, l, Y) ∧ p ≤ n ∧ spn blk b n 160 p = plc b n i ∧ (i = 0 ∧ l = -1 ∨ 0 < i ∧ l = tK b n (plc b n (i - 1))) ∧ (∀ a, a ≠ 32 → a ≠ 33 → a ≠ 34 → Y a = X a) ∧ (∀ j, j < i → Y 32 j = tK b n (plc b n j) ∧ Y 33 j = nI (plc b n j) ∧ Y 34 j = tV b n (plc b n j))) _ (0, 0, -1, X) ⟨0, -1, X, rfl, by omega, rfl, Or.inl ⟨rfl, rfl⟩, fun _ _ _ _ => rfl, fun j hj => absurd hj (Nat.not_lt_zero _)⟩ (by omega) ?_ ?_
  · rintro k z ⟨p, l, Y, rfl, hp, hs, hl, hY, hR⟩
    unfold fX5_partTokens_L6
    dsimp only
    rw [if_pos (show (160 : Int32) < nI 161 from by decide)]
    exact ⟨_, rfl, hY, fun k hk _ => hR k (by omega)⟩
  · rintro k i z hi ⟨p, l, Y, rfl, hp, hs, hl, hY, hR⟩ hk
    unfold fX5_partTokens_L6
    dsimp only
    rw [if_neg (show ¬ (160 : Int32) < nI i from nI_nlt (a := 160) (by omega) (by omega))]
    by_cases l0 : l = 0
    · rw [if_pos l0]
      refine ⟨_, rfl, hY, fun k hk hall => ?_⟩
      by_cases hki : k < i
      · exact hR k hki
      · rcases hl with ⟨q1, q2⟩ | ⟨q1, q2⟩
        · rw [q2] at l0; exact absurd l0 (by decide)
        · exact absurd (q2.symm.trans l0) (hall (i - 1) (by omega)).1
    rw [if_neg l0]
    by_cases l1 : l = 1
    · rw [if_pos l1]
      refine ⟨_, rfl, hY, fun k hk hall => ?_⟩
      by_cases hki : k < i
      · exact hR k hki
      · rcases hl with ⟨q1, q2⟩ | ⟨q1, q2⟩
        · rw [q2] at l1; exact absurd l1 (by decide)
        · exact absurd (q2.symm.trans l1) (hall (i - 1) (by omega)).2
    have hT : TXx b n Y := ⟨hn, by rw [hY 30 (by omega) (by omega) (by omega)]; exact h.2.1, by rw [hY 31 (by omega) (by omega) (by omega)]; exact h.2.2⟩
    have hpl := plc_le b n i
    have hT2 : TXx b n (h_up (h_up Y 32 i (tK b n (plc b n i))) 33 i (nI (plc b n i))) := ⟨hn, by rw [m_row (by omega), m_row (by omega)]; exact hT.2.1, by rw [m_row (by omega), m_row (by omega)]; exact hT.2.2⟩
    have h161 : h_ib (nI i) 161 := ib_mk (by omega) (by omega)
    rw [if_neg l1, x_blanks hT (by omega), Option.bind_some, hs, x_tEnd hT (by omega), Option.bind_some, x_kind hT hb hpl, Option.bind_some]
    simp only [if_pos h161, nI_clamp (show i < 2 ^ 31 by omega)]
    rw [x_val hT2 hpl, Option.bind_some, nI_1]
    refine hk _ ⟨tEnd b n (plc b n i), tK b n (plc b n i), _, rfl, (tEnd_le hpl).2.1, rfl, Or.inr ⟨by omega, by rw [Nat.add_sub_cancel]⟩, fun a a1 a2 a3 => ?_, fun j hj => ?_⟩
    · rw [m_row a3, m_row a2, m_row a1]; exact hY a a1 a2 a3
    · simp (disch := omega) only [m_row, m_own]
      by_cases e : j = i
      · subst e; simp only [u_s]; exact ⟨trivial, trivial, trivial⟩
      · simp (disch := omega) only [u_n]; exact hR j (by omega)
