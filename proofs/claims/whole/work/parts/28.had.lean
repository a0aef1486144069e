/-! WHAT IS IN REACH -/
def nbB (c : Nat) (p : Nat → Bool) : Bool := (decide (c + 8 < 32) && p (c + 8)) || (decide (8 ≤ c) && p (c - 8)) || (decide (0 < c % 8) && p (c - 1)) || (decide (c % 8 < 7) && p (c + 1))
def rch (W : Int32) (c0 : Nat) : Nat → Nat → Bool
  | 0, c => decide (c = c0)
  | k + 1, c => rch W c0 k c || (nbB c (rch W c0 k) && !bt W c)
theorem rch_s (W : Int32) (c0 k c : Nat) : rch W c0 (k + 1) c = (rch W c0 k c || (nbB c (rch W c0 k) && !bt W c)) := rfl
theorem rch_mono {W : Int32} {c0 c : Nat} {k : Nat} (h : rch W c0 k c = true) : ∀ j, rch W c0 (k + j) c = true
  | 0 => h
  | j + 1 => by rw [← Nat.add_assoc, rch_s, rch_mono h j]; rfl
theorem rch_le {W : Int32} {c0 c k m : Nat} (h : rch W c0 k c = true) (hm : k ≤ m) : rch W c0 m c = true := by
  have := rch_mono h (m - k)
  rwa [show k + (m - k) = m from by omega] at this
/-- a square is reached by its neighbour, and that goes both ways -/
theorem nb_iff {c : Nat} (hc : c < 32) (p : Nat → Bool) : nbB c p = true ↔ ∃ b way, b < 32 ∧ way < 4 ∧ nbr b way = some c ∧ p b = true := by
  unfold nbB nbr
  simp only [Bool.or_eq_true, Bool.and_eq_true, decide_eq_true_eq]
  constructor
  · rintro (((⟨h1, h2⟩ | ⟨h1, h2⟩) | ⟨h1, h2⟩) | ⟨h1, h2⟩)
    · exact ⟨c + 8, 0, h1, by omega, by rw [if_pos rfl, if_pos (by omega)]; rfl, h2⟩
    · exact ⟨c - 8, 2, by omega, by omega, by rw [if_neg (by decide), if_neg (by decide), if_pos rfl, if_pos (by omega)]; congr 1; omega, h2⟩
    · exact ⟨c - 1, 1, by omega, by omega, by rw [if_neg (by decide), if_pos rfl, if_pos (by omega)]; congr 1; omega, h2⟩
    · exact ⟨c + 1, 3, by omega, by omega, by rw [if_neg (by decide), if_neg (by decide), if_neg (by decide), if_pos (by omega)]; rfl, h2⟩
  · rintro ⟨b, way, hb, hw, h, hp⟩
    rcases (by omega : way = 0 ∨ way = 1 ∨ way = 2 ∨ way = 3) with rfl | rfl | rfl | rfl
    · rw [if_pos rfl] at h
      split at h
      · cases h
        exact Or.inl (Or.inl (Or.inl ⟨by omega, by rw [show b - 8 + 8 = b from by omega]; exact hp⟩))
      · cases h
    · rw [if_neg (by decide), if_pos rfl] at h
      split at h
      · cases h
        exact Or.inl (Or.inr ⟨by omega, by rw [show b + 1 - 1 = b from by omega]; exact hp⟩)
      · cases h
    · rw [if_neg (by decide), if_neg (by decide), if_pos rfl] at h
      split at h
      · cases h
        exact Or.inl (Or.inl (Or.inr ⟨by omega, by rw [show b + 8 - 8 = b from by omega]; exact hp⟩))
      · cases h
    · rw [if_neg (by decide), if_neg (by decide), if_neg (by decide)] at h
      split at h
      · cases h
        exact Or.inr ⟨by omega, by rw [show b - 1 + 1 = b from by omega]; exact hp⟩
      · cases h
theorem bes_iff {W : Int32} {b way c : Nat} : besS W b way = some c ↔ nbr b way = some c ∧ bt W c = false := by
  unfold besS
  cases e : nbr b way with
  | none => simp
  | some d =>
    simp only []
    by_cases hb : bt W d = true
    · rw [if_pos hb]
      constructor
      · intro h; cases h
      · rintro ⟨h1, h2⟩; cases h1; rw [hb] at h2; cases h2
    · rw [if_neg hb]
      constructor
      · intro h; cases h; exact ⟨rfl, eq_false_of_ne_true hb⟩
      · rintro ⟨h1, h2⟩; exact h1
/-- first reached behind d -/
def fstA (W : Int32) (c0 d c : Nat) : Prop := rch W c0 d c = true ∧ ∀ k, k < d → rch W c0 k c = false
theorem fstA_one {W : Int32} {c0 d d' c : Nat} (h : fstA W c0 d c) (h' : fstA W c0 d' c) : d = d' := by
  rcases (by omega : d < d' ∨ d = d' ∨ d' < d) with g | g | g
  · exact absurd (h.1.symm.trans (h'.2 d g)) (by decide)
  · exact g
  · exact absurd (h'.1.symm.trans (h.2 d' g)) (by decide)
theorem fstA_pred {W : Int32} {c0 d c : Nat} (hc : c < 32) (h : fstA W c0 (d + 1) c) : ∃ b way, b < 32 ∧ way < 4 ∧ fstA W c0 d b ∧ besS W b way = some c := by
  obtain ⟨h1, h2⟩ := h
  rw [rch_s, h2 d (by omega), Bool.false_or, Bool.and_eq_true] at h1
  obtain ⟨b, way, hb, hw, hn, hr⟩ := (nb_iff hc _).mp h1.1
  have hW : bt W c = false := by cases hh : bt W c with | true => rw [hh] at h1; exact absurd h1.2 (by decide) | false => rfl
  refine ⟨b, way, hb, hw, ⟨hr, fun k hk => ?_⟩, bes_iff.mpr ⟨hn, hW⟩⟩
  cases hk2 : rch W c0 k b with
  | false => rfl
  | true =>
    exfalso
    have : rch W c0 (k + 1) c = true := by
      rw [rch_s, (nb_iff hc _).mpr ⟨b, way, hb, hw, hn, hk2⟩, hW]
      simp
    rw [h2 (k + 1) (by omega)] at this
    cases this
theorem fstA_all {W : Int32} {c0 : Nat} : ∀ {d c : Nat}, c < 32 → fstA W c0 d c → ∀ j, j ≤ d → ∃ b, b < 32 ∧ fstA W c0 j b
  | 0, c, hc, h, j, hj => ⟨c, hc, by rw [show j = 0 from by omega]; exact h⟩
  | d + 1, c, hc, h, j, hj => by
    rcases (by omega : j = d + 1 ∨ j ≤ d) with g | g
    · exact ⟨c, hc, by rw [g]; exact h⟩
    · obtain ⟨b, way, hb, hw, h1, -⟩ := fstA_pred hc h
      exact fstA_all hb h1 j g
theorem fstA_le {W : Int32} {c0 d c : Nat} (hc : c < 32) (h : fstA W c0 d c) : d ≤ 31 := by
  have hall := fstA_all hc h
  have hf : ∀ j, ∃ b, j ≤ d → b < 32 ∧ fstA W c0 j b := fun j => by
    by_cases hj : j ≤ d
    · obtain ⟨b, h1⟩ := hall j hj; exact ⟨b, fun _ => h1⟩
    · exact ⟨0, fun hh => absurd hh hj⟩
  have := fb_holes 32 (d + 1) (fun j => Classical.choose (hf j)) (fun i hi => (Classical.choose_spec (hf i) (by omega)).1) (fun i j hij hj he => by
    have a1 := (Classical.choose_spec (hf i) (by omega)).2
    have a2 := (Classical.choose_spec (hf j) (by omega)).2
    rw [he] at a1
    have := fstA_one a1 a2
    omega)
  omega
theorem rch_fst {W : Int32} {c0 c : Nat} : ∀ {k : Nat}, rch W c0 k c = true → ∃ d, d ≤ k ∧ fstA W c0 d c
  | 0, h => ⟨0, Nat.le_refl _, h, fun k hk => absurd hk (Nat.not_lt_zero _)⟩
  | k + 1, h => by
    cases hk : rch W c0 k c with
    | true => obtain ⟨d, d1, d2⟩ := rch_fst hk; exact ⟨d, by omega, d2⟩
    | false => exact ⟨k + 1, Nat.le_refl _, h, fun j hj => by
        cases hj2 : rch W c0 j c with
        | false => rfl
        | true => rw [rch_le hj2 (by omega)] at hk; cases hk⟩
/-! x's reach -/
theorem edges : ∀ i, i < 32 → bt 2139062143 i = decide (i % 8 < 7) ∧ bt (-16843010) i = decide (0 < i % 8) := by decide +kernel
theorem x_grow {W S : Int32} {c0 k : Nat} (hS : ∀ c, c < 32 → bt S c = rch W c0 k c) : ∀ c, c < 32 → bt (S ||| (((((h_ushr S 8) ||| (S <<< (8 &&& 31))) ||| ((S &&& 2139062143) <<< (1 &&& 31))) ||| (h_ushr (S &&& (-16843010)) 1)) &&& (W ^^^ (-1)))) c = rch W c0 (k + 1) c := by
  intro c hc
  rw [rch_s, b_or, b_and, b_xor, b_m1 c hc, b_or, b_or, b_or, show bt (h_ushr S 8) c = bt S (8 + c) from b_ushr 8 (by decide) S c, show bt (S <<< ((8 : Int32) &&& 31)) c = _ from b_shl 8 (by decide) S hc, show bt ((S &&& 2139062143) <<< ((1 : Int32) &&& 31)) c = _ from b_shl 1 (by decide) _ hc, show bt (h_ushr (S &&& (-16843010)) 1) c = _ from b_ushr 1 (by decide) _ c, hS c hc, Bool.xor_true]
  congr 2
  unfold nbB
  congr 1
  · congr 1
    · congr 1
      · by_cases h : c + 8 < 32
        · rw [decide_eq_true h, Bool.true_and, Nat.add_comm 8 c, hS _ h]
        · rw [decide_eq_false h, Bool.false_and, b_big (by omega)]
      · by_cases h : 8 ≤ c
        · rw [hS _ (by omega)]
        · rw [decide_eq_false h, Bool.false_and, Bool.false_and]
    · by_cases h : 1 ≤ c
      · rw [decide_eq_true h, Bool.true_and, b_and, (edges (c - 1) (by omega)).1, hS _ (by omega)]
        by_cases g : 0 < c % 8
        · rw [decide_eq_true g, decide_eq_true (by omega), Bool.true_and, Bool.and_true]
        · rw [decide_eq_false g, decide_eq_false (by omega), Bool.false_and, Bool.and_false]
      · rw [decide_eq_false h, Bool.false_and, decide_eq_false (by omega), Bool.false_and]
  · rw [b_and, Nat.add_comm 1 c]
    by_cases g : c % 8 < 7
    · rw [decide_eq_true g, Bool.true_and, (edges (c + 1) (by omega)).2, decide_eq_true (by omega), Bool.and_true, hS _ (by omega)]
    · rw [decide_eq_false g, Bool.false_and]
      by_cases h : c + 1 < 32
      · rw [(edges (c + 1) h).2, decide_eq_false (by omega), Bool.and_false]
      · rw [b_big (by omega), Bool.false_and]
theorem x_spread {X : hMem} {W S : Int32} {c0 j k : Nat} (hW : X 40 0 = W) (hS : ∀ c, c < 32 → bt S c = rch W c0 j c) (hk : k ≤ 10) : ∃ S', fX8_spread S (nI k) X = some S' ∧ ∀ c, c < 32 → bt S' c = rch W c0 (j + k) c := by
  unfold fX8_spread
  obtain ⟨r, g1, g2⟩ := lp_u0 (body := fX8_spread_L5 (nI k) X) k (fun i z => ∃ V, z = (V, nI i) ∧ ∀ c, c < 32 → bt V c = rch W c0 (j + i) c) (fun r => ∀ c, c < 32 → bt r c = rch W c0 (j + k) c) (S, 0) ⟨S, rfl, hS⟩ (by omega) (by
    rintro kk z ⟨V, rfl, hV⟩
    unfold fX8_spread_L5
    dsimp only
    rw [if_pos (nI_le (Nat.le_refl _) (by omega))]
    exact ⟨_, rfl, hV⟩) (by
    rintro kk i z hi ⟨V, rfl, hV⟩ hkk
    unfold fX8_spread_L5
    dsimp only
    rw [if_neg (nI_ge hi (by omega)), nI_1, hW]
    exact hkk _ ⟨_, rfl, x_grow hV⟩)
  exact ⟨r, g1, g2⟩
/-- had: the first second from m on -/
def hadS (W : Int32) (c0 m pace reach : Nat) (sq : Nat → Nat) : Option Nat := frst (fun n => rch W c0 (reach + pace * (n - m)) (sq n)) (25 - m) m
theorem x_had {X : hMem} {W : Int32} {a : Nat} {s : Nat → Nat × Nat} (hW : X 40 0 = W) (ha : isPath a) (hp : ∀ n, n ≤ 24 → X a n = nI (stN (s n)) ∧ (s n).1 < 32 ∧ (s n).2 < 3) {c0 m pace reach : Nat} (hc : c0 < 32) (hm : m ≤ 25) (hpa : pace ≤ 4) (hre : reach ≤ 3) : fX8_had a (nI c0) (nI m) (nI pace) (nI reach) X = some (ansI (hadS W c0 m pace reach (fun n => (s n).1))) := by
  unfold fX8_had
  have hB : h_isB hYx a 10 25 = true := by
    unfold isPath at ha
    rcases (by omega : a = 47 ∨ a = 51 ∨ a = 52 ∨ a = 53 ∨ a = 54) with rfl | rfl | rfl | rfl | rfl <;> rfl
  rw [if_pos hB]
  obtain ⟨S', e1, e2⟩ := x_spread (S := 1 <<< (nI c0 &&& 31)) (c0 := c0) (j := 0) (k := reach) hW (fun c hcc => b_pow hc hcc) (by omega)
  rw [e1, Option.bind_some]
  obtain ⟨r, g1, g2⟩ := lp_up (body := fX8_had_L14 a (nI pace) X) 25 (fun i z => ∃ V, z = (V, nI i) ∧ m ≤ i ∧ (∀ c, c < 32 → bt V c = rch W c0 (reach + pace * (i - m)) c) ∧ frst (fun n => rch W c0 (reach + pace * (n - m)) (s n).1) (25 - i) i = hadS W c0 m pace reach (fun n => (s n).1)) (fun r => r = ansI (hadS W c0 m pace reach (fun n => (s n).1))) (by
    rintro k z ⟨V, rfl, -, hV, hf⟩
    unfold fX8_had_L14
    dsimp only
    rw [if_pos (by decide)]
    exact ⟨_, rfl, by rw [← hf]; rfl⟩) (by
    rintro k i z hi ⟨V, rfl, hmi, hV, hf⟩ hk
    unfold fX8_had_L14
    dsimp only
    obtain ⟨p1, p2, p3⟩ := hp i (by omega)
    rw [if_neg (show ¬ (24 : Int32) < nI i from nI_nlt (b := i) (a := 24) (by omega) (by decide)), if_pos (ib_mk hi (by decide))]
    simp only [nI_clamp (show i < 2 ^ 31 by omega), p1]
    rw [x_sqS p2 p3, bit_u _ p2, b01, hV _ p2]
    obtain ⟨t, ht⟩ : ∃ t, 25 - i = t + 1 := ⟨24 - i, by omega⟩
    rw [ht, frst_s] at hf
    by_cases hb : rch W c0 (reach + pace * (i - m)) (s i).1 = true
    · rw [if_pos hb] at hf ⊢; exact ⟨_, rfl, by rw [← hf]; rfl⟩
    · rw [if_neg hb] at hf ⊢
      obtain ⟨V2, f1, f2⟩ := x_spread (S := V) (c0 := c0) (k := pace) hW hV (by omega)
      rw [f1, Option.bind_some, nI_1]
      refine hk _ ⟨V2, rfl, by omega, ?_, by rw [show 25 - (i + 1) = t from by omega]; exact hf⟩
      intro c hcc
      rw [f2 c hcc]
      congr 1
      rw [show i + 1 - m = (i - m) + 1 from by omega, Nat.mul_add]
      omega) h_FU m (S', nI m) hm ⟨S', rfl, Nat.le_refl _, fun c hcc => by rw [e2 c hcc, Nat.sub_self, Nat.mul_zero, Nat.zero_add, Nat.add_zero], rfl⟩ (by unfold h_FU; omega)
  rw [g1, g2]
/-! the other one's -/
/-- what row 23 holds behind n rounds -/
def farI (W : Int32) (c0 n : Nat) (v : Int32) (c : Nat) : Prop := (∃ d, d ≤ n ∧ v = nI d ∧ fstA W c0 d c) ∨ (v = -1 ∧ rch W c0 n c = false)
def kF (M M' : hMem) : Prop := ∀ a, a ≠ 23 → M' a = M a
theorem kF.rf (M : hMem) : kF M M := fun _ _ => rfl
theorem kF.tr {X Y Z : hMem} (h : kF X Y) (g : kF Y Z) : kF X Z := fun a ha => (g a ha).trans (h a ha)
theorem kF.Q {M M' : hMem} (k : kF M M') : kQ M M' := ⟨fun a h => k a (by omega), fun j _ _ => by rw [k 0 (by omega)]⟩
/-- one pass over squares and ways: those beside the front are told n + 1 -/
theorem m_pass {M : hMem} {W : Int32} (hW : M 1 0 = W) {c0 n : Nat} (hn : n < 32) (hf : ∀ c, c < 32 → farI W c0 n (M 23 c) c) (k32 : Int32 × hMem → Option hMem) : ∃ M', h_lp (fX10_spreads_L40 k32 (nI n)) h_FU (0, M) = k32 (nI (n + 1), M') ∧ kF M M' ∧ ∀ c, c < 32 → farI W c0 (n + 1) (M' 23 c) c := by
  have key : ∀ (m i : Nat) (Y : hMem), i ≤ 128 → 128 - i < m → kF M Y → (∀ c, c < 32 → (¬ M 23 c = -1 ∧ Y 23 c = M 23 c) ∨ (M 23 c = -1 ∧ ((Y 23 c = nI (n + 1) ∧ ∃ j, j < i ∧ M 23 (j / 4) = nI n ∧ besS W (j / 4) (j % 4) = some c) ∨ (Y 23 c = -1 ∧ ∀ j, j < i → M 23 (j / 4) = nI n → ¬ besS W (j / 4) (j % 4) = some c)))) → ∃ M', h_lp (fX10_spreads_L40 k32 (nI n)) m (nI i, Y) = k32 (nI (n + 1), M') ∧ kF M M' ∧ ∀ c, c < 32 → (¬ M 23 c = -1 ∧ M' 23 c = M 23 c) ∨ (M 23 c = -1 ∧ ((M' 23 c = nI (n + 1) ∧ ∃ j, j < 128 ∧ M 23 (j / 4) = nI n ∧ besS W (j / 4) (j % 4) = some c) ∨ (M' 23 c = -1 ∧ ∀ j, j < 128 → M 23 (j / 4) = nI n → ¬ besS W (j / 4) (j % 4) = some c))) := by
    intro m
    induction m with
    | zero => intro i Y _ h0; exact absurd h0 (Nat.not_lt_zero _)
    | succ m ih =>
      intro i Y hi hm kY hY
      rw [lp_s]
      generalize hg : h_lp (fX10_spreads_L40 k32 (nI n)) m = kk at *
      unfold fX10_spreads_L40
      dsimp only
      rcases Nat.lt_or_ge i 128 with hlt | hge
      · have d4 : nI i / 4 = nI (i / 4) := pk_div (d := 4) (by omega) (by decide) (by decide)
        have r4 : h_rem (nI i) 4 = nI (i % 4) := n_rem (d := 4) (by omega) (by decide) (by decide)
        have hb32 : i / 4 < 32 := by omega
        rw [if_neg (show ¬ (128 : Int32) ≤ nI i from nI_ge (b := 128) hlt (by decide)), d4, r4, if_pos (ib_mk hb32 (by decide))]
        simp only [nI_clamp (show i / 4 < 2 ^ 31 by omega)]
        have fr : Y 23 (i / 4) = nI n ↔ M 23 (i / 4) = nI n := by
          rcases hY (i / 4) hb32 with ⟨a1, a2⟩ | ⟨a1, ⟨a2, -⟩ | ⟨a2, -⟩⟩
          · rw [a2]
          · rw [a2, a1]
            exact ⟨fun h => absurd ((nI_eq (by omega) (by omega)).mp h) (by omega), fun h => absurd h (n_m1' (by omega))⟩
          · rw [a2, a1]
        -- nothing is told at i
        have none_ : (M 23 (i / 4) = nI n → ∀ c, c < 32 → besS W (i / 4) (i % 4) = some c → ¬ Y 23 c = -1) → ∃ M', kk (nI i + 1, Y) = k32 (nI (n + 1), M') ∧ kF M M' ∧ ∀ c, c < 32 → (¬ M 23 c = -1 ∧ M' 23 c = M 23 c) ∨ (M 23 c = -1 ∧ ((M' 23 c = nI (n + 1) ∧ ∃ j, j < 128 ∧ M 23 (j / 4) = nI n ∧ besS W (j / 4) (j % 4) = some c) ∨ (M' 23 c = -1 ∧ ∀ j, j < 128 → M 23 (j / 4) = nI n → ¬ besS W (j / 4) (j % 4) = some c))) := by
          intro hno
          rw [nI_1]
          refine ih (i + 1) Y hlt (by omega) kY (fun c hc => ?_)
          rcases hY c hc with a | ⟨a1, ⟨a2, j, j1, j2, j3⟩ | ⟨a2, a3⟩⟩
          · exact Or.inl a
          · exact Or.inr ⟨a1, Or.inl ⟨a2, j, by omega, j2, j3⟩⟩
          · refine Or.inr ⟨a1, Or.inr ⟨a2, fun j hj e1 e2 => ?_⟩⟩
            rcases (by omega : j < i ∨ j = i) with g | g
            · exact a3 j g e1 e2
            · subst g; exact hno e1 c hc e2 a2
        by_cases hfr : Y 23 (i / 4) = nI n
        · rw [if_pos hfr, m_bes (W := W) (by rw [kY 1 (by omega)]; exact hW) hb32 (by omega), Option.bind_some]
          unfold fX10_spreads_L73
          cases eb : besS W (i / 4) (i % 4) with
          | none =>
            simp only [if_true]
            exact none_ (fun _ c _ h => by rw [eb] at h; cases h)
          | some d =>
            have hd := besS_lt hb32 eb
            simp only []
            rw [if_neg (n_m1 (by omega)), if_pos (ib_mk hd (by decide)), if_pos (ib_mk hd (by decide))]
            simp only [nI_clamp (show d < 2 ^ 31 by omega)]
            by_cases hu : Y 23 d = -1
            · rw [if_pos hu, nI_1, nI_1]
              refine ih (i + 1) _ hlt (by omega) (kY.tr (fun a ha => m_row ha)) (fun c hc => ?_)
              rw [m_own]
              by_cases e : c = d
              · subst e
                rw [u_s]
                rcases hY c hc with ⟨a1, a2⟩ | ⟨a1, -⟩
                · rw [a2] at hu; exact absurd hu a1
                · exact Or.inr ⟨a1, Or.inl ⟨rfl, i, by omega, fr.mp hfr, eb⟩⟩
              · rw [u_n e]
                rcases hY c hc with a | ⟨a1, ⟨a2, j, j1, j2, j3⟩ | ⟨a2, a3⟩⟩
                · exact Or.inl a
                · exact Or.inr ⟨a1, Or.inl ⟨a2, j, by omega, j2, j3⟩⟩
                · refine Or.inr ⟨a1, Or.inr ⟨a2, fun j hj e1 e2 => ?_⟩⟩
                  rcases (by omega : j < i ∨ j = i) with g | g
                  · exact a3 j g e1 e2
                  · subst g; rw [eb] at e2; cases e2; exact e rfl
            · rw [if_neg hu]
              exact none_ (fun _ c _ h => by rw [eb] at h; cases h; exact hu)
        · rw [if_neg hfr]
          unfold fX10_spreads_L73
          rw [if_pos rfl]
          exact none_ (fun h => absurd (fr.mpr h) hfr)
      · have h128 : i = 128 := by omega
        subst h128
        rw [if_pos (by decide), nI_1]
        exact ⟨Y, rfl, kY, hY⟩
  obtain ⟨M', g1, g2, g3⟩ := key h_FU 0 M (by omega) (by unfold h_FU; omega) (kF.rf M) (fun c hc => by
    by_cases h : M 23 c = -1
    · exact Or.inr ⟨h, Or.inr ⟨h, fun j hj => absurd hj (Nat.not_lt_zero _)⟩⟩
    · exact Or.inl ⟨h, rfl⟩)
  refine ⟨M', g1, g2, fun c hc => ?_⟩
  rcases g3 c hc with ⟨a1, a2⟩ | ⟨a1, ⟨a2, j, j1, j2, j3⟩ | ⟨a2, a3⟩⟩
  · rw [a2]
    rcases hf c hc with ⟨d, d1, d2, d3⟩ | ⟨d1, -⟩
    · exact Or.inl ⟨d, by omega, d2, d3⟩
    · exact absurd d1 a1
  · rw [a2]
    left
    refine ⟨n + 1, Nat.le_refl _, rfl, ?_, fun k hk => ?_⟩
    · rcases hf (j / 4) (by omega) with ⟨d, d1, d2, d3⟩ | ⟨d1, -⟩
      · have : d = n := (nI_eq (by omega) (by omega)).mp (d2.symm.trans j2)
        subst this
        obtain ⟨b1, b2⟩ := bes_iff.mp j3
        rw [rch_s, (nb_iff hc _).mpr ⟨j / 4, j % 4, by omega, by omega, b1, d3.1⟩, b2]
        simp
      · rw [d1] at j2; exact absurd j2 (n_m1' (by omega))
    · rcases hf c hc with ⟨d, d1, d2, d3⟩ | ⟨-, d2⟩
      · rw [d2] at a1; exact absurd a1 (n_m1 (by omega))
      · cases hr : rch W c0 k c with
        | false => rfl
        | true => rw [rch_le hr (by omega)] at d2; cases d2
  · rw [a2]
    right
    refine ⟨rfl, ?_⟩
    cases hr : rch W c0 (n + 1) c with
    | false => rfl
    | true =>
      exfalso
      rcases hf c hc with ⟨d, d1, d2, d3⟩ | ⟨-, d2⟩
      · rw [d2] at a1; exact absurd a1 (n_m1 (by omega))
      · have hfst : fstA W c0 (n + 1) c := ⟨hr, fun k hk => by
          cases hr2 : rch W c0 k c with
          | false => rfl
          | true => rw [rch_le hr2 (by omega)] at d2; cases d2⟩
        obtain ⟨b, way, hb, hw, h1, h2⟩ := fstA_pred hc hfst
        refine a3 (4 * b + way) (by omega) ?_ ?_
        · rw [show (4 * b + way) / 4 = b from by omega]
          rcases hf b hb with ⟨d, e1, e2, e3⟩ | ⟨-, e2⟩
          · rw [e2, fstA_one e3 h1]
          · rw [h1.1] at e2; cases e2
        · rw [show (4 * b + way) / 4 = b from by omega, show (4 * b + way) % 4 = way from by omega]; exact h2
theorem m_spreads {M : hMem} {W : Int32} (hW : M 1 0 = W) {c0 : Nat} (hc : c0 < 32) : ∃ M', fX10_spreads (nI c0) M = some M' ∧ kF M M' ∧ ∀ c, c < 32 → (∃ d, d ≤ 31 ∧ M' 23 c = nI d ∧ fstA W c0 d c) ∨ (M' 23 c = -1 ∧ ∀ k, rch W c0 k c = false) := by
  unfold fX10_spreads
  have L32 : ∀ Y : hMem, kF M Y → (∀ c, c < 32 → farI W c0 0 (Y 23 c) c) → ∃ r, h_lp fX10_spreads_L32 h_FU (0, Y) = some r ∧ (kF M r ∧ ∀ c, c < 32 → farI W c0 32 (r 23 c) c) := by
    intro Y kY hY
    refine lp_u0 (body := fX10_spreads_L32) 32 (fun i z => ∃ Y : hMem, z = (nI i, Y) ∧ kF M Y ∧ ∀ c, c < 32 → farI W c0 i (Y 23 c) c) _ (0, Y) ⟨Y, rfl, kY, hY⟩ (by decide) ?_ ?_
    · rintro k z ⟨Y, rfl, kY, hY⟩
      unfold fX10_spreads_L32
      dsimp only
      rw [if_pos (by decide)]
      exact ⟨_, rfl, kY, hY⟩
    · rintro k i z hi ⟨Y, rfl, kY, hY⟩ hk
      unfold fX10_spreads_L32
      dsimp only
      rw [if_neg (show ¬ (32 : Int32) ≤ nI i from nI_ge (b := 32) hi (by decide))]
      obtain ⟨M', e1, e2, e3⟩ := m_pass (M := Y) (by rw [kY 1 (by omega)]; exact hW) hi hY k
      rw [e1]
      exact hk _ ⟨M', rfl, kY.tr e2, e3⟩
  obtain ⟨r, g1, g2, g3⟩ := lp_u0 (body := fX10_spreads_L2 (nI c0)) 32 (fun i z => ∃ Y : hMem, z = (nI i, Y) ∧ kF M Y ∧ ∀ c, c < i → farI W c0 0 (Y 23 c) c) (fun r => kF M r ∧ ∀ c, c < 32 → farI W c0 32 (r 23 c) c) (0, M) ⟨M, rfl, kF.rf M, fun c hc => absurd hc (Nat.not_lt_zero _)⟩ (by decide) (by
    rintro k z ⟨Y, rfl, kY, hY⟩
    unfold fX10_spreads_L2
    dsimp only
    rw [if_pos (by decide)]
    exact L32 Y kY hY) (by
    rintro k i z hi ⟨Y, rfl, kY, hY⟩ hk
    unfold fX10_spreads_L2
    dsimp only
    rw [if_neg (show ¬ (32 : Int32) ≤ nI i from nI_ge (b := 32) hi (by decide)), nI_1, if_pos (ib_mk hi (by decide)), if_pos (ib_mk hi (by decide)), nI_clamp (by omega)]
    by_cases e : i = c0
    · rw [if_pos (by rw [e])]
      refine hk _ ⟨_, rfl, kY.tr (fun a ha => m_row ha), fun c hcc => ?_⟩
      rw [m_own]
      by_cases g : c = i
      · rw [g, u_s]; exact Or.inl ⟨0, Nat.le_refl _, rfl, by show decide (i = c0) = true; exact decide_eq_true e, fun k hk => absurd hk (Nat.not_lt_zero _)⟩
      · rw [u_n g]; exact hY c (by omega)
    · rw [if_neg (nI_neq c0 (by omega) (by omega) e)]
      refine hk _ ⟨_, rfl, kY.tr (fun a ha => m_row ha), fun c hcc => ?_⟩
      rw [m_own]
      by_cases g : c = i
      · rw [g, u_s]; exact Or.inr ⟨rfl, by show decide (i = c0) = false; exact decide_eq_false e⟩
      · rw [u_n g]; exact hY c (by omega))
  refine ⟨r, g1, g2, fun c hcc => ?_⟩
  rcases g3 c hcc with ⟨d, d1, d2, d3⟩ | ⟨d1, d2⟩
  · exact Or.inl ⟨d, fstA_le hcc d3, d2, d3⟩
  · refine Or.inr ⟨d1, fun k => ?_⟩
    cases hr : rch W c0 k c with
    | false => rfl
    | true =>
      obtain ⟨d, e1, e2⟩ := rch_fst hr
      have := fstA_le hcc e2
      rw [rch_le e2.1 (by omega)] at d2; cases d2
