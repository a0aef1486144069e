/-! TEXT: bytes and blanks -/
def bA (b : Nat → Int32) (n i : Nat) : Int32 := if i < n then b i else -1
def blk (v : Int32) : Bool := decide (v = 32) || decide (v = 10)
def dig (v : Int32) : Bool := !decide (v < 48) && !decide (57 < v)
def ltr (v : Int32) : Bool := !decide (v < 97) && !decide (122 < v)
/-- over the bytes of a class -/
def spn (c : Int32 → Bool) (b : Nat → Int32) (n : Nat) : Nat → Nat → Nat
  | 0, i => i
  | f + 1, i => if c (bA b n i) = true then spn c b n f (i + 1) else i
theorem spn_s (c : Int32 → Bool) (b : Nat → Int32) (n f i : Nat) : spn c b n (f + 1) i = if c (bA b n i) = true then spn c b n f (i + 1) else i := rfl
theorem spn_out {c : Int32 → Bool} (hc : c (-1) = false) {b : Nat → Int32} {n i : Nat} (h : n ≤ i) : ∀ f, spn c b n f i = i
  | 0 => rfl
  | f + 1 => by
    rw [spn_s, show bA b n i = -1 from if_neg (by omega), hc]
    exact if_neg (by decide)
theorem spn_f {c : Int32 → Bool} (hc : c (-1) = false) {b : Nat → Int32} {n : Nat} : ∀ (f i : Nat), n - i ≤ f → spn c b n f i = spn c b n (n - i) i
  | 0, i, h => by rw [show n - i = 0 from by omega]
  | f + 1, i, h => by
    by_cases hi : n ≤ i
    · rw [spn_out hc hi, spn_out hc hi]
    · rw [show n - i = (n - (i + 1)) + 1 from by omega, spn_s, spn_s, spn_f hc f (i + 1) (by omega)]
theorem spn_le {c : Int32 → Bool} (hc : c (-1) = false) {b : Nat → Int32} {n : Nat} : ∀ (f i : Nat), i ≤ n → i ≤ spn c b n f i ∧ spn c b n f i ≤ n
  | 0, i, h => ⟨Nat.le_refl _, h⟩
  | f + 1, i, h => by
    rw [spn_s]
    by_cases hi : n ≤ i
    · rw [show bA b n i = -1 from if_neg (by omega), hc, if_neg (by decide)]; exact ⟨Nat.le_refl _, h⟩
    · by_cases h2 : c (bA b n i) = true
      · rw [if_pos h2]
        have := spn_le hc f (i + 1) (b := b) (n := n) (by omega)
        omega
      · rw [if_neg h2]; exact ⟨Nat.le_refl _, h⟩
def TXx (b : Nat → Int32) (n : Nat) (X : hMem) : Prop := n ≤ 160 ∧ X 30 0 = nI n ∧ X 31 = b
theorem x_byte {b : Nat → Int32} {n : Nat} {X : hMem} (h : TXx b n X) {i : Nat} (hi : i < 2 ^ 31) : fX5_byteAt (nI i) X = some (bA b n i) := by
  obtain ⟨h1, h2, h3⟩ := h
  unfold fX5_byteAt bA
  rw [if_neg (nI_pos hi), h2, h3]
  by_cases c : i < n
  · rw [if_neg (nI_ge c (by omega)), if_pos (ib_mk (by omega) (by omega)), nI_clamp (by omega), if_pos c]
  · rw [if_pos (nI_le (by omega) hi), if_neg c]
theorem x_dig (v : Int32) (X : hMem) : fX5_isDigit v X = if dig v = true then 1 else 0 := by
  unfold fX5_isDigit dig
  by_cases c1 : v < 48
  · rw [if_pos c1, decide_eq_true c1]; rfl
  · rw [if_neg c1, decide_eq_false c1]
    by_cases c2 : 57 < v
    · rw [if_pos c2, decide_eq_true c2]; rfl
    · rw [if_neg c2, decide_eq_false c2]; rfl
theorem x_ltr (v : Int32) (X : hMem) : fX5_isLetter v X = if ltr v = true then 1 else 0 := by
  unfold fX5_isLetter ltr
  by_cases c1 : v < 97
  · rw [if_pos c1, decide_eq_true c1]; rfl
  · rw [if_neg c1, decide_eq_false c1]
    by_cases c2 : 122 < v
    · rw [if_pos c2, decide_eq_true c2]; rfl
    · rw [if_neg c2, decide_eq_false c2]; rfl
theorem m_dig (v : Int32) (M : hMem) : fX10_in v 48 57 M = if dig v = true then 1 else 0 := x_dig v M
theorem m_ltr (v : Int32) (M : hMem) : fX10_in v 97 122 M = if ltr v = true then 1 else 0 := x_ltr v M
theorem x_blanks {b : Nat → Int32} {n : Nat} {X : hMem} (h : TXx b n X) {i : Nat} (hi : i < 2 ^ 30) : fX5_behindBlanks (nI i) X = some (nI (spn blk b n 160 i)) := by
  unfold fX5_behindBlanks
  obtain ⟨r, r1, r2⟩ := lp_u0 (body := fX5_behindBlanks_L4 X) 160 (fun k z => (∃ p, p < i + 161 ∧ z = (nI p, nI k) ∧ p = i + k ∧ spn blk b n (160 - k) p = spn blk b n 160 i)) (fun r => r = nI (spn blk b n 160 i)) (nI i, 0) ⟨i, by omega, rfl, rfl, rfl⟩ (by omega) (by
    rintro k z ⟨p, hp, rfl, hp2, hs⟩
    unfold fX5_behindBlanks_L4
    dsimp only
    rw [if_pos (show (160 : Int32) ≤ nI 160 from by decide)]
    rw [Nat.sub_self] at hs
    exact ⟨_, rfl, by rw [← hs]; rfl⟩) (by
    rintro k j z hj ⟨p, hp, rfl, hp2, hs⟩ hk
    unfold fX5_behindBlanks_L4
    dsimp only
    rw [if_neg (show ¬ (160 : Int32) ≤ nI j from nI_ge (b := 160) hj (by decide)), x_byte h (by omega), Option.bind_some, Option.bind_some, nI_1, nI_1]
    rw [show 160 - j = (160 - (j + 1)) + 1 from by omega, spn_s] at hs
    unfold blk at hs
    by_cases c1 : bA b n p = 32
    · rw [if_pos c1]
      rw [decide_eq_true c1, Bool.true_or, if_pos rfl] at hs
      exact hk _ ⟨p + 1, by omega, rfl, by omega, hs⟩
    · rw [if_neg c1]
      rw [decide_eq_false c1, Bool.false_or] at hs
      by_cases c2 : bA b n p = 10
      · rw [if_pos c2]
        rw [decide_eq_true c2, if_pos rfl] at hs
        exact hk _ ⟨p + 1, by omega, rfl, by omega, hs⟩
      · rw [if_neg c2]
        rw [decide_eq_false c2, if_neg (by decide)] at hs
        exact ⟨_, rfl, by rw [hs]; rfl⟩)
  rw [r1, r2]
theorem x_span {b : Nat → Int32} {n : Nat} {X : hMem} (h : TXx b n X) {f : Int32} {c : Int32 → Bool} (hf : (f = 0 ∧ c = dig) ∨ (f = 1 ∧ c = ltr)) {i : Nat} (hi : i < 2 ^ 30) : h_lp (fX5_tokenEnd_L38 f X) h_FU (nI i, 0) = some (nI (spn c b n 160 i)) := by
  obtain ⟨r, r1, r2⟩ := lp_u0 (body := fX5_tokenEnd_L38 f X) 160 (fun k z => (∃ p, p < i + 161 ∧ z = (nI p, nI k) ∧ p = i + k ∧ spn c b n (160 - k) p = spn c b n 160 i)) (fun r => r = nI (spn c b n 160 i)) (nI i, 0) ⟨i, by omega, rfl, rfl, rfl⟩ (by omega) (by
    rintro k z ⟨p, hp, rfl, hp2, hs⟩
    unfold fX5_tokenEnd_L38
    dsimp only
    rw [if_pos (show (160 : Int32) ≤ nI 160 from by decide)]
    rw [Nat.sub_self] at hs
    exact ⟨_, rfl, by rw [← hs]; rfl⟩) (by
    rintro k j z hj ⟨p, hp, rfl, hp2, hs⟩ hk
    unfold fX5_tokenEnd_L38
    dsimp only
    rw [if_neg (show ¬ (160 : Int32) ≤ nI j from nI_ge (b := 160) hj (by decide)), x_byte h (by omega), Option.bind_some, Option.bind_some, nI_1, nI_1, x_dig, x_ltr, b01, b01]
    rw [show 160 - j = (160 - (j + 1)) + 1 from by omega, spn_s] at hs
    rcases hf with ⟨rfl, rfl⟩ | ⟨rfl, rfl⟩
    · rw [if_pos rfl]
      by_cases c1 : dig (bA b n p) = true
      · rw [if_pos c1]
        rw [if_pos c1] at hs
        exact hk _ ⟨p + 1, by omega, rfl, by omega, hs⟩
      · rw [if_neg c1]
        rw [if_neg c1] at hs
        exact ⟨_, rfl, by rw [hs]⟩
    · rw [if_neg (show ¬ (1 : Int32) = 0 from by decide)]
      by_cases c1 : ltr (bA b n p) = true
      · rw [if_pos c1]
        rw [if_pos c1] at hs
        exact hk _ ⟨p + 1, by omega, rfl, by omega, hs⟩
      · rw [if_neg c1]
        rw [if_neg c1] at hs
        exact ⟨_, rfl, by rw [hs]⟩)
  rw [r1, r2]
/-- where a token that begins at i ends -/
def tEnd (b : Nat → Int32) (n i : Nat) : Nat := if ltr (bA b n i) = true then spn ltr b n 160 (i + 1) else if dig (bA b n i) = true then spn dig b n 160 (i + 1) else min (i + 1) n
theorem bA_in {c : Int32 → Bool} (hc : c (-1) = false) {b : Nat → Int32} {n i : Nat} (h : c (bA b n i) = true) : i < n := by
  rcases Nat.lt_or_ge i n with h1 | h1
  · exact h1
  · rw [show bA b n i = -1 from if_neg (by omega), hc] at h; cases h
theorem x_tEnd {b : Nat → Int32} {n : Nat} {X : hMem} (h : TXx b n X) {i : Nat} (hi : i < 2 ^ 29) : fX5_tokenEnd (nI i) X = some (nI (tEnd b n i)) := by
  have hn := h.1
  unfold fX5_tokenEnd tEnd
  rw [x_byte h (by omega), Option.bind_some, Option.bind_some, x_ltr, x_dig, b01, b01, nI_1, h.2.1, fj_min _ _ (by omega) (by omega)]
  by_cases c1 : ltr (bA b n i) = true
  · have := bA_in (c := ltr) (by decide) c1
    rw [if_pos c1, if_pos c1, if_pos c1, x_span h (c := ltr) (Or.inr ⟨rfl, rfl⟩) (by omega), Nat.min_eq_left (by omega)]
  · rw [if_neg c1, if_neg c1]
    by_cases c2 : dig (bA b n i) = true
    · have := bA_in (c := dig) (by decide) c2
      rw [if_pos c2, if_pos c2, if_neg c1, x_span h (c := dig) (Or.inl ⟨rfl, rfl⟩) (by omega), Nat.min_eq_left (by omega)]
    · rw [if_neg c2, if_neg c1, if_neg c2]
