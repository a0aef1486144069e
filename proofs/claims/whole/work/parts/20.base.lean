/-! PURE BASE: memory, small numbers, loops, bits -/
theorem m_row {M : hMem} {k j a : Nat} {v : Int32} (h : a ≠ k) : h_up M k j v a = M a := h_up_row M k j v h
theorem m_own (M : hMem) (k j : Nat) (v : Int32) : h_up M k j v k = upd (M k) j v := by
  funext i
  simp [h_up, upd]
theorem m_cpr {M : hMem} {s d a : Nat} {sp dp n : Int32} (h : a ≠ d) : h_cp M s sp d dp n a = M a := if_neg h
theorem m_cpo (M : hMem) (s d : Nat) (sp dp n : Int32) : h_cp M s sp d dp n d = va_cpy (M s) (M d) sp.toNatClampNeg dp.toNatClampNeg n.toNatClampNeg := if_pos rfl
theorem u_s (f : Nat → Int32) (k : Nat) (x : Int32) : upd f k x k = x := if_pos rfl
theorem u_n {f : Nat → Int32} {k j : Nat} {x : Int32} (h : j ≠ k) : upd f k x j = f j := if_neg h
theorem u_e (f : Nat → Int32) (k : Nat) (x : Int32) (j : Nat) : upd f k x j = if j = k then x else f j := rfl
theorem lp_s {σ ρ : Type} (body : (σ → Option ρ) → σ → Option ρ) (n : Nat) (s : σ) : h_lp body (n + 1) s = body (h_lp body n) s := rfl
theorem lp_h {σ ρ : Type} {body : (σ → Option ρ) → σ → Option ρ} (P : σ → Prop) (Q : ρ → Prop) (μ : σ → Nat) (h : ∀ (k : σ → Option ρ) (s : σ), P s → (∀ s', P s' → μ s' < μ s → ∃ r, k s' = some r ∧ Q r) → ∃ r, body k s = some r ∧ Q r) : ∀ (n : Nat) (s : σ), P s → μ s < n → ∃ r, h_lp body n s = some r ∧ Q r := by
  intro n
  induction n with
  | zero => intro s _ h0; exact absurd h0 (Nat.not_lt_zero _)
  | succ n ih => intro s hs hn; exact h _ s hs (fun s' h1 h2 => ih s' h1 (by omega))
theorem lp_f {σ ρ : Type} {body : (σ → Option ρ) → σ → Option ρ} (P : σ → Prop) (G : σ → ρ) (μ : σ → Nat) (h : ∀ (k : σ → Option ρ) (s : σ), P s → (∀ s', P s' → μ s' < μ s → k s' = some (G s')) → body k s = some (G s)) : ∀ (n : Nat) (s : σ), P s → μ s < n → h_lp body n s = some (G s) := by
  intro n
  induction n with
  | zero => intro s _ h0; exact absurd h0 (Nat.not_lt_zero _)
  | succ n ih => intro s hs hn; exact h _ s hs (fun s' h1 h2 => ih s' h1 (by omega))
/-- a loop that counts to e -/
theorem lp_up {σ ρ : Type} {body : (σ → Option ρ) → σ → Option ρ} (e : Nat) (P : Nat → σ → Prop) (Q : ρ → Prop) (hx : ∀ (k : σ → Option ρ) (s : σ), P e s → ∃ r, body k s = some r ∧ Q r) (hs : ∀ (k : σ → Option ρ) (i : Nat) (s : σ), i < e → P i s → (∀ s', P (i + 1) s' → ∃ r, k s' = some r ∧ Q r) → ∃ r, body k s = some r ∧ Q r) : ∀ (n i : Nat) (s : σ), i ≤ e → P i s → e - i < n → ∃ r, h_lp body n s = some r ∧ Q r := by
  intro n
  induction n with
  | zero => intro i s _ _ h0; exact absurd h0 (Nat.not_lt_zero _)
  | succ n ih =>
    intro i s hi hp hn
    rcases Nat.lt_or_ge i e with h | h
    · exact hs _ i s h hp (fun s' h1 => ih (i + 1) s' (by omega) h1 (by omega))
    · have he : i = e := by omega
      subst he
      exact hx _ s hp
theorem lp_u0 {σ ρ : Type} {body : (σ → Option ρ) → σ → Option ρ} (e : Nat) (P : Nat → σ → Prop) (Q : ρ → Prop) (s : σ) (h0 : P 0 s) (he : e < 20000) (hx : ∀ (k : σ → Option ρ) (s : σ), P e s → ∃ r, body k s = some r ∧ Q r) (hs : ∀ (k : σ → Option ρ) (i : Nat) (s : σ), i < e → P i s → (∀ s', P (i + 1) s' → ∃ r, k s' = some r ∧ Q r) → ∃ r, body k s = some r ∧ Q r) : ∃ r, h_lp body h_FU s = some r ∧ Q r :=
  lp_up e P Q hx hs h_FU 0 s (Nat.zero_le _) h0 he
/-- the same, its value told -/
theorem lp_g {σ ρ : Type} {body : (σ → Option ρ) → σ → Option ρ} (e : Nat) (S : Nat → σ) (r : ρ) (hx : ∀ (k : σ → Option ρ), body k (S e) = some r) (hs : ∀ (k : σ → Option ρ) (i : Nat), i < e → body k (S i) = k (S (i + 1))) (he : e < 20000) : h_lp body h_FU (S 0) = some r := by
  obtain ⟨q, h1, h2⟩ := lp_u0 (body := body) e (fun i s => s = S i) (fun q => q = r) (S 0) rfl he (fun k s h => ⟨r, by rw [h, hx], rfl⟩) (fun k i s hi h g => by rw [h, hs k i hi]; exact g _ rfl)
  rw [h1, h2]
/-! small numbers -/
theorem ib_int (a : Int32) (n : Nat) : h_ib a n ↔ 0 ≤ a.toInt ∧ a.toInt < n := by
  have e : a.toNatClampNeg = a.toInt.toNat := rfl
  simp only [h_ib, e]
  rw [Jvm.Kit.i32_nonneg]
  omega
theorem ib_mk {j n : Nat} (h : j < n) (hn : n ≤ 2 ^ 31) : h_ib (nI j) n := by
  rw [ib_int, nI_toInt (by omega)]
  omega
theorem ib_iff {j n : Nat} (hj : j < 2 ^ 31) : h_ib (nI j) n ↔ j < n := by
  rw [ib_int, nI_toInt hj]
  omega
theorem ib_ex {a : Int32} {n : Nat} (h : h_ib a n) : ∃ j, j < n ∧ j < 2 ^ 31 ∧ a = nI j := by
  obtain ⟨h1, h2⟩ := (ib_int a n).mp h
  have hb := a.toInt_lt
  refine ⟨a.toInt.toNat, by omega, by omega, ?_⟩
  apply Int32.toInt_inj.mp
  rw [nI_toInt (by omega)]
  omega
theorem ib_mono {a : Int32} {n m : Nat} (h : h_ib a n) (hm : n ≤ m) : h_ib a m := ⟨h.1, Nat.lt_of_lt_of_le h.2 hm⟩
theorem lt0_int (a : Int32) : a < 0 ↔ a.toInt < 0 := by rw [Int32.lt_iff_toInt_lt, Int32.toInt_zero]
theorem if_ge {α : Type} (a : Int32) (n : Nat) (A B : α) (hn : n < 2 ^ 31) : (if a < 0 then A else if nI n ≤ a then A else B) = if h_ib a n then B else A := by
  have h1 := lt0_int a
  have h2 : nI n ≤ a ↔ (n : Int) ≤ a.toInt := by rw [Int32.le_iff_toInt_le, nI_toInt hn]
  have h3 := ib_int a n
  by_cases c1 : a < 0
  · rw [if_pos c1, if_neg (fun h => by have := h3.mp h; have := h1.mp c1; omega)]
  · rw [if_neg c1]
    have c1' : ¬ a.toInt < 0 := fun h => c1 (h1.mpr h)
    by_cases c2 : nI n ≤ a
    · rw [if_pos c2, if_neg (fun h => by have := h3.mp h; have := h2.mp c2; omega)]
    · have c2' : ¬ (n : Int) ≤ a.toInt := fun h => c2 (h2.mpr h)
      rw [if_neg c2, if_pos (h3.mpr (by omega))]
theorem if_gt {α : Type} (a : Int32) (n : Nat) (A B : α) (hn : n < 2 ^ 31) : (if a < 0 then A else if nI n < a then A else B) = if h_ib a (n + 1) then B else A := by
  have h1 := lt0_int a
  have h2 : nI n < a ↔ (n : Int) < a.toInt := by rw [Int32.lt_iff_toInt_lt, nI_toInt hn]
  have h3 := ib_int a (n + 1)
  by_cases c1 : a < 0
  · rw [if_pos c1, if_neg (fun h => by have := h3.mp h; have := h1.mp c1; omega)]
  · rw [if_neg c1]
    have c1' : ¬ a.toInt < 0 := fun h => c1 (h1.mpr h)
    by_cases c2 : nI n < a
    · rw [if_pos c2, if_neg (fun h => by have := h3.mp h; have := h2.mp c2; omega)]
    · have c2' : ¬ (n : Int) < a.toInt := fun h => c2 (h2.mpr h)
      rw [if_neg c2, if_pos (h3.mpr (by omega))]
theorem nlt_le {a b : Int32} : a < b ↔ ¬ b ≤ a := by rw [Int32.lt_iff_toInt_lt, Int32.le_iff_toInt_le]; omega
theorem nle_lt {a b : Int32} : a ≤ b ↔ ¬ b < a := by rw [Int32.lt_iff_toInt_lt, Int32.le_iff_toInt_le]; omega
theorem if_lt {α : Type} (a : Int32) (n : Nat) (A B : α) (hn : n < 2 ^ 31) : (if a < 0 then A else if a < nI n then B else A) = if h_ib a n then B else A := by
  rw [← if_ge a n A B hn]
  by_cases c1 : a < 0
  · rw [if_pos c1, if_pos c1]
  · rw [if_neg c1, if_neg c1]
    by_cases c2 : nI n ≤ a
    · rw [if_pos c2, if_neg (fun h => nlt_le.mp h c2)]
    · rw [if_neg c2, if_pos (nlt_le.mpr c2)]
theorem if_le {α : Type} (a : Int32) (n : Nat) (A B : α) (hn : n < 2 ^ 31) : (if a < 0 then A else if a ≤ nI n then B else A) = if h_ib a (n + 1) then B else A := by
  rw [← if_gt a n A B hn]
  by_cases c1 : a < 0
  · rw [if_pos c1, if_pos c1]
  · rw [if_neg c1, if_neg c1]
    by_cases c2 : nI n < a
    · rw [if_pos c2, if_neg (fun h => nle_lt.mp h c2)]
    · rw [if_neg c2, if_pos (nle_lt.mpr c2)]
theorem b01 {α : Type} {c : Prop} [Decidable c] {A B : α} : (if (if c then (1 : Int32) else 0) = 0 then A else B) = if c then B else A := by
  by_cases h : c
  · rw [if_pos h, if_pos h, if_neg (by decide)]
  · rw [if_neg h, if_neg h, if_pos rfl]
theorem b10 {α : Type} {c : Prop} [Decidable c] {A B : α} : (if (if c then (0 : Int32) else 1) = 0 then A else B) = if c then A else B := by
  by_cases h : c
  · rw [if_pos h, if_pos h, if_pos rfl]
  · rw [if_neg h, if_neg h, if_neg (by decide)]
theorem n_rem {a d : Nat} (ha : a < 2 ^ 31) (h0 : 0 < d) (hd : d < 2 ^ 31) : h_rem (nI a) (nI d) = nI (a % d) := pk_rem ha h0 hd
theorem n_m1 {a : Nat} (h : a < 2 ^ 31) : ¬ nI a = -1 := fun e => by
  have h1 := congrArg Int32.toInt e
  rw [nI_toInt h] at h1
  have h2 : (-1 : Int32).toInt = -1 := by decide
  omega
theorem n_m1' {a : Nat} (h : a < 2 ^ 31) : ¬ -1 = nI a := fun e => n_m1 h e.symm
theorem n_of_ib {a : Int32} {n : Nat} (h : h_ib a n) : a = nI a.toNatClampNeg := by
  obtain ⟨j, h1, h2, rfl⟩ := ib_ex h
  rw [nI_clamp h2]
/-! bits -/
theorem b_1 : ∀ i, i < 32 → bt 1 i = decide (i = 0) := by decide +kernel
theorem bit_u (S : Int32) {c : Nat} (hc : c < 32) : (h_ushr S (nI c) &&& 1) = if bt S c = true then 1 else 0 := by
  apply b_ext
  intro i hi
  rw [b_and, show bt (h_ushr S (nI c)) i = bt S (c + i) from b_ushr c hc S i, b_1 i hi]
  by_cases h0 : i = 0
  · subst h0
    cases hb : bt S c with
    | true => rw [if_pos rfl, b_1 0 hi]; rfl
    | false => rw [if_neg (by decide), b_0]; rfl
  · rw [decide_eq_false h0, Bool.and_false]
    cases hb : bt S c with
    | true => rw [if_pos rfl, b_1 i hi, decide_eq_false h0]
    | false => rw [if_neg (by decide), b_0]
theorem bit_s (S : Int32) {c : Nat} (hc : c < 32) : ((S >>> (nI c &&& 31)) &&& 1) = if bt S c = true then 1 else 0 := by
  apply b_ext
  intro i hi
  rw [b_and, b_sshr c hc S hi, b_1 i hi]
  by_cases h0 : i = 0
  · subst h0
    rw [if_pos (by omega)]
    cases hb : bt S c with
    | true => rw [if_pos rfl, b_1 0 hi]; rfl
    | false => rw [if_neg (by decide), b_0]; rfl
  · rw [decide_eq_false h0, Bool.and_false]
    cases hb : bt S c with
    | true => rw [if_pos rfl, b_1 i hi, decide_eq_false h0]
    | false => rw [if_neg (by decide), b_0]
theorem b_pow {c i : Nat} (hc : c < 32) (hi : i < 32) : bt (1 <<< (nI c &&& 31)) i = decide (i = c) := by
  rw [b_shl c hc 1 hi]
  by_cases h : c ≤ i
  · rw [b_1 (i - c) (by omega), decide_eq_true h, Bool.true_and]
    by_cases h2 : i = c
    · rw [decide_eq_true h2, decide_eq_true (by omega)]
    · rw [decide_eq_false h2, decide_eq_false (by omega)]
  · rw [decide_eq_false h, Bool.false_and, decide_eq_false (by omega)]
theorem b_set (S : Int32) {c i : Nat} (hc : c < 32) (hi : i < 32) : bt (S ||| (1 <<< (nI c &&& 31))) i = (bt S i || decide (i = c)) := by rw [b_or, b_pow hc hi]
theorem b_clr (S : Int32) {c i : Nat} (hc : c < 32) (hi : i < 32) : bt (S &&& ((1 <<< (nI c &&& 31)) ^^^ (-1))) i = (bt S i && !decide (i = c)) := by rw [b_and, b_xor, b_pow hc hi, b_m1 i hi, Bool.xor_true]
theorem bit_1 {α : Type} {b : Bool} {A B : α} : (if (if b = true then (1 : Int32) else 0) = 1 then A else B) = if b = true then A else B := by
  cases b
  · rfl
  · rfl
/-- ranges and kernel checks -/
theorem dc2 {N K : Nat} {p : Nat → Nat → Bool} (h : (List.range N).all (fun i => (List.range K).all (fun j => p i j)) = true) {i j : Nat} (hi : i < N) (hj : j < K) : p i j = true := h_forall (p := fun j => p i j) (h_forall (p := fun i => (List.range K).all (fun j => p i j)) h hi) hj
