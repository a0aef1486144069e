/-! TEXT: words -/
def wLen (v : Nat) : Nat := h_lens.getD v 0
def mW (b : Nat → Int32) (n v a e : Nat) : Bool := decide (e - a = wLen v) && (List.range (wLen v)).all (fun j => decide (bA b n (a + j) = h_sch v j))
theorem wLen_b : ∀ v, v < 13 → wLen v ≤ 45 := fun v hv => of_decide_eq_true (h_forall (N := 13) (p := fun v => decide (wLen v ≤ 45)) (by decide +kernel) hv)
theorem x_isWord {b : Nat → Int32} {n : Nat} {X : hMem} (h : TXx b n X) {v a e : Nat} (hv : v < 13) (hae : a ≤ e) (he : e < 2 ^ 29) : fX5_isWord v (nI a) (nI e) X = some (if mW b n v a e = true then 1 else 0) := by
  have hl := wLen_b v hv
  unfold fX5_isWord
  rw [if_pos hv, pk_sub hae, show h_slen v = nI (wLen v) from rfl]
  by_cases hlen : e - a = wLen v
  · rw [if_pos (by rw [hlen])]
    have hW : mW b n v a e = (List.range (wLen v)).all (fun j => decide (bA b n (a + j) = h_sch v j)) := by
      unfold mW; rw [decide_eq_true hlen, Bool.true_and]
    rw [hW]
    obtain ⟨r, r1, r2⟩ := lp_u0 (body := fX5_isWord_L15 v (nI a) X) (wLen v) (fun i z => z = nI i ∧ ∀ j, j < i → bA b n (a + j) = h_sch v j) (fun r => r = if (List.range (wLen v)).all (fun j => decide (bA b n (a + j) = h_sch v j)) = true then 1 else 0) 0 ⟨rfl, fun j hj => absurd hj (Nat.not_lt_zero _)⟩ (by omega) (by
      rintro k z ⟨rfl, hall⟩
      unfold fX5_isWord_L15
      rw [if_pos hv, show h_slen v = nI (wLen v) from rfl, if_pos (nI_le (Nat.le_refl _) (by omega))]
      refine ⟨1, rfl, ?_⟩
      rw [if_pos (List.all_eq_true.mpr (fun j hj => decide_eq_true (hall j (List.mem_range.mp hj))))]) (by
      rintro k i z hi ⟨rfl, hall⟩ hk
      unfold fX5_isWord_L15
      rw [if_pos hv, show h_slen v = nI (wLen v) from rfl, if_neg (nI_ge hi (by omega)), nI_add, x_byte h (by omega), Option.bind_some, nI_clamp (by omega), nI_1]
      have hscb : h_scb v (nI i) = true := by
        unfold h_scb
        rw [nI_clamp (by omega), decide_eq_true hv, decide_eq_true (nI_pos' (by omega)), show Nat.blt i (h_lens.getD v 0) = true from Nat.ble_eq_true_of_le hi]
        rfl
      rw [if_pos hscb]
      by_cases c : bA b n (a + i) = h_sch v i
      · rw [if_pos c]
        refine hk _ ⟨rfl, fun j hj => ?_⟩
        by_cases ej : j = i
        · subst ej; exact c
        · exact hall j (by omega)
      · rw [if_neg c]
        refine ⟨0, rfl, ?_⟩
        rw [if_neg]
        intro q
        exact c (of_decide_eq_true (List.all_eq_true.mp q i (List.mem_range.mpr hi))))
    rw [r1, r2]
  · rw [if_neg (nI_neq _ (by omega) (by omega) hlen)]
    have hW : mW b n v a e = false := by unfold mW; rw [decide_eq_false hlen, Bool.false_and]
    rw [hW]; rfl
/-- the words differ -/
theorem wrd_ne : ∀ v w, v < 13 → w < 13 → v ≠ 0 → w ≠ 0 → v ≠ w → wLen v = wLen w → ∃ j, j < wLen v ∧ h_sch v j ≠ h_sch w j := by
  intro v w hv hw v0 w0 hne hl
  have h := dc2 (N := 13) (K := 13) (p := fun v w => v == 0 || (w == 0 || (v == w || (wLen v != wLen w || (List.range (wLen v)).any (fun j => decide (h_sch v j ≠ h_sch w j)))))) (by decide +kernel) hv hw
  rw [show (v == 0) = false from beq_eq_false_iff_ne.mpr v0, show (w == 0) = false from beq_eq_false_iff_ne.mpr w0, show (v == w) = false from beq_eq_false_iff_ne.mpr hne, show (wLen v != wLen w) = false from by rw [hl]; exact bne_self_eq_false _, Bool.false_or, Bool.false_or, Bool.false_or, Bool.false_or] at h
  obtain ⟨j, hj, hj2⟩ := List.any_eq_true.mp h
  exact ⟨j, List.mem_range.mp hj, of_decide_eq_true hj2⟩
theorem mW_one {b : Nat → Int32} {n v w a e : Nat} (hv : v < 13) (hw : w < 13) (v0 : v ≠ 0) (w0 : w ≠ 0) (h1 : mW b n v a e = true) (h2 : mW b n w a e = true) : v = w := by
  unfold mW at h1 h2
  rw [Bool.and_eq_true_iff] at h1 h2
  have l1 := of_decide_eq_true h1.1
  have l2 := of_decide_eq_true h2.1
  by_cases e1 : v = w
  · exact e1
  · obtain ⟨j, j1, j2⟩ := wrd_ne v w hv hw v0 w0 e1 (by omega)
    have q1 := of_decide_eq_true (List.all_eq_true.mp h1.2 j (List.mem_range.mpr j1))
    have q2 := of_decide_eq_true (List.all_eq_true.mp h2.2 j (List.mem_range.mpr (by omega)))
    exact absurd (q1.symm.trans q2) j2
/-- the word there: its number, or 0 -/
def wrd (b : Nat → Int32) (n a e : Nat) : Nat := ((List.range 13).find? (fun v => Nat.blt 0 v && mW b n v a e)).getD 0
theorem wrd_lt (b : Nat → Int32) (n a e : Nat) : wrd b n a e < 13 := by
  unfold wrd
  cases h : (List.range 13).find? (fun v => Nat.blt 0 v && mW b n v a e) with
  | none => decide
  | some v => exact List.mem_range.mp (List.mem_of_find?_eq_some h)
theorem wrd_iff {b : Nat → Int32} {n a e v : Nat} (hv : v < 13) (v0 : v ≠ 0) : mW b n v a e = true ↔ wrd b n a e = v := by
  unfold wrd
  constructor
  · intro h
    cases hf : (List.range 13).find? (fun v => Nat.blt 0 v && mW b n v a e) with
    | none =>
      have := List.find?_eq_none.mp hf v (List.mem_range.mpr hv)
      rw [h, Bool.and_true] at this
      exact absurd (Nat.ble_eq_true_of_le (show 0 + 1 ≤ v by omega)) this
    | some w =>
      have hw := List.mem_range.mp (List.mem_of_find?_eq_some hf)
      have hp := List.find?_some hf
      rw [Bool.and_eq_true_iff] at hp
      have w0 : w ≠ 0 := by have := Nat.le_of_ble_eq_true hp.1; omega
      exact (mW_one hv hw v0 w0 h hp.2).symm
  · intro h
    cases hf : (List.range 13).find? (fun v => Nat.blt 0 v && mW b n v a e) with
    | none => rw [hf] at h; exact absurd h.symm v0
    | some w =>
      rw [hf] at h
      have : w = v := h
      subst this
      have hp := List.find?_some hf
      rw [Bool.and_eq_true_iff] at hp
      exact hp.2
theorem x_isW {b : Nat → Int32} {n : Nat} {X : hMem} (h : TXx b n X) {v a e : Nat} (hv : v < 13) (v0 : v ≠ 0) (hae : a ≤ e) (he : e < 2 ^ 29) {A B : Option Int32} : ((fX5_isWord v (nI a) (nI e) X).bind fun q => if q = 0 then A else B) = if wrd b n a e = v then B else A := by
  rw [x_isWord h hv hae he, Option.bind_some, b01]
  by_cases c : mW b n v a e = true
  · rw [if_pos c, if_pos ((wrd_iff hv v0).mp c)]
  · rw [if_neg c, if_neg (fun q => c ((wrd_iff hv v0).mpr q))]
def nmV (w : Nat) : Int32 := if 1 ≤ w ∧ w ≤ 6 then nI (w - 1) else -1
def kyV (w : Nat) : Int32 := if 7 ≤ w then nI (w - 3) else 1
theorem x_name {b : Nat → Int32} {n : Nat} {X : hMem} (h : TXx b n X) {a e : Nat} (hae : a ≤ e) (he : e < 2 ^ 29) : fX5_nameBetween (nI a) (nI e) X = some (nmV (wrd b n a e)) := by
  unfold fX5_nameBetween
  rw [x_isW h (by decide) (by decide) hae he, x_isW h (by decide) (by decide) hae he, x_isW h (by decide) (by decide) hae he, x_isW h (by decide) (by decide) hae he, x_isW h (by decide) (by decide) hae he, x_isW h (by decide) (by decide) hae he]
  have hw := wrd_lt b n a e
  generalize wrd b n a e = w at hw ⊢
  revert hw
  revert w
  decide
theorem x_key {b : Nat → Int32} {n : Nat} {X : hMem} (h : TXx b n X) {a e : Nat} (hae : a ≤ e) (he : e < 2 ^ 29) : fX5_keyBetween (nI a) (nI e) X = some (kyV (wrd b n a e)) := by
  unfold fX5_keyBetween
  rw [x_isW h (by decide) (by decide) hae he, x_isW h (by decide) (by decide) hae he, x_isW h (by decide) (by decide) hae he, x_isW h (by decide) (by decide) hae he, x_isW h (by decide) (by decide) hae he, x_isW h (by decide) (by decide) hae he]
  have hw := wrd_lt b n a e
  generalize wrd b n a e = w at hw ⊢
  revert hw
  revert w
  decide
