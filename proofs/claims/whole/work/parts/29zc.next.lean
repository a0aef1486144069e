/-! TEXT: tokens, the other one's -/
def mwd (v : Nat) : Nat := if v < 3 then v + 7 else if v < 9 then v - 2 else v + 1
theorem mwd_b : ∀ v, v < 12 → mwd v < 13 ∧ mwd v ≠ 0 ∧ wLen (mwd v) ≤ 8 := fun v hv => of_decide_eq_true (h_forall (N := 12) (p := fun v => decide (mwd v < 13 ∧ mwd v ≠ 0 ∧ wLen (mwd v) ≤ 8)) (by decide +kernel) hv)
theorem wds_eq {v j : Nat} (hv : v < 12) (hj : j < 8) : wdsL.getD (8 * v + j) 0 = if j < wLen (mwd v) then h_sch (mwd v) j else 32 := of_decide_eq_true (dc2 (N := 12) (K := 8) (p := fun v j => decide (wdsL.getD (8 * v + j) 0 = if j < wLen (mwd v) then h_sch (mwd v) j else 32)) (by decide +kernel) hv hj)
theorem sch_ne {v j : Nat} (hv : v < 12) (hj : j < wLen (mwd v)) : h_sch (mwd v) j ≠ 32 := by
  have := (mwd_b v hv).2.2
  have h := of_decide_eq_true (dc2 (N := 12) (K := 8) (p := fun v j => decide (j < wLen (mwd v) → h_sch (mwd v) j ≠ 32)) (by decide +kernel) hv (show j < 8 by omega))
  exact h hj
def TXm (b : Nat → Int32) (n : Nat) (M : hMem) : Prop := n ≤ 160 ∧ M 0 11 = nI n ∧ (∀ i, i < 160 → M 9 i = b i) ∧ ∀ i, i < 96 → M 17 i = wdsL.getD i 0
theorem m_word1 {b : Nat → Int32} {n : Nat} {M : hMem} (h : TXm b n M) {a e v : Nat} (hv : v < 12) (hae : a < e) (he : e ≤ n) (hnb : ∀ j, a ≤ j → j < e → b j ≠ 32) (k2 : Int32 → Option Int32) (r0 : Int32) (hk : mW b n (mwd v) a e = false → k2 (nI (v + 1)) = some r0) : ∃ r, h_lp (fX10_wordFrom_L26 k2 (nI a) (nI e) (nI v) M) h_FU ((if 8 < nI e - nI a then 0 else 1), 0) = some r ∧ r = if mW b n (mwd v) a e = true then nI v else r0 := by
  obtain ⟨hn, h1, h2, h3⟩ := h
  obtain ⟨w1, w2, w3⟩ := mwd_b v hv
  rw [pk_sub (by omega)]
  by_cases c8 : 8 < e - a
  · have hf : mW b n (mwd v) a e = false := by unfold mW; rw [decide_eq_false (by omega), Bool.false_and]
    rw [if_pos (show (8 : Int32) < nI (e - a) from nI_lt (a := 8) c8 (by omega)), hf]
    unfold h_FU
    rw [show (20000 : Nat) = 19999 + 1 from rfl, lp_s]
    unfold fX10_wordFrom_L26
    dsimp only
    rw [if_neg (show ¬ (8 : Int32) ≤ 0 from by decide), if_pos rfl, if_pos rfl, nI_1, hk hf]
    exact ⟨r0, rfl, rfl⟩
  · rw [if_neg (show ¬ (8 : Int32) < nI (e - a) from nI_nlt (a := 8) (by omega) (by omega))]
    have hch : ∀ j, j < 8 → ((if a + j < e then b (a + j) else 32) = wdsL.getD (8 * v + j) 0 ↔ ((j < e - a ↔ j < wLen (mwd v)) ∧ (j < e - a → bA b n (a + j) = h_sch (mwd v) j))) := by
      intro j hj
      rw [wds_eq hv hj]
      by_cases c1 : a + j < e
      · rw [if_pos c1]
        have eb : bA b n (a + j) = b (a + j) := if_pos (by omega)
        by_cases c2 : j < wLen (mwd v)
        · rw [if_pos c2, eb]
          exact ⟨fun q => ⟨⟨fun _ => c2, fun _ => by omega⟩, fun _ => q⟩, fun q => q.2 (by omega)⟩
        · rw [if_neg c2]
          exact ⟨fun q => absurd q (hnb _ (by omega) c1), fun q => absurd (q.1.mp (by omega)) c2⟩
      · rw [if_neg c1]
        by_cases c2 : j < wLen (mwd v)
        · rw [if_pos c2]
          exact ⟨fun q => absurd q.symm (sch_ne hv c2), fun q => absurd (q.1.mpr c2) (by omega)⟩
        · rw [if_neg c2]
          exact ⟨fun _ => ⟨⟨fun q => absurd q (by omega), fun q => absurd q c2⟩, fun q => absurd q (by omega)⟩, fun _ => rfl⟩
    have hmw : mW b n (mwd v) a e = true ↔ ∀ j, j < 8 → (if a + j < e then b (a + j) else 32) = wdsL.getD (8 * v + j) 0 := by
      unfold mW
      rw [Bool.and_eq_true_iff, decide_eq_true_eq, List.all_eq_true]
      constructor
      · rintro ⟨q1, q2⟩ j hj
        rw [hch j hj, q1]
        exact ⟨Iff.rfl, fun hl => of_decide_eq_true (q2 j (List.mem_range.mpr hl))⟩
      · intro q
        have hl : e - a = wLen (mwd v) := by
          rcases Nat.lt_or_ge (e - a) (wLen (mwd v)) with g | g
          · have := ((hch (e - a) (by omega)).mp (q _ (by omega))).1.mpr g
            omega
          · rcases Nat.lt_or_ge (wLen (mwd v)) (e - a) with g2 | g2
            · have := ((hch (wLen (mwd v)) (by omega)).mp (q _ (by omega))).1.mp g2
              omega
            · omega
        exact ⟨hl, fun j hj => decide_eq_true (((hch j (by have := List.mem_range.mp hj; omega)).mp (q j (by have := List.mem_range.mp hj; omega))).2 (by have := List.mem_range.mp hj; omega))⟩
    refine lp_u0 (body := fX10_wordFrom_L26 k2 (nI a) (nI e) (nI v) M) 8 (fun i z => ∃ f : Nat, f < 2 ∧ z = (nI f, nI i) ∧ (f = 1 ↔ ∀ j, j < i → (if a + j < e then b (a + j) else 32) = wdsL.getD (8 * v + j) 0)) _ (1, 0) ⟨1, by omega, rfl, fun _ j hj => absurd hj (Nat.not_lt_zero _), fun _ => rfl⟩ (by omega) ?_ ?_
    · rintro k z ⟨f, hf, rfl, hff⟩
      unfold fX10_wordFrom_L26
      dsimp only
      rw [if_pos (show (8 : Int32) ≤ nI 8 from by decide)]
      by_cases c : mW b n (mwd v) a e = true
      · have f1 := hff.mpr (hmw.mp c)
        subst f1
        rw [if_neg (show ¬ nI 1 = (0 : Int32) from by decide), if_pos c]
        exact ⟨_, rfl, rfl⟩
      · have f0 : f = 0 := by
          rcases (by omega : f = 0 ∨ f = 1) with q | q
          · exact q
          · exact absurd (hmw.mpr (hff.mp q)) c
        subst f0
        rw [if_pos (show nI 0 = (0 : Int32) from rfl), nI_1, hk (eq_false_of_ne_true c), if_neg c]
        exact ⟨_, rfl, rfl⟩
    · rintro k i z hi ⟨f, hf, rfl, hff⟩ hk2
      unfold fX10_wordFrom_L26
      dsimp only
      rw [if_neg (show ¬ (8 : Int32) ≤ nI i from nI_ge (b := 8) hi (by decide))]
      rcases (by omega : f = 0 ∨ f = 1) with rfl | rfl
      · have c : ¬ mW b n (mwd v) a e = true := fun c => by
          have := hff.mpr (fun j hj => hmw.mp c j (by omega))
          exact absurd this (by decide)
        rw [if_pos (show nI 0 = (0 : Int32) from rfl), if_pos (show nI 0 = (0 : Int32) from rfl), nI_1, hk (eq_false_of_ne_true c), if_neg c]
        exact ⟨_, rfl, rfl⟩
      · have hall := hff.mp rfl
        rw [if_neg (show ¬ nI 1 = (0 : Int32) from by decide), show (8 : Int32) * nI v = nI (8 * v) from pk_mul 8 v, nI_add, nI_add, if_pos (show h_ib (nI (8 * v + i)) 96 from ib_mk (by omega) (by omega))]
        simp only [nI_clamp (show 8 * v + i < 2 ^ 31 by omega), nI_clamp (show a + i < 2 ^ 31 by omega), h3 (8 * v + i) (by omega)]
        have fin : ∃ r, fX10_wordFrom_L72 k2 k (nI a) (nI e) (nI v) (nI i) (if a + i < e then b (a + i) else 32) (wdsL.getD (8 * v + i) 0) M = some r ∧ r = if mW b n (mwd v) a e = true then nI v else r0 := by
          unfold fX10_wordFrom_L72
          rw [nI_1]
          by_cases c : wdsL.getD (8 * v + i) 0 = (if a + i < e then b (a + i) else 32)
          · rw [if_pos c]
            refine hk2 _ ⟨1, by omega, rfl, fun _ j hj => ?_, fun _ => rfl⟩
            by_cases ej : j = i
            · subst ej; exact c.symm
            · exact hall j (by omega)
          · rw [if_neg c]
            exact hk2 _ ⟨0, by omega, rfl, fun q => absurd q (by decide), fun q => absurd (q i (by omega)).symm c⟩
        by_cases c : a + i < e
        · rw [if_neg (nI_ge c (by omega)), if_pos (ib_mk (by omega) (by omega)), h2 _ (by omega)]
          rw [if_pos c] at fin
          exact fin
        · rw [if_pos (nI_le (by omega) (by omega))]
          rw [if_neg c] at fin
          exact fin
def mIdx (w : Nat) : Nat := if w = 0 then 12 else if w < 7 then w + 2 else if w < 10 then w - 7 else w - 1
theorem mIdx_ok : ∀ w, w < 13 → ∀ v, v < 12 → (mwd v = w ↔ mIdx w = v) := by decide +kernel
theorem m_word {b : Nat → Int32} {n : Nat} {M : hMem} (h : TXm b n M) {a e : Nat} (hae : a < e) (he : e ≤ n) (hnb : ∀ j, a ≤ j → j < e → b j ≠ 32) : fX10_wordFrom (nI a) (nI e) M = some (nI (mIdx (wrd b n a e))) := by
  have hw := wrd_lt b n a e
  have hm : ∀ v, v < 12 → (mW b n (mwd v) a e = true ↔ mIdx (wrd b n a e) = v) := fun v hv => by
    rw [wrd_iff (mwd_b v hv).1 (mwd_b v hv).2.1, eq_comm, mIdx_ok _ hw v hv]
  have hm12 : mIdx (wrd b n a e) ≤ 12 := by
    have : ∀ w, w < 13 → mIdx w ≤ 12 := by decide
    exact this _ hw
  unfold fX10_wordFrom
  generalize mIdx (wrd b n a e) = q at hm hm12 ⊢
  obtain ⟨r, r1, r2⟩ := lp_u0 (body := fX10_wordFrom_L2 (nI a) (nI e) M) 12 (fun i z => z = nI i ∧ i ≤ q) (fun r => r = nI q) 0 ⟨rfl, Nat.zero_le _⟩ (by omega) (by
    rintro k z ⟨rfl, hq⟩
    unfold fX10_wordFrom_L2
    rw [if_pos (show (12 : Int32) ≤ nI 12 from by decide)]
    exact ⟨_, rfl, by rw [show q = 12 from by omega]; rfl⟩) (by
    rintro k i z hi ⟨rfl, hq⟩ hk
    unfold fX10_wordFrom_L2
    rw [if_neg (show ¬ (12 : Int32) ≤ nI i from nI_ge (b := 12) hi (by decide))]
    have go : ∃ r, h_lp (fX10_wordFrom_L26 k (nI a) (nI e) (nI i) M) h_FU ((if 8 < nI e - nI a then 0 else 1), 0) = some r ∧ r = nI q := by
      by_cases c : mW b n (mwd i) a e = true
      · obtain ⟨r, r1, r2⟩ := m_word1 h hi hae he hnb k 0 (fun hf => by rw [c] at hf; cases hf)
        refine ⟨r, r1, ?_⟩
        rw [r2, if_pos c, (hm i hi).mp c]
      · have hne : q ≠ i := fun h => c ((hm i hi).mpr h)
        obtain ⟨r', k1, k2⟩ := hk (nI (i + 1)) ⟨rfl, by omega⟩
        obtain ⟨r, r1, r2⟩ := m_word1 h hi hae he hnb k r' (fun _ => k1)
        refine ⟨r, r1, ?_⟩
        rw [r2, if_neg c, k2]
    by_cases c8 : 8 < nI e - nI a
    · rw [if_pos c8]
      rw [if_pos c8] at go
      exact go
    · rw [if_neg c8]
      rw [if_neg c8] at go
      exact go)
  rw [r1, r2]
