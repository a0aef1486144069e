/-! TEXT: its code is well made; both sides -/
theorem plc_ge {b : Nat → Int32} {n : Nat} : ∀ k, (∀ j, j < k → ktF b n j ≠ 0) → k ≤ plc b n k
  | 0, _ => Nat.zero_le _
  | k + 1, h => by
    have ih := plc_ge k (fun j hj => h j (by omega))
    have hk := h k (by omega)
    have hlt : plc b n k < n := by
      rcases Nat.lt_or_ge (plc b n k) n with q | q
      · exact q
      · exact absurd (show ktF b n k = 0 from if_pos q) hk
    obtain ⟨t1, t2, t3⟩ := tEnd_le (b := b) (plc_le b n k)
    have := t3 hlt
    have := (spn_le (c := blk) (by decide) (b := b) (n := n) 160 _ t2).1
    show k + 1 ≤ spn blk b n 160 (tEnd b n (plc b n k))
    omega
theorem least {P : Nat → Prop} (hd : ∀ k, P k ∨ ¬ P k) : ∀ N, (∀ j, j < N → ¬ P j) ∨ ∃ E, E < N ∧ P E ∧ ∀ j, j < E → ¬ P j
  | 0 => Or.inl (fun j hj => absurd hj (Nat.not_lt_zero _))
  | N + 1 => by
    rcases least hd N with h | ⟨E, h1, h2, h3⟩
    · rcases hd N with q | q
      · exact Or.inr ⟨N, by omega, q, h⟩
      · refine Or.inl (fun j hj => ?_)
        by_cases e : j = N
        · rw [e]; exact q
        · exact h j (by omega)
    · exact Or.inr ⟨E, by omega, h2, h3⟩
theorem ex_E {b : Nat → Int32} {n : Nat} (hn : n ≤ 160) : ∃ E, tkE E (ktF b n) ∧ ∀ j, j < E → ktF b n j ≠ 0 ∧ ktF b n j ≠ 1 := by
  rcases least (P := fun k => ktF b n k = 0 ∨ ktF b n k = 1) (fun k => Decidable.em _) (n + 1) with h | ⟨E, h1, h2, h3⟩
  · exfalso
    have := plc_ge (b := b) (n := n) n (fun j hj q => h j (by omega) (Or.inl q))
    exact h n (by omega) (Or.inl (if_pos this))
  · exact ⟨E, ⟨by omega, h2⟩, fun j hj => ⟨fun q => h3 j hj (Or.inl q), fun q => h3 j hj (Or.inr q)⟩⟩
theorem dig_n {v : Int32} (h : dig v = true) (hb : h_ib v 256) : ∃ d, d ≤ 9 ∧ v = nI (48 + d) := by
  obtain ⟨j, j1, j2, rfl⟩ := ib_ex hb
  unfold dig at h
  rw [Bool.and_eq_true_iff, Bool.not_eq_true', Bool.not_eq_true', decide_eq_false_iff_not, decide_eq_false_iff_not] at h
  have h1 : 48 ≤ j := by
    rcases Nat.lt_or_ge j 48 with q | q
    · exact absurd (show nI j < 48 from nI_lt (b := 48) q (by decide)) h.1
    · exact q
  have h2 : j ≤ 57 := by
    rcases Nat.lt_or_ge 57 j with q | q
    · exact absurd (show (57 : Int32) < nI j from nI_lt (a := 57) q j2) h.2
    · exact q
  exact ⟨j - 48, by omega, by rw [show 48 + (j - 48) = j from by omega]⟩
theorem dec_n {b : Nat → Int32} {a : Nat} : ∀ k, k ≤ 4 → (∀ j, j < k → ∃ d, d ≤ 9 ∧ b (a + j) = nI (48 + d)) → ∃ v, v < 10 ^ k ∧ decS b a k = nI v
  | 0, _, _ => ⟨0, by decide, rfl⟩
  | k + 1, hk, h => by
    obtain ⟨v, v1, v2⟩ := dec_n k (by omega) (fun j hj => h j (by omega))
    obtain ⟨d, d1, d2⟩ := h k (by omega)
    refine ⟨10 * v + d, by rw [Nat.pow_succ]; omega, ?_⟩
    rw [decS_s, v2, d2, show (10 : Int32) * nI v = nI (10 * v) from pk_mul 10 v, nI_add, show (48 : Int32) = nI 48 from rfl, pk_sub (by omega), show 10 * v + (48 + d) - 48 = 10 * v + d from by omega]
theorem tV_n {b : Nat → Int32} {n i : Nat} (hn : n ≤ 160) (hb : ∀ i, i < 160 → h_ib (b i) 256) (hi : i ≤ n) : (tK b n i = 2 → ∃ v, v < 10000 ∧ tV b n i = nI v) ∧ (tK b n i = 3 → ∃ v, v < 6 ∧ tV b n i = nI v) := by
  obtain ⟨t1, t2, t3⟩ := tEnd_le (b := b) hi
  have hw := wrd_lt b n i (tEnd b n i)
  unfold tV
  refine ⟨fun h => ?_, fun h => ?_⟩
  · rw [if_neg (by rw [h]; decide), if_pos h]
    unfold tK at h
    by_cases c1 : n ≤ i
    · rw [if_pos c1] at h; exact absurd h (by decide)
    rw [if_neg c1] at h
    by_cases c2 : dig (b i) = true
    · rw [if_pos c2] at h
      by_cases c3 : tEnd b n i - i ≤ 4
      · have eb : bA b n i = b i := if_pos (by omega)
        have cl : ¬ ltr (b i) = true := fun cl => by
          unfold dig at c2
          unfold ltr at cl
          rw [Bool.and_eq_true_iff, Bool.not_eq_true', Bool.not_eq_true', decide_eq_false_iff_not, decide_eq_false_iff_not] at c2 cl
          exact c2.2 (by
            have a1 := cl.1
            rw [Int32.lt_iff_toInt_lt] at a1 ⊢
            have e1 : (97 : Int32).toInt = 97 := by decide
            have e2 : (57 : Int32).toInt = 57 := by decide
            omega)
        have hte : tEnd b n i = spn dig b n 160 (i + 1) := by unfold tEnd; rw [eb, if_neg cl, if_pos c2]
        obtain ⟨v, v1, v2⟩ := dec_n (b := b) (a := i) (tEnd b n i - i) c3 (fun j hj => by
          refine dig_n ?_ (hb _ (by omega))
          by_cases e : j = 0
          · subst e; exact c2
          · have := spn_all (c := dig) (b := b) (n := n) 160 (i + 1) (i + j) (by omega) (by rw [← hte]; omega)
            rw [show bA b n (i + j) = b (i + j) from if_pos (by omega)] at this
            exact this)
        exact ⟨v, Nat.lt_of_lt_of_le v1 (show 10 ^ (tEnd b n i - i) ≤ 10000 from Nat.pow_le_pow_right (by decide) c3), v2⟩
      · rw [if_neg c3] at h; exact absurd h (by decide)
    rw [if_neg c2] at h
    by_cases c4 : ltr (b i) = true
    · rw [if_pos c4] at h
      by_cases c5 : 1 ≤ tW b n i ∧ tW b n i ≤ 6
      · rw [if_pos c5] at h; exact absurd h (by decide)
      · rw [if_neg c5] at h; exact absurd h (ky_ne _ hw).2.1
    rw [if_neg c4] at h
    by_cases c6 : sgn (b i) = true
    · rw [if_pos c6] at h; rw [h] at c6; exact absurd c6 (by decide)
    · rw [if_neg c6] at h; exact absurd h (by decide)
  · rw [if_pos h]
    unfold tK at h
    by_cases c1 : n ≤ i
    · rw [if_pos c1] at h; exact absurd h (by decide)
    rw [if_neg c1] at h
    by_cases c2 : dig (b i) = true
    · rw [if_pos c2] at h
      by_cases c3 : tEnd b n i - i ≤ 4
      · rw [if_pos c3] at h; exact absurd h (by decide)
      · rw [if_neg c3] at h; exact absurd h (by decide)
    rw [if_neg c2] at h
    by_cases c4 : ltr (b i) = true
    · rw [if_pos c4] at h
      by_cases c5 : 1 ≤ tW b n i ∧ tW b n i ≤ 6
      · exact ⟨tW b n i - 1, by omega, rfl⟩
      · rw [if_neg c5] at h; exact absurd h (ky_ne _ hw).1
    rw [if_neg c4] at h
    by_cases c6 : sgn (b i) = true
    · rw [if_pos c6] at h; rw [h] at c6; exact absurd c6 (by decide)
    · rw [if_neg c6] at h; exact absurd h (by decide)
theorem tr_lit {v : Nat} (h : v < 10000) : trW (nI v) = 100000 + nI v := if_pos (nI_pos' (by omega))
theorem tr_nm : ∀ v, v < 6 → trW (-1 - nI v) = nI v ∧ -6 ≤ -1 - nI v ∧ -1 - nI v ≤ (9999 : Int32) := by decide
theorem vok_t {b : Nat → Int32} {n : Nat} (hn : n ≤ 160) (hb : ∀ i, i < 160 → h_ib (b i) 256) : VOK (ktF b n) (vtF b n) := fun k => by
  obtain ⟨h1, h2⟩ := tV_n hn hb (plc_le b n k)
  refine ⟨fun e => ?_, fun e => ?_⟩
  · obtain ⟨v, v1, v2⟩ := h1 e
    show trW (tV b n (plc b n k)) = 100000 + tV b n (plc b n k)
    rw [v2]; exact tr_lit v1
  · obtain ⟨v, v1, v2⟩ := h2 e
    show trW (-1 - tV b n (plc b n k)) = tV b n (plc b n k)
    rw [v2]; exact (tr_nm v v1).1
/-- a code that takes t values and leaves u -/
def wfG : List Int32 → Nat → Nat → Prop
  | [], t, u => t = u
  | x :: w, t, u => (-6 ≤ x ∧ x ≤ 9999 ∧ t < 40 ∧ wfG w (t + 1) u) ∨ ((x = -13 ∨ x = -19) ∧ 1 ≤ t ∧ wfG w t u) ∨ ((x = -11 ∨ x = -12 ∨ x = -14 ∨ x = -15 ∨ x = -16 ∨ x = -17 ∨ x = -18) ∧ 2 ≤ t ∧ wfG w (t - 1) u)
theorem wfG_app : ∀ (w v : List Int32) (t u r : Nat), wfG w t u → wfG v u r → wfG (w ++ v) t r
  | [], v, t, u, r, h, g => by
    have e : t = u := h
    subst e; exact g
  | x :: w, v, t, u, r, h, g => by
    rcases h with ⟨h1, h2, h3, h4⟩ | ⟨h1, h2, h3⟩ | ⟨h1, h2, h3⟩
    · exact Or.inl ⟨h1, h2, h3, wfG_app w v _ u r h4 g⟩
    · exact Or.inr (Or.inl ⟨h1, h2, wfG_app w v _ u r h3 g⟩)
    · exact Or.inr (Or.inr ⟨h1, h2, wfG_app w v _ u r h3 g⟩)
theorem wfG_R {c : Nat → Int32} : ∀ (w : List Int32) (t u i : Nat), wfG w t u → 1 ≤ u → (∀ j, j < w.length → c (i + j) = w.getD j 0) → wfR c w.length i t
  | [], t, u, i, h, hu, _ => by
    have e : t = u := h
    show 1 ≤ t
    omega
  | x :: w, t, u, i, h, hu, hc => by
    have h0 : c i = x := hc 0 (Nat.zero_lt_succ _)
    have hr : ∀ j, j < w.length → c (i + 1 + j) = w.getD j 0 := fun j hj => by
      rw [show i + 1 + j = i + (j + 1) from by omega]
      exact hc (j + 1) (Nat.succ_lt_succ hj)
    show (-6 ≤ c i ∧ c i ≤ 9999 ∧ t < 40 ∧ wfR c w.length (i + 1) (t + 1)) ∨ ((c i = -13 ∨ c i = -19) ∧ 1 ≤ t ∧ wfR c w.length (i + 1) t) ∨ ((c i = -11 ∨ c i = -12 ∨ c i = -14 ∨ c i = -15 ∨ c i = -16 ∨ c i = -17 ∨ c i = -18) ∧ 2 ≤ t ∧ wfR c w.length (i + 1) (t - 1))
    rw [h0]
    rcases h with ⟨h1, h2, h3, h4⟩ | ⟨h1, h2, h3⟩ | ⟨h1, h2, h3⟩
    · exact Or.inl ⟨h1, h2, h3, wfG_R w _ u _ h4 hu hr⟩
    · exact Or.inr (Or.inl ⟨h1, h2, wfG_R w _ u _ h3 hu hr⟩)
    · exact Or.inr (Or.inr ⟨h1, h2, wfG_R w _ u _ h3 hu hr⟩)
def bin (o : Int32) : Prop := o = -11 ∨ o = -12 ∨ o = -14 ∨ o = -15 ∨ o = -16 ∨ o = -17 ∨ o = -18
theorem wf_bin {w v : List Int32} {o : Int32} {t : Nat} (ho : bin o) (h : wfG w t (t + 1)) (g : wfG v (t + 1) (t + 1 + 1)) : wfG (w ++ v ++ [o]) t (t + 1) := wfG_app _ _ _ _ _ (wfG_app _ _ _ _ _ h g) (Or.inr (Or.inr ⟨ho, by omega, (show t + 1 + 1 - 1 = t + 1 by omega)⟩))
theorem lp_wf {K : Nat → Int32} {g : Nat → Except Nat (List Int32 × Nat)} {op : Int32 → Option Int32} {L : Nat} (hop : ∀ v o, op v = some o → bin o) (hg : ∀ k w k', g k = .ok (w, k') → ∀ t, t + L ≤ 40 → wfG w t (t + 1)) : ∀ (m : Nat) (s : List Int32 × Nat) (w : List Int32) (k' : Nat), lpS K g op m s = .ok (w, k') → ∀ t, t + (L + 1) ≤ 40 → wfG s.1 t (t + 1) → wfG w t (t + 1)
  | 0, s, w, k', e, t, ht, h => by
    have e' : (.ok s : Except Nat (List Int32 × Nat)) = .ok (w, k') := e
    cases e'; exact h
  | m + 1, s, w, k', e, t, ht, h => by
    rw [lpS_s] at e
    cases ho : op (K s.2) with
    | none => rw [ho] at e; cases e; exact h
    | some o =>
      rw [ho] at e
      dsimp only at e
      cases hr : g (s.2 + 1) with
      | error kf => rw [hr] at e; cases e
      | ok r =>
        rw [hr] at e
        exact lp_wf hop hg m _ w k' e t ht (wf_bin (hop _ _ ho) h (hg _ r.1 r.2 hr (t + 1) (by omega)))
theorem lev_wf {K : Nat → Int32} {g : Nat → Except Nat (List Int32 × Nat)} {op : Int32 → Option Int32} {L m k : Nat} (hop : ∀ v o, op v = some o → bin o) (hg : ∀ k w k', g k = .ok (w, k') → ∀ t, t + L ≤ 40 → wfG w t (t + 1)) : ∀ (w : List Int32) (k' : Nat), (match g k with | .error e => .error e | .ok s => lpS K g op m s) = (.ok (w, k') : Except Nat (List Int32 × Nat)) → ∀ t, t + (L + 1) ≤ 40 → wfG w t (t + 1) := fun w k' e t ht => by
  cases hr : g k with
  | error kf => rw [hr] at e; cases e
  | ok s => rw [hr] at e; exact lp_wf hop hg m s w k' e t ht (hg _ s.1 s.2 hr t (by omega))
theorem bin_cmp (v o : Int32) (h : opCmp v = some o) : bin o := by
  unfold opCmp at h
  by_cases a : v = 60
  · rw [if_pos a] at h; cases h; exact Or.inr (Or.inr (Or.inl rfl))
  rw [if_neg a] at h
  by_cases b : v = 61
  · rw [if_pos b] at h; cases h; exact Or.inr (Or.inr (Or.inr (Or.inl rfl)))
  · rw [if_neg b] at h; cases h
theorem bin_sum (v o : Int32) (h : opSum v = some o) : bin o := by
  unfold opSum at h
  by_cases a : v = 43
  · rw [if_pos a] at h; cases h; exact Or.inr (Or.inr (Or.inr (Or.inr (Or.inl rfl))))
  rw [if_neg a] at h
  by_cases b : v = 45
  · rw [if_pos b] at h; cases h; exact Or.inr (Or.inr (Or.inr (Or.inr (Or.inr (Or.inl rfl)))))
  · rw [if_neg b] at h; cases h
def VB (K V : Nat → Int32) : Prop := ∀ k, (K k = 2 → -6 ≤ V k ∧ V k ≤ 9999) ∧ (K k = 3 → -6 ≤ -1 - V k ∧ -1 - V k ≤ 9999)
theorem prs_wf {K V : Nat → Int32} (hV : VB K V) : ∀ (f lv d k : Nat) (w : List Int32) (k' : Nat), lv ≤ 5 → d ≤ 5 → prs K V f lv d k = .ok (w, k') → ∀ t, t + (5 * (5 - d) + (5 - lv) + 1) ≤ 40 → wfG w t (t + 1)
  | 0, lv, d, k, w, k', _, _, e, _, _ => by
    have e' : (.error k : Except Nat (List Int32 × Nat)) = .ok (w, k') := e
    cases e'
  | f + 1, lv, d, k, w, k', hlv, hd, e, t, ht => by
    rcases (by omega : lv = 0 ∨ lv = 1 ∨ lv = 2 ∨ lv = 3 ∨ lv = 4 ∨ lv = 5) with rfl | rfl | rfl | rfl | rfl | rfl
    · exact lev_wf (g := prs K V f 1 d) (op := opOr) (m := 160) (L := 5 * (5 - d) + (5 - 1) + 1) (fun v o h => by unfold opOr at h; split at h <;> cases h; exact Or.inl rfl) (fun k w k' => prs_wf hV f 1 d k w k' (by omega) hd) w k' e t (by omega)
    · exact lev_wf (g := prs K V f 2 d) (op := opAnd) (m := 160) (L := 5 * (5 - d) + (5 - 2) + 1) (fun v o h => by unfold opAnd at h; split at h <;> cases h; exact Or.inr (Or.inl rfl)) (fun k w k' => prs_wf hV f 2 d k w k' (by omega) hd) w k' e t (by omega)
    · have e' : (if K k = 9 ∧ d < 5 then (match prs K V f 2 (d + 1) (k + 1) with | .error e => .error e | .ok s => .ok (s.1 ++ [-13], s.2)) else (match prs K V f 3 d k with | .error e => .error e | .ok s => lpS K (prs K V f 3 d) opCmp 1 s)) = (.ok (w, k') : Except Nat (List Int32 × Nat)) := e
      by_cases c : K k = 9 ∧ d < 5
      · rw [if_pos c] at e'
        cases hr : prs K V f 2 (d + 1) (k + 1) with
        | error kf => rw [hr] at e'; cases e'
        | ok s =>
          rw [hr] at e'
          cases e'
          exact wfG_app _ _ _ _ _ (prs_wf hV f 2 (d + 1) (k + 1) s.1 s.2 (by omega) (by omega) hr t (by omega)) (Or.inr (Or.inl ⟨Or.inl rfl, by omega, rfl⟩))
      · rw [if_neg c] at e'
        exact lev_wf (g := prs K V f 3 d) (op := opCmp) (m := 1) (L := 5 * (5 - d) + (5 - 3) + 1) bin_cmp (fun k w k' => prs_wf hV f 3 d k w k' (by omega) hd) w k' e' t (by omega)
    · exact lev_wf (g := prs K V f 4 d) (op := opSum) (m := 160) (L := 5 * (5 - d) + (5 - 4) + 1) bin_sum (fun k w k' => prs_wf hV f 4 d k w k' (by omega) hd) w k' e t (by omega)
    · exact lev_wf (g := prs K V f 5 d) (op := opMul) (m := 160) (L := 5 * (5 - d) + (5 - 5) + 1) (fun v o h => by unfold opMul at h; split at h <;> cases h; exact Or.inr (Or.inr (Or.inr (Or.inr (Or.inr (Or.inr rfl)))))) (fun k w k' => prs_wf hV f 5 d k w k' (by omega) hd) w k' e t (by omega)
    · have e' : (if K k = 2 then .ok ([V k], k + 1) else if K k = 3 then .ok ([-1 - V k], k + 1)
        else if K k = 45 ∧ d < 5 then (match prs K V f 5 (d + 1) (k + 1) with | .error e => .error e | .ok s => .ok (s.1 ++ [-19], s.2))
        else if K k = 40 ∧ d < 5 then (match prs K V f 0 (d + 1) (k + 1) with | .error e => .error e | .ok s => if K s.2 = 41 then .ok (s.1, s.2 + 1) else .error s.2)
        else .error k) = (.ok (w, k') : Except Nat (List Int32 × Nat)) := e
      by_cases c2 : K k = 2
      · rw [if_pos c2] at e'; cases e'
        have := (hV k).1 c2
        exact Or.inl ⟨this.1, this.2, by omega, rfl⟩
      rw [if_neg c2] at e'
      by_cases c3 : K k = 3
      · rw [if_pos c3] at e'; cases e'
        have := (hV k).2 c3
        exact Or.inl ⟨this.1, this.2, by omega, rfl⟩
      rw [if_neg c3] at e'
      by_cases c45 : K k = 45 ∧ d < 5
      · rw [if_pos c45] at e'
        cases hr : prs K V f 5 (d + 1) (k + 1) with
        | error kf => rw [hr] at e'; cases e'
        | ok s =>
          rw [hr] at e'
          cases e'
          exact wfG_app _ _ _ _ _ (prs_wf hV f 5 (d + 1) (k + 1) s.1 s.2 (by omega) (by omega) hr t (by omega)) (Or.inr (Or.inl ⟨Or.inr rfl, by omega, rfl⟩))
      rw [if_neg c45] at e'
      by_cases c40 : K k = 40 ∧ d < 5
      · rw [if_pos c40] at e'
        cases hr : prs K V f 0 (d + 1) (k + 1) with
        | error kf => rw [hr] at e'; cases e'
        | ok s =>
          rw [hr] at e'
          dsimp only at e'
          by_cases c41 : K s.2 = 41
          · rw [if_pos c41] at e'; cases e'
            exact prs_wf hV f 0 (d + 1) (k + 1) s.1 s.2 (by omega) (by omega) hr t (by omega)
          · rw [if_neg c41] at e'; cases e'
      rw [if_neg c40] at e'; cases e'
theorem prt_wf {K V : Nat → Int32} (hV : VB K V) {key : Int32} {k : Nat} {s : List Int32 × Nat} (e : prt K V key k = .ok s) : wfG s.1 0 1 := by
  unfold prt at e
  by_cases c : K k = key
  · rw [if_pos c] at e
    cases hr : prs K V 40 0 0 (k + 1) with
    | error kf => rw [hr] at e; cases e
    | ok p =>
      rw [hr] at e
      dsimp only at e
      by_cases c59 : K p.2 = 59
      · rw [if_pos c59] at e; cases e
        exact prs_wf hV 40 0 0 (k + 1) p.1 p.2 (by omega) (by omega) hr 0 (by omega)
      · rw [if_neg c59] at e; cases e
  · rw [if_neg c] at e; cases e
theorem txt_wf {K V : Nat → Int32} (hV : VB K V) {w1 w2 w3 : List Int32} (e : txt K V = .ok (w1, w2, w3)) : wfG w1 0 1 ∧ wfG w2 0 1 ∧ wfG w3 0 1 := by
  unfold txt at e
  cases c1 : prt K V 4 0 with
  | error kf => rw [c1] at e; cases e
  | ok s1 =>
    rw [c1] at e
    dsimp only at e
    cases c2 : prt K V 5 s1.2 with
    | error kf => rw [c2] at e; cases e
    | ok s2 =>
      rw [c2] at e
      dsimp only at e
      cases c3 : prt K V 6 s2.2 with
      | error kf => rw [c3] at e; cases e
      | ok s3 =>
        rw [c3] at e
        dsimp only at e
        by_cases c0 : K s3.2 = 0
        · rw [if_pos c0] at e; cases e
          exact ⟨prt_wf hV c1, prt_wf hV c2, prt_wf hV c3⟩
        · rw [if_neg c0] at e; cases e
