/-! TEXT: the other one reads an E -/
theorem yO_k {K V : Nat → Int32} {k : Nat} {fl : Bool} {H : List Nat} {c : List Int32} {s' : Option Bool × List Nat × List Int32} (e : yO K V k fl H c = .ok s') : K k ≠ 0 ∧ K k ≠ 1 ∧ s'.2.1.length + s'.2.2.length ≤ H.length + c.length + 1 := by
  have l1 : ∀ w, (unw 7 H (c ++ [w])).1.length + (unw 7 H (c ++ [w])).2.length = H.length + c.length + 1 := fun w => by
    rw [unw_len, List.length_append]; show H.length + (c.length + 1) = _; omega
  unfold yO at e
  by_cases c2 : K k = 2
  · rw [if_pos c2] at e; cases e
    exact ⟨by rw [c2]; decide, by rw [c2]; decide, Nat.le_of_eq (l1 _)⟩
  rw [if_neg c2] at e
  by_cases c3 : K k = 3
  · rw [if_pos c3] at e; cases e
    exact ⟨by rw [c3]; decide, by rw [c3]; decide, Nat.le_of_eq (l1 _)⟩
  rw [if_neg c3] at e
  have l2 : ∀ s : Nat, (s :: H).length + c.length ≤ H.length + c.length + 1 := fun s => by show H.length + 1 + c.length ≤ _; omega
  have op : ∀ (x : Option Bool × List Nat × List Int32), (if opn H = 5 then Except.error none else .ok x) = (.ok s' : Except (Option (List Int32)) (Option Bool × List Nat × List Int32)) → s' = x := fun x h => by
    by_cases q : opn H = 5
    · rw [if_pos q] at h; cases h
    · rw [if_neg q] at h; cases h; rfl
  by_cases c9 : K k = 9 ∧ fl = true
  · rw [if_pos c9] at e; rw [op _ e]
    exact ⟨by rw [c9.1]; decide, by rw [c9.1]; decide, l2 13⟩
  rw [if_neg c9] at e
  by_cases c45 : K k = 45
  · rw [if_pos c45] at e; rw [op _ e]
    exact ⟨by rw [c45]; decide, by rw [c45]; decide, l2 19⟩
  rw [if_neg c45] at e
  by_cases c40 : K k = 40
  · rw [if_pos c40] at e; rw [op _ e]
    exact ⟨by rw [c40]; decide, by rw [c40]; decide, l2 0⟩
  rw [if_neg c40] at e; cases e
theorem yO_n {K V : Nat → Int32} {k : Nat} {fl : Bool} {H : List Nat} {c c' : List Int32} : yO K V k fl H c ≠ .error (some c') := by
  intro e
  unfold yO at e
  by_cases c2 : K k = 2
  · rw [if_pos c2] at e; cases e
  rw [if_neg c2] at e
  by_cases c3 : K k = 3
  · rw [if_pos c3] at e; cases e
  rw [if_neg c3] at e
  have op : ∀ (x : Option Bool × List Nat × List Int32), (if opn H = 5 then Except.error none else .ok x) ≠ (.error (some c') : Except (Option (List Int32)) (Option Bool × List Nat × List Int32)) := fun x h => by
    by_cases q : opn H = 5
    · rw [if_pos q] at h; cases h
    · rw [if_neg q] at h; cases h
  by_cases c9 : K k = 9 ∧ fl = true
  · rw [if_pos c9] at e; exact op _ e
  rw [if_neg c9] at e
  by_cases c45 : K k = 45
  · rw [if_pos c45] at e; exact op _ e
  rw [if_neg c45] at e
  by_cases c40 : K k = 40
  · rw [if_pos c40] at e; exact op _ e
  rw [if_neg c40] at e; cases e
theorem yN_k {K : Nat → Int32} {k : Nat} {H : List Nat} {c : List Int32} : (∀ s', yN K k H c = .ok s' → K k ≠ 0 ∧ K k ≠ 1 ∧ s'.2.1.length + s'.2.2.length ≤ H.length + c.length + 1) ∧ ∀ c', yN K k H c = .error (some c') → K k ≠ 0 ∧ K k ≠ 1 ∧ c'.length ≤ H.length + c.length := by
  unfold yN
  have u1 := unw_len 1 H c
  by_cases c59 : K k = 59
  · rw [if_pos c59]
    by_cases q : (unw 1 H c).1 = []
    · rw [if_pos q]
      exact ⟨fun s' e => (by cases e), fun c' e => (by cases e; exact ⟨by rw [c59]; decide, by rw [c59]; decide, by omega⟩)⟩
    · rw [if_neg q]
      exact ⟨fun s' e => (by cases e), fun c' e => (by cases e)⟩
  rw [if_neg c59]
  by_cases c41 : K k = 41
  · rw [if_pos c41]
    cases hU : (unw 1 H c).1 with
    | nil => exact ⟨fun s' e => (by cases e), fun c' e => (by cases e)⟩
    | cons t G =>
      rw [hU] at u1
      have u1' : G.length + 1 + (unw 1 H c).2.length = H.length + c.length := u1
      refine ⟨fun s' e => ?_, fun c' e => (by cases e)⟩
      cases e
      have u2 := unw_len 7 G (unw 1 H c).2
      exact ⟨by rw [c41]; decide, by rw [c41]; decide, by show (unw 7 G (unw 1 H c).2).1.length + (unw 7 G (unw 1 H c).2).2.length ≤ _; omega⟩
  rw [if_neg c41]
  by_cases c0 : sgS (K k) = 0
  · rw [if_pos c0]; exact ⟨fun s' e => (by cases e), fun c' e => (by cases e)⟩
  rw [if_neg c0]
  have n01 : K k ≠ 0 ∧ K k ≠ 1 := ⟨fun q => c0 (by rw [q]; decide), fun q => c0 (by rw [q]; decide)⟩
  by_cases c4 : rkS (sgS (K k)) = 4 ∧ rk4 (unw 5 H c).1 = true
  · rw [if_pos c4]; exact ⟨fun s' e => (by cases e), fun c' e => (by cases e)⟩
  rw [if_neg c4]
  refine ⟨fun s' e => ?_, fun c' e => (by cases e)⟩
  cases e
  have u2 := unw_len (lst (rkS (sgS (K k)))) H c
  exact ⟨n01.1, n01.2, by show (unw (lst (rkS (sgS (K k)))) H c).1.length + 1 + (unw (lst (rkS (sgS (K k)))) H c).2.length ≤ _; omega⟩
abbrev ktF (b : Nat → Int32) (n : Nat) : Nat → Int32 := fun k => tK b n (plc b n k)
abbrev vtF (b : Nat → Int32) (n : Nat) : Nat → Int32 := fun k => tV b n (plc b n k)
theorem YM.tx {b : Nat → Int32} {n T p o : Nat} {M0 M : hMem} {z : Int32} {H : List Nat} {c : List Int32} (hTX : TXm b n M0) (h : YM T M0 z p o H c M) : TXm b n M := ⟨hTX.1, by rw [h.2.1 11 (by unfold kY; omega)]; exact hTX.2.1, fun i hi => by rw [h.1 9 (by omega) (by omega) (by omega)]; exact hTX.2.2.1 i hi, fun i hi => by rw [h.1 17 (by omega) (by omega) (by omega)]; exact hTX.2.2.2 i hi⟩
theorem YM.tok {b : Nat → Int32} {n q T p o : Nat} {M0 M r : hMem} {z : Int32} {H : List Nat} {c : List Int32} (h : YM T M0 z p o H c M) (hr : pTok b n q M r) : YM T M0 (nI q) (tEnd b n q) o H c r := by
  obtain ⟨h1, h2, h3, h4, h5, h6, h7, h8, h9, h10⟩ := h
  obtain ⟨r1, r2, r3, r4, r5, r6, r7⟩ := hr
  refine ⟨?_, ?_, ?_, ?_, ?_, ?_, ?_, ?_, r4, r3⟩
  · intro a a1 a2 a3; rw [r1 a a1]; exact h1 a a1 a2 a3
  · intro j hj; rw [r2 j (by unfold kY at hj; omega)]; exact h2 j hj
  · intro j hj; rw [r1 10 (by omega)]; exact h3 j hj
  · rw [r2 31 (by omega)]; exact h4
  · rw [r2 32 (by omega)]; exact h5
  · rw [r2 33 (by omega)]; exact h6
  · rw [r1 18 (by omega)]; exact h7
  · intro i hi; rw [r1 10 (by omega)]; exact h8 i hi
theorem m_run {b : Nat → Int32} {n T E : Nat} {M0 : hMem} (hT : T < 6) (h14 : M0 0 14 = nI T) (hTX : TXm b n M0) (hb : ∀ i, i < 160 → h_ib (b i) 256) (hE : tkE E (ktF b n)) (hV : VOK (ktF b n) (vtF b n)) : ∀ (g k : Nat) (s : Option Bool × List Nat × List Int32) (M : hMem) (v1 v2 z : Int32) (p fuel : Nat), YM T M0 z p (opn s.2.1) s.2.1 s.2.2 M → p ≤ n → spn blk b n 160 p = plc b n k → enc s.1 v1 v2 → s.2.1.length + s.2.2.length ≤ k → k ≤ E → g ≤ fuel → (∀ kf, yg (ktF b n) (vtF b n) g k s = .error kf → kf < k + g → ∃ M' p' o H' c', h_lp fX10_eRead_L14 fuel (v1, v2, M) = some (0, M') ∧ YM T M0 (nI (plc b n kf)) p' o H' c' M') ∧ ∀ c' k', yg (ktF b n) (vtF b n) g k s = .ok (c', k') → ∃ M' p' o z', h_lp fX10_eRead_L14 fuel (v1, v2, M) = some (1, M') ∧ YM T M0 z' p' o [] c' M' ∧ p' ≤ n ∧ spn blk b n 160 p' = plc b n k' ∧ c'.length ≤ k' ∧ k' ≤ E := by
  intro g
  induction g with
  | zero =>
    intro k s M v1 v2 z p fuel h hp hs he hl hk hf
    exact ⟨fun kf e h1 => (by cases e; omega), fun c' k' e => (by cases e)⟩
  | succ g ih =>
    intro k s M v1 v2 z p fuel h hp hs he hl hk hf
    obtain ⟨fu, rfl⟩ : ∃ fu, fuel = fu + 1 := ⟨fuel - 1, by omega⟩
    obtain ⟨st, H, c⟩ := s
    have hE160 := hE.1
    obtain ⟨r, r1, r2⟩ := m_next (h.tx hTX) hb hp h.2.2.2.2.2.2.2.2.1
    rw [hs] at r2
    have hr := h.tok r2
    obtain ⟨-, -, -, -, q27, q28, -⟩ := r2
    have hin : ktF b n k ∈ tkl := tK_in b n _
    have hSR : SR T M0 (nI (plc b n k)) (tEnd b n (plc b n k)) (yst (ktF b n) (vtF b n) k (st, H, c)) (fun k14 => fX10_eRead_L14 k14 (v1, v2, M)) := by
      unfold fX10_eRead_L14
      simp only [r1, Option.bind_some]
      cases st with
      | some fl =>
        obtain ⟨e1, e2⟩ := he
        subst e1
        simp only [if_neg (show ¬ (1 : Int32) = 0 by decide)]
        exact m_stO hT h14 hE hk hl hin hV hr q27 q28 e2
      | none =>
        have e1 : v1 = 0 := he
        subst e1
        simp only [if_pos rfl]
        exact m_stN hT h14 hE hk hl hin hr q27 rfl
    have hpl := plc_le b n k
    obtain ⟨t1, t2, t3⟩ := tEnd_le (b := b) hpl
    rw [lp_s]
    cases hy : yst (ktF b n) (vtF b n) k (st, H, c) with
    | ok s' =>
      rw [hy] at hSR
      obtain ⟨w1, w2, M', a1, a2, a3⟩ := hSR
      have hkl : ktF b n k ≠ 0 ∧ ktF b n k ≠ 1 ∧ s'.2.1.length + s'.2.2.length ≤ H.length + c.length + 1 := by
        cases st with
        | some fl => exact yO_k hy
        | none => exact yN_k.1 s' hy
      have hlt := hE.lt hk hkl.1 hkl.2.1
      have hl' : H.length + c.length ≤ k := hl
      have := ih (k + 1) s' M' w1 w2 _ (tEnd b n (plc b n k)) fu a3 t2 rfl a2 (by omega) hlt (by omega)
      rw [yg_ok hy, show fX10_eRead_L14 (h_lp fX10_eRead_L14 fu) (v1, v2, M) = h_lp fX10_eRead_L14 fu (w1, w2, M') from a1 _]
      exact ⟨fun kf e h1 => this.1 kf e (by omega), this.2⟩
    | error oc =>
      cases oc with
      | none =>
        rw [hy] at hSR
        obtain ⟨M', o, H', c', a1, a2⟩ := hSR
        rw [yg_er hy, show fX10_eRead_L14 (h_lp fX10_eRead_L14 fu) (v1, v2, M) = some (0, M') from a1 _]
        exact ⟨fun kf e _ => (by cases e; exact ⟨M', _, o, H', c', rfl, a2⟩), fun c' k' e => (by cases e)⟩
      | some cc =>
        rw [hy] at hSR
        obtain ⟨M', o, a1, a2⟩ := hSR
        have hkl : ktF b n k ≠ 0 ∧ ktF b n k ≠ 1 ∧ cc.length ≤ H.length + c.length := by
          cases st with
          | some fl => exact absurd hy yO_n
          | none => exact yN_k.2 cc hy
        have hlt := hE.lt hk hkl.1 hkl.2.1
        have hl' : H.length + c.length ≤ k := hl
        rw [yg_en hy, show fX10_eRead_L14 (h_lp fX10_eRead_L14 fu) (v1, v2, M) = some (1, M') from a1 _]
        exact ⟨fun kf e _ => (by cases e), fun c' k' e => by cases e; exact ⟨M', _, o, _, rfl, a2, t2, rfl, by omega, hlt⟩⟩
