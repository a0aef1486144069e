/-! TEXT: the other one reads a text -/
def YB (T : Nat) (M0 : hMem) (z : Int32) (p : Nat) (c : List Int32) (M : hMem) : Prop := (∀ a, a ≠ 0 → a ≠ 10 → a ≠ 18 → M a = M0 a) ∧ (∀ j, kY j → M 0 j = M0 0 j) ∧ (∀ j, j < 200 * T → M 10 j = M0 10 j) ∧ M 0 33 = nI c.length ∧ (∀ i, i < c.length → M 10 (200 * T + i) = trW (c.getD i 0)) ∧ M 0 25 = nI p ∧ M 0 26 = z
theorem YM.yb {T p o : Nat} {M0 M : hMem} {z : Int32} {H : List Nat} {c : List Int32} (h : YM T M0 z p o H c M) : YB T M0 z p c M := by
  obtain ⟨h1, h2, h3, h4, h5, h6, h7, h8, h9, h10⟩ := h
  exact ⟨h1, h2, h3, h6, h8, h9, h10⟩
theorem YB.ym {T p : Nat} {M0 M : hMem} {z : Int32} {c : List Int32} (h : YB T M0 z p c M) : YM T M0 z p 0 [] c (h_up (h_up M 0 31 0) 0 32 0) := by
  obtain ⟨h1, h2, h3, h6, h8, h9, h10⟩ := h
  refine ⟨?_, ?_, ?_, ?_, ?_, ?_, trivial, ?_, ?_, ?_⟩
  · intro a a1 a2 a3; simp (disch := omega) only [m_row]; exact h1 a a1 a2 a3
  · intro j hj
    have : j ≠ 31 ∧ j ≠ 32 := by unfold kY at hj; omega
    simp (disch := omega) only [m_own, u_n]; exact h2 j hj
  · intro j hj; simp (disch := omega) only [m_row]; exact h3 j hj
  · simp (disch := omega) only [m_own, u_n, u_s]; rfl
  · simp (disch := omega) only [m_own, u_s]; rfl
  · simp (disch := omega) only [m_own, u_n]; exact h6
  · intro i hi; simp (disch := omega) only [m_row]; exact h8 i hi
  · simp (disch := omega) only [m_own, u_n]; exact h9
  · simp (disch := omega) only [m_own, u_n]; exact h10
theorem YB.tok {b : Nat → Int32} {n q T p : Nat} {M0 M r : hMem} {z : Int32} {c : List Int32} (h : YB T M0 z p c M) (hr : pTok b n q M r) : YB T M0 (nI q) (tEnd b n q) c r := by
  obtain ⟨h1, h2, h3, h6, h8, h9, h10⟩ := h
  obtain ⟨r1, r2, r3, r4, r5, r6, r7⟩ := hr
  refine ⟨?_, ?_, ?_, ?_, ?_, r4, r3⟩
  · intro a a1 a2 a3; rw [r1 a a1]; exact h1 a a1 a2 a3
  · intro j hj; rw [r2 j (by unfold kY at hj; omega)]; exact h2 j hj
  · intro j hj; rw [r1 10 (by omega)]; exact h3 j hj
  · rw [r2 33 (by omega)]; exact h6
  · intro i hi; rw [r1 10 (by omega)]; exact h8 i hi
theorem YB.r11 {T p j : Nat} {M0 M : hMem} {z v : Int32} {c : List Int32} (h : YB T M0 z p c M) : YB T (h_up M0 11 j v) z p c (h_up M 11 j v) := by
  obtain ⟨h1, h2, h3, h6, h8, h9, h10⟩ := h
  refine ⟨?_, ?_, ?_, ?_, ?_, ?_, ?_⟩
  · intro a a1 a2 a3
    by_cases e : a = 11
    · subst e; rw [m_own, m_own, h1 11 (by omega) (by omega) (by omega)]
    · rw [m_row e, m_row e]; exact h1 a a1 a2 a3
  · intro i hi; rw [m_row (by omega), m_row (by omega)]; exact h2 i hi
  · intro i hi; rw [m_row (by omega), m_row (by omega)]; exact h3 i hi
  · rw [m_row (by omega)]; exact h6
  · intro i hi; rw [m_row (by omega)]; exact h8 i hi
  · rw [m_row (by omega)]; exact h9
  · rw [m_row (by omega)]; exact h10
theorem YB.tx {b : Nat → Int32} {n T p : Nat} {M0 M : hMem} {z : Int32} {c : List Int32} (hTX : TXm b n M0) (h : YB T M0 z p c M) : TXm b n M := ⟨hTX.1, by rw [h.2.1 11 (by unfold kY; omega)]; exact hTX.2.1, fun i hi => by rw [h.1 9 (by omega) (by omega) (by omega)]; exact hTX.2.2.1 i hi, fun i hi => by rw [h.1 17 (by omega) (by omega) (by omega)]; exact hTX.2.2.2 i hi⟩
theorem TXm.r11 {b : Nat → Int32} {n j : Nat} {M0 : hMem} {v : Int32} (h : TXm b n M0) : TXm b n (h_up M0 11 j v) := ⟨h.1, by rw [m_row (by omega)]; exact h.2.1, fun i hi => by rw [m_row (by omega)]; exact h.2.2.1 i hi, fun i hi => by rw [m_row (by omega)]; exact h.2.2.2 i hi⟩
/-- an E -/
theorem m_eRead {b : Nat → Int32} {n T E k p : Nat} {M0 M : hMem} {z : Int32} {c : List Int32} (hT : T < 6) (h14 : M0 0 14 = nI T) (hTX : TXm b n M0) (hb : ∀ i, i < 160 → h_ib (b i) 256) (hE : tkE E (ktF b n)) (hV : VOK (ktF b n) (vtF b n)) (h : YB T M0 z p c M) (hp : p ≤ n) (hs : spn blk b n 160 p = plc b n k) (hl : c.length ≤ k) (hk : k ≤ E) : (∀ w k', prs (ktF b n) (vtF b n) 40 0 0 k = .ok (w, k') → (ktF b n k' = 59 → ∃ M' z' p', fX10_eRead M = some (1, M') ∧ YB T M0 z' p' (c ++ w) M' ∧ p' ≤ n ∧ spn blk b n 160 p' = plc b n (k' + 1) ∧ (c ++ w).length ≤ k' + 1 ∧ k' + 1 ≤ E) ∧ (ktF b n k' ≠ 59 → ∃ M' p' c', fX10_eRead M = some (0, M') ∧ YB T M0 (nI (plc b n k')) p' c' M')) ∧ ∀ kf, prs (ktF b n) (vtF b n) 40 0 0 k = .error kf → ∃ M' p' c', fX10_eRead M = some (0, M') ∧ YB T M0 (nI (plc b n kf)) p' c' M' := by
  have hE160 := hE.1
  obtain ⟨y1, y2⟩ := y_all (V := vtF b n) (c := c) hE hk
  have run := fun g hg => m_run hT h14 hTX hb hE hV g k (some true, [], c) _ 1 1 z p h_FU h.ym hp hs ⟨rfl, rfl⟩ (by show 0 + c.length ≤ k; omega) hk hg
  refine ⟨fun w k' e => ?_, fun kf e => ?_⟩
  · obtain ⟨a1, a2, a3, a4⟩ := y1 w k' e
    refine ⟨fun c59 => ?_, fun c59 => ?_⟩
    · obtain ⟨M', p', o, z', r1, r2, r3, r4, r5, r6⟩ := (run (0 + 1 + (k' - k)) (by unfold h_FU; omega)).2 _ _ (a3 c59 0)
      exact ⟨M', z', p', r1, r2.yb, r3, r4, r5, r6⟩
    · obtain ⟨M', p', o, H', c', r1, r2⟩ := (run (0 + 1 + (k' - k)) (by unfold h_FU; omega)).1 _ (a4 c59 0) (by omega)
      exact ⟨M', p', c', r1, r2.yb⟩
  · obtain ⟨a1, a2, a3⟩ := y2 kf e
    obtain ⟨M', p', o, H', c', r1, r2⟩ := (run (0 + 1 + (kf - k)) (by unfold h_FU; omega)).1 _ (a3 0) (by omega)
    exact ⟨M', p', c', r1, r2.yb⟩
/-- a part -/
theorem m_part {b : Nat → Int32} {n T E k p a : Nat} {M0 M : hMem} {z : Int32} {c : List Int32} (hT : T < 6) (ha : a < 3) (h14 : M0 0 14 = nI T) (hTX : TXm b n M0) (hb : ∀ i, i < 160 → h_ib (b i) 256) (hE : tkE E (ktF b n)) (hV : VOK (ktF b n) (vtF b n)) (h : YB T M0 z p c M) (hp : p ≤ n) (hs : spn blk b n 160 p = plc b n k) (hl : c.length ≤ k) (hk : k ≤ E) : (∀ w k', prt (ktF b n) (vtF b n) (nI (4 + a)) k = .ok (w, k') → ∃ M' z' p', (∀ kont, fX10_text_L26 kont (1, nI a, M) = kont (1, nI (a + 1), M')) ∧ YB T (h_up M0 11 (4 * T + a) (nI c.length)) z' p' (c ++ w) M' ∧ p' ≤ n ∧ spn blk b n 160 p' = plc b n k' ∧ (c ++ w).length ≤ k' ∧ k' ≤ E) ∧ ∀ kf, prt (ktF b n) (vtF b n) (nI (4 + a)) k = .error kf → ∃ M' p' c', (∀ kont, fX10_text_L26 kont (1, nI a, M) = kont (0, nI (a + 1), M')) ∧ YB T (h_up M0 11 (4 * T + a) (nI c.length)) (nI (plc b n kf)) p' c' M' := by
  obtain ⟨r, r1, r2⟩ := m_next (h.tx hTX) hb hp h.2.2.2.2.2.1
  rw [hs] at r2
  have hr := h.tok r2
  obtain ⟨-, -, -, -, q27, -, q28⟩ := r2
  have hin : ktF b n k ∈ tkl := tK_in b n _
  have hpl := plc_le b n k
  obtain ⟨t1, t2, t3⟩ := tEnd_le (b := b) hpl
  have e14 : r 0 14 = nI T := by rw [hr.2.1 14 (by unfold kY; omega)]; exact h14
  have e33 : r 0 33 = nI c.length := hr.2.2.2.1
  have h3 : ¬ (3 : Int32) ≤ nI a := nI_ge (b := 3) ha (by decide)
  have h1 : ¬ (1 : Int32) = 0 := by decide
  have hix : (4 : Int32) * nI T + nI a = nI (4 * T + a) := by rw [show (4 : Int32) * nI T = nI (4 * T) from pk_mul 4 T, nI_add]
  have h60 : ∀ kont t0, fX10_text_L60 kont (nI a) t0 r = if t0 = 0 then (kont (0, nI (a + 1), h_up r 11 (4 * T + a) (nI c.length))) else ((fX10_eRead (h_up r 11 (4 * T + a) (nI c.length))).bind fun q83 => if q83.1 = 0 then (kont (0, nI (a + 1), q83.2)) else (kont (1, nI (a + 1), q83.2))) := fun kont t0 => by
    unfold fX10_text_L60
    rw [e14, e33, hix, if_pos (ib_mk (by omega) (by omega)), nI_clamp (by omega), nI_1]
  have hr11 := hr.r11 (j := 4 * T + a) (v := nI c.length)
  unfold fX10_text_L26
  simp only [if_neg h3, if_neg h1, r1, Option.bind_some]
  unfold fX10_text_L59
  simp only [h60, if_neg h1, q27, ite_true]
  unfold prt
  by_cases ck : ktF b n k = nI (4 + a)
  · have hm3 : mK (ktF b n k) = 3 := by
      rw [mK_3 _ hin, ck]
      rcases (by omega : a = 0 ∨ a = 1 ∨ a = 2) with rfl | rfl | rfl <;> decide
    have h28 : r 0 28 = nI a := q28 a ha ck
    have hlt := hE.lt hk (fun q => absurd (ck.symm.trans q) (show ¬ nI (4 + a) = 0 from nI_neq 0 (by omega) (by omega) (by omega))) (fun q => absurd (ck.symm.trans q) (show ¬ nI (4 + a) = 1 from nI_neq 1 (by omega) (by omega) (by omega)))
    simp only [show mK (tK b n (plc b n k)) = 3 from hm3, h28, if_pos rfl]
    rw [if_pos ck]
    obtain ⟨e1, e2⟩ := m_eRead hT (by rw [m_row (by omega)]; exact h14) hTX.r11 hb hE hV hr11 t2 (show spn blk b n 160 (tEnd b n (plc b n k)) = plc b n (k + 1) from rfl) (by omega) hlt
    cases hres : prs (ktF b n) (vtF b n) 40 0 0 (k + 1) with
    | error kf =>
      obtain ⟨M', p', c', d1, d2⟩ := e2 kf hres
      simp only [d1, Option.bind_some, if_pos rfl]
      exact ⟨fun w k' e => (by cases e), fun kf' e => (by cases e; exact ⟨M', p', c', fun kont => rfl, d2⟩)⟩
    | ok s =>
      obtain ⟨f1, f2⟩ := e1 s.1 s.2 hres
      dsimp only
      by_cases c59 : ktF b n s.2 = 59
      · obtain ⟨M', z', p', d1, d2, d3, d4, d5, d6⟩ := f1 c59
        rw [if_pos c59]
        simp only [d1, Option.bind_some, if_neg h1]
        exact ⟨fun w k' e => (by cases e; exact ⟨M', z', p', fun kont => rfl, d2, d3, d4, d5, d6⟩), fun kf e => (by cases e)⟩
      · obtain ⟨M', p', c', d1, d2⟩ := f2 c59
        rw [if_neg c59]
        simp only [d1, Option.bind_some, if_pos rfl]
        exact ⟨fun w k' e => (by cases e), fun kf' e => (by cases e; exact ⟨M', p', c', fun kont => rfl, d2⟩)⟩
  · rw [if_neg ck]
    refine ⟨fun w k' e => (by cases e), fun kf e => ?_⟩
    cases e
    refine ⟨_, _, _, fun kont => ?_, hr11⟩
    by_cases hm3 : mK (tK b n (plc b n k)) = 3
    · rw [if_pos hm3, if_neg]
      intro q
      have : ∃ g, g < 3 ∧ ktF b n k = nI (4 + g) := by
        rcases (mK_3 _ hin).mp hm3 with e | e | e
        · exact ⟨0, by omega, e⟩
        · exact ⟨1, by omega, e⟩
        · exact ⟨2, by omega, e⟩
      obtain ⟨g, hg, eg⟩ := this
      rw [q28 g hg eg] at q
      have : g = a := (nI_eq (by omega) (by omega)).mp q
      subst this
      exact ck eg
    · rw [if_neg hm3]
def MEnd (T : Nat) (M0 M' : hMem) : Prop := (∀ a, a ≠ 0 → a ≠ 10 → a ≠ 11 → a ≠ 18 → M' a = M0 a) ∧ (∀ j, kY j → j ≠ 11 → j ≠ 14 → M' 0 j = M0 0 j) ∧ (∀ j, j < 200 * T → M' 10 j = M0 10 j) ∧ (∀ j, j < 4 * T → M' 11 j = M0 11 j) ∧ M' 0 11 = 0
theorem m_122 {T p : Nat} {M0 M : hMem} {z : Int32} {c : List Int32} (hT : T < 6) (h14 : M0 0 14 = nI T) (h : YB T M0 z p c M) : (∃ M', fX10_text_L122 0 M = some (-100 - z, M') ∧ MEnd T M0 M' ∧ M' 0 14 = nI T) ∧ ∃ M', fX10_text_L122 1 M = some (nI T, M') ∧ MEnd T M0 M' ∧ M' 0 14 = nI (T + 1) ∧ (∀ i, i < c.length → M' 10 (200 * T + i) = trW (c.getD i 0)) ∧ (∀ j, j < 3 → M' 11 (4 * T + j) = M0 11 (4 * T + j)) ∧ M' 11 (4 * T + 3) = nI c.length := by
  obtain ⟨h1, h2, h3, h6, h8, h9, h10⟩ := h
  have e14 : M 0 14 = nI T := by rw [h2 14 (by unfold kY; omega)]; exact h14
  have hix : (4 : Int32) * nI T + 3 = nI (4 * T + 3) := by rw [show (4 : Int32) * nI T = nI (4 * T) from pk_mul 4 T]; exact nI_add _ 3
  have hme : MEnd T M0 (h_up (h_up M 11 (4 * T + 3) (nI c.length)) 0 11 0) := by
    refine ⟨?_, ?_, ?_, ?_, ?_⟩
    · intro a a1 a2 a3 a4; simp (disch := omega) only [m_row]; exact h1 a a1 a2 a4
    · intro j hj j1 j2; simp (disch := omega) only [m_own, m_row, u_n]; exact h2 j hj
    · intro j hj; simp (disch := omega) only [m_row]; exact h3 j hj
    · intro j hj; simp (disch := omega) only [m_row, m_own, u_n]; rw [h1 11 (by omega) (by omega) (by omega)]
    · rw [m_own, u_s]
  unfold fX10_text_L122
  rw [e14, hix, if_pos (ib_mk (by omega) (by omega)), if_pos (ib_mk (by omega) (by omega)), nI_clamp (by omega), h6, if_pos rfl, if_neg (show ¬ (1 : Int32) = 0 by decide)]
  have z26 : (h_up (h_up M 11 (4 * T + 3) (nI c.length)) 0 11 0) 0 26 = z := by simp (disch := omega) only [m_own, m_row, u_n]; exact h10
  have z14 : (h_up (h_up M 11 (4 * T + 3) (nI c.length)) 0 11 0) 0 14 = nI T := by simp (disch := omega) only [m_own, m_row, u_n]; exact e14
  have z10 : ∀ j, (h_up (h_up M 11 (4 * T + 3) (nI c.length)) 0 11 0) 10 j = M 10 j := fun j => by simp (disch := omega) only [m_row]
  have z11 : ∀ j, (h_up (h_up M 11 (4 * T + 3) (nI c.length)) 0 11 0) 11 j = if j = 4 * T + 3 then nI c.length else M0 11 j := fun j => by
    simp (disch := omega) only [m_row, m_own]
    rw [u_e, h1 11 (by omega) (by omega) (by omega)]
  generalize (h_up (h_up M 11 (4 * T + 3) (nI c.length)) 0 11 0) = M2 at hme z26 z14 z10 z11 ⊢
  rw [z26, z14, nI_1]
  refine ⟨⟨M2, rfl, hme, z14⟩, h_up M2 0 14 (nI (T + 1)), ?_, ⟨?_, ?_, ?_, ?_, ?_⟩, ?_, ?_, ?_, ?_⟩
  · rw [m_own, u_s, nI_sub1 (by omega)]; rfl
  · intro a a1 a2 a3 a4; rw [m_row a1]; exact hme.1 a a1 a2 a3 a4
  · intro j hj j1 j2; rw [m_own, u_n j2]; exact hme.2.1 j hj j1 j2
  · intro j hj; rw [m_row (by omega)]; exact hme.2.2.1 j hj
  · intro j hj; rw [m_row (by omega)]; exact hme.2.2.2.1 j hj
  · rw [m_own, u_n (by omega)]; exact hme.2.2.2.2
  · rw [m_own, u_s]
  · intro i hi; rw [m_row (by omega), z10]; exact h8 i hi
  · intro j hj; rw [m_row (by omega), z11, if_neg (by omega)]
  · rw [m_row (by omega), z11, if_pos rfl]
theorem m_bad {T p j : Nat} {M0 M : hMem} {z : Int32} {c : List Int32} (hT : T < 6) (h14 : M0 0 14 = nI T) (h : YB T M0 z p c M) : ∃ M', (∀ kont, fX10_text_L26 kont (0, nI j, M) = some (-100 - z, M')) ∧ MEnd T M0 M' ∧ M' 0 14 = nI T := by
  obtain ⟨M', a1, a2⟩ := (m_122 hT h14 h).1
  refine ⟨M', fun kont => ?_, a2⟩
  unfold fX10_text_L26 fX10_text_L101
  simp only [if_pos rfl, a1]
  split <;> rfl
/-- the whole text -/
def txt (K V : Nat → Int32) : Except Nat (List Int32 × List Int32 × List Int32) := match prt K V 4 0 with
  | .error e => .error e
  | .ok s1 => (match prt K V 5 s1.2 with
    | .error e => .error e
    | .ok s2 => (match prt K V 6 s2.2 with
      | .error e => .error e
      | .ok s3 => if K s3.2 = 0 then .ok (s1.1, s2.1, s3.1) else .error s3.2))
theorem MEnd.r11 {T j : Nat} {M0 M' : hMem} {v : Int32} (h : MEnd T (h_up M0 11 (4 * T + j) v) M') : MEnd T M0 M' := by
  obtain ⟨h1, h2, h3, h4, h5⟩ := h
  exact ⟨fun a a1 a2 a3 a4 => by rw [h1 a a1 a2 a3 a4, m_row a3], fun i hi i1 i2 => by rw [h2 i hi i1 i2, m_row (by omega)], fun i hi => by rw [h3 i hi, m_row (by omega)], fun i hi => by rw [h4 i hi, m_own, u_n (by omega)], h5⟩
theorem m_text {b : Nat → Int32} {n T E : Nat} {M : hMem} (hT : T < 6) (h14 : M 0 14 = nI T) (hTX : TXm b n M) (hb : ∀ i, i < 160 → h_ib (b i) 256) (hE : tkE E (ktF b n)) (hV : VOK (ktF b n) (vtF b n)) : (∀ kf, txt (ktF b n) (vtF b n) = .error kf → ∃ M', fX10_text M = some (-100 - nI (plc b n kf), M') ∧ MEnd T M M' ∧ M' 0 14 = nI T) ∧ ∀ w1 w2 w3, txt (ktF b n) (vtF b n) = .ok (w1, w2, w3) → ∃ M', fX10_text M = some (nI T, M') ∧ MEnd T M M' ∧ M' 0 14 = nI (T + 1) ∧ (∀ i, i < (w1 ++ w2 ++ w3).length → M' 10 (200 * T + i) = trW ((w1 ++ w2 ++ w3).getD i 0)) ∧ M' 11 (4 * T) = 0 ∧ M' 11 (4 * T + 1) = nI w1.length ∧ M' 11 (4 * T + 2) = nI (w1 ++ w2).length ∧ M' 11 (4 * T + 3) = nI (w1 ++ w2 ++ w3).length := by
  unfold fX10_text
  rw [h14, if_neg (show ¬ nI T = 6 from nI_neq 6 (by omega) (by omega) (by omega))]
  have hB : YB T M (M 0 26) 0 [] (h_up (h_up M 0 25 0) 0 33 0) := by
    refine ⟨?_, ?_, ?_, ?_, ?_, ?_, ?_⟩
    · intro a a1 a2 a3; simp (disch := omega) only [m_row]
    · intro j hj
      have : j ≠ 25 ∧ j ≠ 33 := by unfold kY at hj; omega
      simp (disch := omega) only [m_own, u_n]
    · intro j hj; simp (disch := omega) only [m_row]
    · rw [m_own, u_s]; rfl
    · intro i hi; exact absurd hi (Nat.not_lt_zero _)
    · simp (disch := omega) only [m_own, u_n, u_s]; rfl
    · simp (disch := omega) only [m_own, u_n]
  generalize h_up (h_up M 0 25 0) 0 33 0 = M1 at hB ⊢
  unfold txt
  rw [show h_FU = 19996 + 1 + 1 + 1 + 1 from rfl, lp_s]
  obtain ⟨g1, b1⟩ := m_part (a := 0) (k := 0) hT (by omega) h14 hTX hb hE hV hB (Nat.zero_le _) rfl (Nat.zero_le _) (Nat.zero_le _)
  cases p1 : prt (ktF b n) (vtF b n) 4 0 with
  | error kf =>
    obtain ⟨M', p', c', d1, d2⟩ := b1 kf p1
    obtain ⟨M2, f1, f2, f3⟩ := m_bad (j := 0 + 1) hT (by rw [m_row (by omega)]; exact h14) d2
    rw [show fX10_text_L26 (h_lp fX10_text_L26 (19996 + 1 + 1 + 1)) (1, 0, M1) = h_lp fX10_text_L26 (19996 + 1 + 1 + 1) (0, nI (0 + 1), M') from d1 _, lp_s, f1]
    exact ⟨fun kf' e => (by cases e; exact ⟨M2, rfl, f2.r11, f3⟩), fun w1 w2 w3 e => (by cases e)⟩
  | ok s1 =>
    obtain ⟨M2, z2, q2, d1, hB2, d3, d4, d5, d6⟩ := g1 s1.1 s1.2 p1
    rw [show fX10_text_L26 (h_lp fX10_text_L26 (19996 + 1 + 1 + 1)) (1, 0, M1) = h_lp fX10_text_L26 (19996 + 1 + 1 + 1) (1, nI (0 + 1), M2) from d1 _, lp_s]
    have e14 : (h_up M 11 (4 * T + 0) (nI ([] : List Int32).length)) 0 14 = nI T := by rw [m_row (by omega)]; exact h14
    obtain ⟨g2, b2⟩ := m_part (a := 1) (k := s1.2) hT (by omega) e14 hTX.r11 hb hE hV hB2 d3 d4 d5 d6
    dsimp only
    cases p2 : prt (ktF b n) (vtF b n) 5 s1.2 with
    | error kf =>
      obtain ⟨M', p', c', d1', d2'⟩ := b2 kf p2
      obtain ⟨M3, f1, f2, f3⟩ := m_bad (j := 1 + 1) hT (by rw [m_row (by omega)]; exact e14) d2'
      rw [show fX10_text_L26 (h_lp fX10_text_L26 (19996 + 1 + 1)) (1, nI (0 + 1), M2) = h_lp fX10_text_L26 (19996 + 1 + 1) (0, nI (1 + 1), M') from d1' _, lp_s, f1]
      exact ⟨fun kf' e => (by cases e; exact ⟨M3, rfl, f2.r11.r11, f3⟩), fun w1 w2 w3 e => (by cases e)⟩
    | ok s2 =>
      obtain ⟨M3, z3, q3, h1', hB3, h3', h4', h5', h6'⟩ := g2 s2.1 s2.2 p2
      rw [show fX10_text_L26 (h_lp fX10_text_L26 (19996 + 1 + 1)) (1, nI (0 + 1), M2) = h_lp fX10_text_L26 (19996 + 1 + 1) (1, nI (1 + 1), M3) from h1' _, lp_s]
      have e14b : (h_up (h_up M 11 (4 * T + 0) (nI ([] : List Int32).length)) 11 (4 * T + 1) (nI ([] ++ s1.1).length)) 0 14 = nI T := by rw [m_row (by omega)]; exact e14
      obtain ⟨g3, b3⟩ := m_part (a := 2) (k := s2.2) hT (by omega) e14b hTX.r11.r11 hb hE hV hB3 h3' h4' h5' h6'
      dsimp only
      cases p3 : prt (ktF b n) (vtF b n) 6 s2.2 with
      | error kf =>
        obtain ⟨M', p', c', d1', d2'⟩ := b3 kf p3
        obtain ⟨M4, f1, f2, f3⟩ := m_bad (j := 2 + 1) hT (by rw [m_row (by omega)]; exact e14b) d2'
        rw [show fX10_text_L26 (h_lp fX10_text_L26 (19996 + 1)) (1, nI (1 + 1), M3) = h_lp fX10_text_L26 (19996 + 1) (0, nI (2 + 1), M') from d1' _, lp_s, f1]
        exact ⟨fun kf' e => (by cases e; exact ⟨M4, rfl, f2.r11.r11.r11, f3⟩), fun w1 w2 w3 e => (by cases e)⟩
      | ok s3 =>
        obtain ⟨M4, z4, q4, k1', hB4, k3', k4', k5', k6'⟩ := g3 s3.1 s3.2 p3
        rw [show fX10_text_L26 (h_lp fX10_text_L26 (19996 + 1)) (1, nI (1 + 1), M3) = h_lp fX10_text_L26 (19996 + 1) (1, nI (2 + 1), M4) from k1' _, lp_s]
        have e14c : (h_up (h_up (h_up M 11 (4 * T + 0) (nI ([] : List Int32).length)) 11 (4 * T + 1) (nI ([] ++ s1.1).length)) 11 (4 * T + 2) (nI ([] ++ s1.1 ++ s2.1).length)) 0 14 = nI T := by rw [m_row (by omega)]; exact e14b
        obtain ⟨r, r1, r2⟩ := m_next (hB4.tx hTX.r11.r11.r11) hb k3' hB4.2.2.2.2.2.1
        rw [k4'] at r2
        have hr := hB4.tok r2
        obtain ⟨-, -, -, -, q27, -, -⟩ := r2
        have hin : ktF b n s3.2 ∈ tkl := tK_in b n _
        obtain ⟨x1, x2⟩ := m_122 hT e14c hr
        unfold fX10_text_L26 fX10_text_L101 fX10_text_L121
        dsimp only
        rw [if_pos (show (3 : Int32) ≤ nI (2 + 1) from by decide), if_neg (show ¬ (1 : Int32) = 0 by decide), r1, Option.bind_some, q27]
        by_cases c0 : ktF b n s3.2 = 0
        · rw [if_pos ((mK_0 _ hin).mpr c0), if_pos c0]
          obtain ⟨M', a1, a2, a3, a4, a5, a6⟩ := x2
          refine ⟨fun kf e => (by cases e), fun w1 w2 w3 e => ?_⟩
          cases e
          refine ⟨M', a1, a2.r11.r11.r11, a3, a4, ?_, ?_, ?_, a6⟩
          · rw [show 4 * T = 4 * T + 0 from rfl, a5 0 (by omega)]; simp (disch := omega) only [m_own, u_n, u_s]; rfl
          · rw [a5 1 (by omega)]; simp (disch := omega) only [m_own, u_n, u_s]; rfl
          · rw [a5 2 (by omega)]; simp (disch := omega) only [m_own, u_n, u_s]; rfl
        · rw [if_neg (fun q => c0 ((mK_0 _ hin).mp q)), if_neg c0]
          obtain ⟨M', a1, a2, a3⟩ := x1
          exact ⟨fun kf e => (by cases e; exact ⟨M', a1, a2.r11.r11.r11, a3⟩), fun w1 w2 w3 e => (by cases e)⟩
