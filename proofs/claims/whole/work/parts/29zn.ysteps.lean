/-! TEXT: the yard's small steps in the other one's memory -/
def hld (r : Nat → Int32) : List Nat → Prop
  | [] => True
  | s :: H => r H.length = nI s ∧ (s = 0 ∨ (11 ≤ s ∧ s < 20)) ∧ hld r H
theorem hld.up {r : Nat → Int32} {v : Int32} {j : Nat} : ∀ {H : List Nat}, hld r H → H.length ≤ j → hld (upd r j v) H
  | [], _, _ => trivial
  | s :: H, h, hj => by
    have hj' : H.length + 1 ≤ j := hj
    exact ⟨by rw [u_n (by omega)]; exact h.1, h.2.1, h.2.2.up (by omega)⟩
def kY (j : Nat) : Prop := j < 25 ∨ (28 < j ∧ j ≠ 31 ∧ j ≠ 32 ∧ j ≠ 33)
/-- the other one reads on: at place p, so many begun, these held, this code -/
def YM (T : Nat) (M0 : hMem) (z : Int32) (p o : Nat) (H : List Nat) (c : List Int32) (M : hMem) : Prop := (∀ a, a ≠ 0 → a ≠ 10 → a ≠ 18 → M a = M0 a) ∧ (∀ j, kY j → M 0 j = M0 0 j) ∧ (∀ j, j < 200 * T → M 10 j = M0 10 j) ∧ M 0 31 = nI H.length ∧ M 0 32 = nI o ∧ M 0 33 = nI c.length ∧ hld (M 18) H ∧ (∀ i, i < c.length → M 10 (200 * T + i) = trW (c.getD i 0)) ∧ M 0 25 = nI p ∧ M 0 26 = z
theorem YM.puts {T p o : Nat} {M0 M : hMem} {z : Int32} {H : List Nat} {c : List Int32} (hT : T < 6) (h14 : M0 0 14 = nI T) (h : YM T M0 z p o H c M) (hc : c.length < 160) (w : Int32) : ∃ M', fX10_puts (trW w) M = some M' ∧ YM T M0 z p o H (c ++ [w]) M' := by
  obtain ⟨h1, h2, h3, h4, h5, h6, h7, h8, h9, h10⟩ := h
  have e14 : M 0 14 = nI T := by rw [h2 14 (by unfold kY; omega)]; exact h14
  unfold fX10_puts
  rw [e14, h6, show (200 : Int32) * nI T = nI (200 * T) from pk_mul 200 T, nI_add, if_pos (ib_mk (by omega) (by omega)), nI_clamp (by omega)]
  refine ⟨_, rfl, ?_, ?_, ?_, ?_, ?_, ?_, ?_, ?_, ?_, ?_⟩
  · intro a a1 a2 a3; simp (disch := omega) only [m_row]; exact h1 a a1 a2 a3
  · intro j hj
    have : j ≠ 33 := by unfold kY at hj; omega
    simp (disch := omega) only [m_own, m_row, u_n]; exact h2 j hj
  · intro j hj; simp (disch := omega) only [m_own, m_row, u_n]; exact h3 j hj
  · simp (disch := omega) only [m_own, m_row, u_n]; exact h4
  · simp (disch := omega) only [m_own, m_row, u_n]; exact h5
  · simp (disch := omega) only [m_own, m_row, u_s]
    rw [h6, nI_1, List.length_append]; rfl
  · simp (disch := omega) only [m_row]; exact h7
  · intro i hi
    rw [List.length_append] at hi
    have hi' : i < c.length + 1 := hi
    simp (disch := omega) only [m_own, m_row]
    rw [getD_app, u_e]
    by_cases e : i = c.length
    · subst e; rw [if_pos rfl, if_neg (by omega), if_pos rfl]
    · rw [if_neg (by omega), if_pos (by omega)]; exact h8 i (by omega)
  · simp (disch := omega) only [m_own, m_row, u_n]; exact h9
  · simp (disch := omega) only [m_own, m_row, u_n]; exact h10
theorem YM.opd {T p o o' : Nat} {M0 M : hMem} {z : Int32} {H : List Nat} {c : List Int32} (h : YM T M0 z p o H c M) {v : Int32} (hv : v = nI o') : YM T M0 z p o' H c (h_up M 0 32 v) := by
  obtain ⟨h1, h2, h3, h4, h5, h6, h7, h8, h9, h10⟩ := h
  subst hv
  refine ⟨?_, ?_, ?_, ?_, ?_, ?_, ?_, ?_, ?_, ?_⟩
  · intro a a1 a2 a3; rw [m_row a1]; exact h1 a a1 a2 a3
  · intro j hj
    have : j ≠ 32 := by unfold kY at hj; omega
    rw [m_own, u_n this]; exact h2 j hj
  · intro j hj; rw [m_row (by omega)]; exact h3 j hj
  · rw [m_own, u_n (by omega)]; exact h4
  · rw [m_own, u_s]
  · rw [m_own, u_n (by omega)]; exact h6
  · rw [m_row (by omega)]; exact h7
  · intro i hi; rw [m_row (by omega)]; exact h8 i hi
  · rw [m_own, u_n (by omega)]; exact h9
  · rw [m_own, u_n (by omega)]; exact h10
theorem YM.pop {T p o s : Nat} {M0 M : hMem} {z : Int32} {H : List Nat} {c : List Int32} (h : YM T M0 z p o (s :: H) c M) {v : Int32} (hv : v = nI H.length) : YM T M0 z p o H c (h_up M 0 31 v) := by
  obtain ⟨h1, h2, h3, h4, h5, h6, h7, h8, h9, h10⟩ := h
  subst hv
  refine ⟨?_, ?_, ?_, ?_, ?_, ?_, ?_, ?_, ?_, ?_⟩
  · intro a a1 a2 a3; rw [m_row a1]; exact h1 a a1 a2 a3
  · intro j hj
    have : j ≠ 31 := by unfold kY at hj; omega
    rw [m_own, u_n this]; exact h2 j hj
  · intro j hj; rw [m_row (by omega)]; exact h3 j hj
  · rw [m_own, u_s]
  · rw [m_own, u_n (by omega)]; exact h5
  · rw [m_own, u_n (by omega)]; exact h6
  · rw [m_row (by omega)]; exact h7.2.2
  · intro i hi; rw [m_row (by omega)]; exact h8 i hi
  · rw [m_own, u_n (by omega)]; exact h9
  · rw [m_own, u_n (by omega)]; exact h10
theorem YM.holds {T p o s : Nat} {M0 M : hMem} {z : Int32} {H : List Nat} {c : List Int32} (h : YM T M0 z p o H c M) (hH : H.length < 200) (hs : s = 0 ∨ (11 ≤ s ∧ s < 20)) : ∃ M', fX10_holds (nI s) M = some M' ∧ YM T M0 z p o (s :: H) c M' := by
  obtain ⟨h1, h2, h3, h4, h5, h6, h7, h8, h9, h10⟩ := h
  unfold fX10_holds
  rw [h4, if_pos (ib_mk (by omega) (by omega)), nI_clamp (by omega)]
  refine ⟨_, rfl, ?_, ?_, ?_, ?_, ?_, ?_, ?_, ?_, ?_, ?_⟩
  · intro a a1 a2 a3; simp (disch := omega) only [m_row]; exact h1 a a1 a2 a3
  · intro j hj
    have : j ≠ 31 := by unfold kY at hj; omega
    simp (disch := omega) only [m_own, m_row, u_n]; exact h2 j hj
  · intro j hj; simp (disch := omega) only [m_row]; exact h3 j hj
  · simp (disch := omega) only [m_own, m_row, u_s]; rw [h4, nI_1]; rfl
  · simp (disch := omega) only [m_own, m_row, u_n]; exact h5
  · simp (disch := omega) only [m_own, m_row, u_n]; exact h6
  · simp (disch := omega) only [m_own, m_row]
    exact ⟨u_s _ _ _, hs, h7.up (Nat.le_refl _)⟩
  · intro i hi; simp (disch := omega) only [m_row]; exact h8 i hi
  · simp (disch := omega) only [m_own, m_row, u_n]; exact h9
  · simp (disch := omega) only [m_own, m_row, u_n]; exact h10
theorem rk_m : ∀ s, s < 20 → ∀ M : hMem, fX10_rank (nI s) M = nI (rkS s) := fun s hs M => of_decide_eq_true (h_forall (N := 20) (p := fun s => decide (fX10_rank (nI s) hM0 = nI (rkS s))) (by decide +kernel) hs)
theorem rk_b : ∀ s, s < 20 → rkS s ≤ 7 := by decide
theorem rk_0 : ∀ s, s < 20 → (rkS s = 0 ↔ s = 0) := by decide
theorem tr_s : ∀ s, s < 20 → 11 ≤ s → trW (-(nI s)) = nI s := by decide
theorem unw_len (l : Nat) : ∀ (H : List Nat) (c : List Int32), (unw l H c).1.length + (unw l H c).2.length = H.length + c.length
  | [], c => rfl
  | s :: H, c => by
    rw [unw_c]
    by_cases h : rkS s < l
    · rw [if_pos h]
    · rw [if_neg h, unw_len l H _, List.length_append]
      show H.length + (c.length + 1) = H.length + 1 + c.length
      omega
theorem m_unw {T p l : Nat} {M0 : hMem} {z : Int32} (hT : T < 6) (h14 : M0 0 14 = nI T) (hl : 1 ≤ l) (hl8 : l ≤ 8) : ∀ (H : List Nat) (c : List Int32) (M : hMem) (fuel : Nat), H.length < fuel → H.length + c.length ≤ 160 → YM T M0 z p (opn H) H c M → ∃ M', h_lp (fX10_unwinds_L0 (nI l)) fuel M = some M' ∧ YM T M0 z p (opn (unw l H c).1) (unw l H c).1 (unw l H c).2 M'
  | [], c, M, fuel, hf, _, h => by
    obtain ⟨g, rfl⟩ : ∃ g, fuel = g + 1 := ⟨fuel - 1, by have : 0 < fuel := hf; omega⟩
    have h4 : M 0 31 = (0 : Int32) := h.2.2.2.1
    refine ⟨M, ?_, h⟩
    rw [lp_s]
    unfold fX10_unwinds_L0
    rw [h4, if_pos (by decide)]
  | s :: H, c, M, fuel, hf, hlen, h => by
    obtain ⟨g, rfl⟩ : ∃ g, fuel = g + 1 := ⟨fuel - 1, by have : H.length + 1 < fuel := hf; omega⟩
    have hf' : H.length < g := by have : H.length + 1 < g + 1 := hf; omega
    have hlen' : H.length + 1 + c.length ≤ 160 := hlen
    have h4 : M 0 31 = nI (H.length + 1) := h.2.2.2.1
    have h5 : M 0 32 = nI (opn (s :: H)) := h.2.2.2.2.1
    have h7 := h.2.2.2.2.2.2.1
    have hs20 : s < 20 := by have := h7.2.1; omega
    have e31 : M 0 31 - 1 = nI H.length := by rw [h4, nI_sub1 (by omega)]; rfl
    rw [lp_s]
    unfold fX10_unwinds_L0
    simp only [e31, nI_clamp (show H.length < 2 ^ 31 by omega), h7.1, rk_m s hs20]
    rw [h4, if_neg (show ¬ nI (H.length + 1) ≤ (0 : Int32) from nI_ge (a := 0) (by omega) (by omega)), if_pos (ib_mk (by omega) (by omega)), unw_c]
    by_cases hr : rkS s < l
    · rw [if_pos (nI_lt hr (by omega)), if_pos hr]
      exact ⟨M, rfl, h⟩
    · have hrb := rk_b s hs20
      have hs0 : s ≠ 0 := fun e => by rw [e] at hr; exact hr (show 0 < l by omega)
      have hs11 : 11 ≤ s := by have := h7.2.1; omega
      rw [if_neg (nI_nlt (by omega) (by omega)), if_neg hr]
      have hp := h.pop (v := nI H.length) rfl
      have p18 : h_up M 0 31 (nI H.length) 18 H.length = nI s := by rw [m_row (by omega)]; exact h7.1
      have p31 : h_up M 0 31 (nI H.length) 0 31 = nI H.length := by rw [m_own, u_s]
      have p32 : h_up M 0 31 (nI H.length) 0 32 = nI (opn (s :: H)) := by rw [m_own, u_n (by omega)]; exact h5
      generalize h_up M 0 31 (nI H.length) = M1 at hp p18 p31 p32 ⊢
      simp only [p31, nI_clamp (show H.length < 2 ^ 31 by omega), p18, p32]
      rw [if_pos (ib_mk (by omega) (by omega))]
      have fin : ∀ v, v = nI (opn H) → ∃ M', (fX10_puts (nI s) (h_up M1 0 32 v)).bind (fun q73 => h_lp (fX10_unwinds_L0 (nI l)) g q73) = some M' ∧ YM T M0 z p (opn (unw l H (c ++ [-(nI s)])).1) (unw l H (c ++ [-(nI s)])).1 (unw l H (c ++ [-(nI s)])).2 M' := fun v hv => by
        have hq := hp.opd hv
        obtain ⟨M2, a1, a2⟩ := hq.puts hT h14 (by omega) (-(nI s))
        rw [tr_s s hs20 hs11] at a1
        rw [a1, Option.bind_some]
        exact m_unw hT h14 hl hl8 H (c ++ [-(nI s)]) M2 g hf' (by rw [List.length_append]; show H.length + (c.length + 1) ≤ 160; omega) a2
      have opn1 : (s = 13 ∨ s = 19) → opn (s :: H) = opn H + 1 := fun q => by
        show opn H + (if s = 0 ∨ s = 13 ∨ s = 19 then 1 else 0) = _
        rw [if_pos (Or.inr q)]
      have opn0 : ¬ (s = 13 ∨ s = 19) → opn (s :: H) = opn H := fun q => by
        show opn H + (if s = 0 ∨ s = 13 ∨ s = 19 then 1 else 0) = _
        rw [if_neg (fun r => r.elim hs0 q)]; rfl
      by_cases c13 : s = 13
      · rw [if_pos (show nI s = 13 by rw [c13]; rfl)]
        unfold fX10_unwinds_L62
        exact fin _ (by rw [opn1 (Or.inl c13), nI_sub1 (by omega)]; rfl)
      rw [if_neg (show ¬ nI s = 13 from nI_neq 13 (by omega) (by omega) c13)]
      by_cases c19 : s = 19
      · rw [if_pos (show nI s = 19 by rw [c19]; rfl)]
        unfold fX10_unwinds_L62
        exact fin _ (by rw [opn1 (Or.inr c19), nI_sub1 (by omega)]; rfl)
      rw [if_neg (show ¬ nI s = 19 from nI_neq 19 (by omega) (by omega) c19)]
      exact fin _ (by rw [opn0 (fun q => q.elim c13 c19), Int32.sub_zero])
/-- the signs held are signs -/
def oks (H : List Nat) : Prop := ∀ s, s ∈ H → s = 0 ∨ (11 ≤ s ∧ s < 20)
theorem hld.oks {r : Nat → Int32} : ∀ {H : List Nat}, hld r H → oks H
  | [], _ => fun s hs => by cases hs
  | s :: H, h => fun t ht => by
    rcases List.mem_cons.mp ht with e | e
    · rw [e]; exact h.2.1
    · exact h.2.2.oks t e
theorem m_unwinds {T p l : Nat} {M0 M : hMem} {z : Int32} {H : List Nat} {c : List Int32} (hT : T < 6) (h14 : M0 0 14 = nI T) (hl : 1 ≤ l) (hl8 : l ≤ 8) (hlen : H.length + c.length ≤ 160) (h : YM T M0 z p (opn H) H c M) : ∃ M', fX10_unwinds (nI l) M = some M' ∧ YM T M0 z p (opn (unw l H c).1) (unw l H c).1 (unw l H c).2 M' := m_unw hT h14 hl hl8 H c M h_FU (by unfold h_FU; omega) hlen h
theorem m_opens {T p s : Nat} {M0 M : hMem} {z : Int32} {H : List Nat} {c : List Int32} (hs : s = 0 ∨ s = 13 ∨ s = 19) (hH : H.length < 200) (h : YM T M0 z p (opn H) H c M) : (opn H = 5 → fX10_opensOne (nI s) M = some (0, M)) ∧ (opn H ≠ 5 → opn H < 2 ^ 30 → ∃ M', fX10_opensOne (nI s) M = some (1, M') ∧ YM T M0 z p (opn (s :: H)) (s :: H) c M') := by
  have h5 := h.2.2.2.2.1
  unfold fX10_opensOne
  rw [h5]
  refine ⟨fun e => by rw [e, if_pos (by decide)], fun e hb => ?_⟩
  rw [if_neg (show ¬ nI (opn H) = 5 from nI_neq 5 (by omega) (by omega) e), nI_1]
  obtain ⟨M', a1, a2⟩ := (h.opd (o' := opn H + 1) rfl).holds hH (s := s) (by omega)
  rw [a1, Option.bind_some]
  refine ⟨M', rfl, ?_⟩
  rw [show opn (s :: H) = opn H + 1 from by show opn H + (if s = 0 ∨ s = 13 ∨ s = 19 then 1 else 0) = _; rw [if_pos hs]]
  exact a2
theorem m_btw {T p s : Nat} {M0 M : hMem} {z : Int32} {H : List Nat} {c : List Int32} (hT : T < 6) (h14 : M0 0 14 = nI T) (hs : 11 ≤ s ∧ s < 19) (hs13 : s ≠ 13) (hlen : H.length + c.length ≤ 160) (h : YM T M0 z p (opn H) H c M) : (rkS s = 4 ∧ rk4 (unw 5 H c).1 = true → ∃ M' o H' c', fX10_between (nI s) M = some (0, M') ∧ YM T M0 z p o H' c' M') ∧ (¬ (rkS s = 4 ∧ rk4 (unw 5 H c).1 = true) → ∃ M', fX10_between (nI s) M = some (1, M') ∧ YM T M0 z p (opn (s :: (unw (lst (rkS s)) H c).1)) (s :: (unw (lst (rkS s)) H c).1) (unw (lst (rkS s)) H c).2 M') := by
  have hs20 : s < 20 := by omega
  have hrb := rk_b s hs20
  have hr0 : rkS s ≠ 0 := fun e => by have := (rk_0 s hs20).mp e; omega
  have opn0 : ∀ G, opn (s :: G) = opn G := fun G => by
    show opn G + (if s = 0 ∨ s = 13 ∨ s = 19 then 1 else 0) = _
    rw [if_neg (by omega)]; rfl
  have hll : 1 ≤ lst (rkS s) ∧ lst (rkS s) ≤ 8 := by
    unfold lst
    by_cases e : rkS s = 4
    · rw [if_pos e]; omega
    · rw [if_neg e]; omega
  have ebt : fX10_between (nI s) M = fX10_between_L17 (nI s) (nI (lst (rkS s))) M := by
    unfold fX10_between lst
    rw [rk_m s hs20]
    by_cases e : rkS s = 4
    · rw [if_pos (show nI (rkS s) = 4 by rw [e]; rfl), if_pos e]; rfl
    · rw [if_neg (show ¬ nI (rkS s) = 4 from nI_neq 4 (by omega) (by omega) e), if_neg e]
  obtain ⟨M1, a1, a2⟩ := m_unwinds hT h14 hll.1 hll.2 hlen h
  have hul := unw_len (lst (rkS s)) H c
  rw [ebt]
  unfold fX10_between_L17
  rw [a1, Option.bind_some, rk_m s hs20]
  have hold : ∃ M', (fX10_holds (nI s) M1).bind (fun q57 => some ((1 : Int32), q57)) = some (1, M') ∧ YM T M0 z p (opn (s :: (unw (lst (rkS s)) H c).1)) (s :: (unw (lst (rkS s)) H c).1) (unw (lst (rkS s)) H c).2 M' := by
    obtain ⟨M2, b1, b2⟩ := a2.holds (s := s) (by omega) (by omega)
    rw [b1, Option.bind_some]
    exact ⟨M2, rfl, by rw [opn0]; exact b2⟩
  by_cases e : rkS s = 4
  · have el : lst (rkS s) = 5 := by unfold lst; rw [if_pos e]
    rw [el] at a2 hold hul ⊢
    rw [if_pos (show nI (rkS s) = 4 by rw [e]; rfl)]
    cases hU : (unw 5 H c).1 with
    | nil =>
      rw [hU] at a2 hold
      have h31 : M1 0 31 = (0 : Int32) := a2.2.2.2.1
      rw [h31, if_pos (by decide)]
      exact ⟨fun q => absurd q.2 (by decide), fun _ => hold⟩
    | cons t G =>
      rw [hU] at a2 hold hul
      have hul' : G.length + 1 + (unw 5 H c).2.length = H.length + c.length := hul
      have h31 : M1 0 31 = nI (G.length + 1) := a2.2.2.2.1
      have h7 := a2.2.2.2.2.2.2.1
      have ht20 : t < 20 := by have := h7.2.1; omega
      have htb := rk_b t ht20
      rw [h31, if_neg (show ¬ nI (G.length + 1) ≤ (0 : Int32) from nI_ge (a := 0) (by omega) (by omega)), nI_sub1 (by omega), show G.length + 1 - 1 = G.length from rfl, if_pos (ib_mk (by omega) (by omega)), nI_clamp (by omega), h7.1, rk_m t ht20]
      by_cases e4 : rkS t = 4
      · rw [if_pos (show nI (rkS t) = 4 by rw [e4]; rfl)]
        exact ⟨fun _ => ⟨M1, _, _, _, rfl, a2⟩, fun q => absurd ⟨e, decide_eq_true e4⟩ q⟩
      · rw [if_neg (show ¬ nI (rkS t) = 4 from nI_neq 4 (by omega) (by omega) e4)]
        exact ⟨fun q => absurd (of_decide_eq_true q.2) e4, fun _ => hold⟩
  · rw [if_neg (show ¬ nI (rkS s) = 4 from nI_neq 4 (by omega) (by omega) e)]
    exact ⟨fun q => absurd q.1 e, fun _ => hold⟩
