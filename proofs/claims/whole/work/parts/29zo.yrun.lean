/-! TEXT: the other one reads an E as the yard does -/
def tkl : List Int32 := [0, 1, 2, 3, 4, 5, 6, 7, 8, 9, 40, 41, 59, 43, 45, 42, 60, 61]
theorem ky_in : ∀ w, w < 13 → kyV w ∈ tkl := by decide
theorem sgn_in {v : Int32} (h : sgn v = true) : v ∈ tkl := by
  unfold sgn fX5_isSign at h
  by_cases c1 : v = 40
  · subst c1; decide
  by_cases c2 : v = 41
  · subst c2; decide
  by_cases c3 : v = 59
  · subst c3; decide
  by_cases c4 : v = 43
  · subst c4; decide
  by_cases c5 : v = 45
  · subst c5; decide
  by_cases c6 : v = 42
  · subst c6; decide
  by_cases c7 : v = 60
  · subst c7; decide
  by_cases c8 : v = 61
  · subst c8; decide
  rw [if_neg c1, if_neg c2, if_neg c3, if_neg c4, if_neg c5, if_neg c6, if_neg c7, if_neg c8] at h
  exact absurd h (by decide)
theorem tK_in (b : Nat → Int32) (n i : Nat) : tK b n i ∈ tkl := by
  unfold tK
  by_cases c1 : n ≤ i
  · rw [if_pos c1]; decide
  rw [if_neg c1]
  by_cases c2 : dig (b i) = true
  · rw [if_pos c2]
    by_cases c3 : tEnd b n i - i ≤ 4
    · rw [if_pos c3]; decide
    · rw [if_neg c3]; decide
  rw [if_neg c2]
  by_cases c4 : ltr (b i) = true
  · rw [if_pos c4]
    by_cases c5 : 1 ≤ tW b n i ∧ tW b n i ≤ 6
    · rw [if_pos c5]; decide
    · rw [if_neg c5]; exact ky_in _ (wrd_lt b n i _)
  rw [if_neg c4]
  by_cases c6 : sgn (b i) = true
  · rw [if_pos c6]; exact sgn_in c6
  · rw [if_neg c6]; decide
def sgM (v : Int32) : Int32 := if v = 4 then 11 else (if v = 5 then 12 else (if v = 60 then 14 else (if v = 61 then 15 else (if v = 43 then 16 else (if v = 45 then 17 else (if v = 42 then 18 else (-1)))))))
theorem mK_1 : ∀ v, v ∈ tkl → (mK v = 1 ↔ v = 2) := by decide
theorem mK_2 : ∀ v, v ∈ tkl → (mK v = 2 ↔ v = 3) := by decide
theorem mK_6 : ∀ v, v ∈ tkl → (mK v = 6 ↔ v = 9) := by decide
theorem mK_45 : ∀ v, v ∈ tkl → (mK v = 45 ↔ v = 45) := by decide
theorem mK_40 : ∀ v, v ∈ tkl → (mK v = 40 ↔ v = 40) := by decide
theorem mK_59 : ∀ v, v ∈ tkl → (mK v = 59 ↔ v = 59) := by decide
theorem mK_41 : ∀ v, v ∈ tkl → (mK v = 41 ↔ v = 41) := by decide
theorem mK_0 : ∀ v, v ∈ tkl → (mK v = 0 ↔ v = 0) := by decide
theorem mK_3 : ∀ v, v ∈ tkl → (mK v = 3 ↔ v = 4 ∨ v = 5 ∨ v = 6) := by decide
theorem mK_s : ∀ v, v ∈ tkl → sgM (mK v) = if sgS v = 0 then -1 else nI (sgS v) := by decide
theorem sgS_r (v : Int32) : sgS v = 0 ∨ (11 ≤ sgS v ∧ sgS v < 19 ∧ sgS v ≠ 13) := by
  unfold sgS
  repeat (split; · exact Or.inr (by decide))
  exact Or.inl rfl
def enc (st : Option Bool) (v1 v2 : Int32) : Prop := match st with
  | some fl => v1 = 1 ∧ v2 = if fl = true then 1 else 0
  | none => v1 = 0
def SR (T : Nat) (M0 : hMem) (z : Int32) (p : Nat) (res : Except (Option (List Int32)) (Option Bool × List Nat × List Int32)) (A : (Int32 × Int32 × hMem → Option (Int32 × hMem)) → Option (Int32 × hMem)) : Prop := match res with
  | .ok s' => ∃ v1 v2 M', (∀ kont, A kont = kont (v1, v2, M')) ∧ enc s'.1 v1 v2 ∧ YM T M0 z p (opn s'.2.1) s'.2.1 s'.2.2 M'
  | .error none => ∃ M' o H' c', (∀ kont, A kont = some (0, M')) ∧ YM T M0 z p o H' c' M'
  | .error (some c') => ∃ M' o, (∀ kont, A kont = some (1, M')) ∧ YM T M0 z p o [] c' M'
/-- what the tokens' values are -/
def VOK (K V : Nat → Int32) : Prop := ∀ k, (K k = 2 → trW (V k) = 100000 + V k) ∧ (K k = 3 → trW (-1 - V k) = V k)
theorem opn_len : ∀ H : List Nat, opn H ≤ H.length
  | [] => Nat.le_refl _
  | s :: H => by
    have := opn_len H
    show opn H + (if s = 0 ∨ s = 13 ∨ s = 19 then 1 else 0) ≤ H.length + 1
    split <;> omega
/-- one token where an operand is wanted -/
theorem m_stO {T p k E : Nat} {K V : Nat → Int32} {M0 r : hMem} {z : Int32} {H : List Nat} {c : List Int32} {v2 : Int32} {fl : Bool} (hT : T < 6) (h14 : M0 0 14 = nI T) (hE : tkE E K) (hk : k ≤ E) (hlen : H.length + c.length ≤ k) (hin : K k ∈ tkl) (hV : VOK K V) (h : YM T M0 z p (opn H) H c r) (h27 : r 0 27 = mK (K k)) (h28 : (K k = 2 ∨ K k = 3) → r 0 28 = V k) (hv2 : v2 = if fl = true then 1 else 0) : SR T M0 z p (yO K V k fl H c) (fun k14 => if (r 0 27) = 1 then (fX10_eRead_L38 k14 v2 r) else (if (r 0 27) = 2 then (fX10_eRead_L38 k14 v2 r) else (if (r 0 27) = 6 then (if v2 = 0 then (fX10_eRead_L99 k14 1 r) else ((fX10_opensOne 13 r).bind fun q91 => if q91.1 = 0 then (some (0, q91.2)) else (k14 (1, v2, q91.2)))) else (fX10_eRead_L99 k14 1 r)))) := by
  have hE160 := hE.1
  have hol := opn_len H
  have lit : ∀ m : Int32, K k = m → m ≠ 0 → m ≠ 1 → k < E := fun m e n0 n1 => hE.lt hk (by rw [e]; exact n0) (by rw [e]; exact n1)
  have put : ∀ w t, k < E → t = trW w → ∃ M', (∀ k14 : Int32 × Int32 × hMem → Option (Int32 × hMem), fX10_eRead_L61 k14 v2 t r = k14 (0, v2, M')) ∧ YM T M0 z p (opn (unw 7 H (c ++ [w])).1) (unw 7 H (c ++ [w])).1 (unw 7 H (c ++ [w])).2 M' := fun w t hlt ht => by
    obtain ⟨M1, a1, a2⟩ := h.puts hT h14 (by omega) w
    obtain ⟨M2, b1, b2⟩ := m_unwinds (l := 7) hT h14 (by omega) (by omega) (by rw [List.length_append]; show H.length + (c.length + 1) ≤ 160; omega) a2
    refine ⟨M2, fun k14 => ?_, b2⟩
    unfold fX10_eRead_L61
    rw [ht, a1, Option.bind_some, show fX10_unwinds 7 M1 = fX10_unwinds (nI 7) M1 from rfl, b1, Option.bind_some]
  have opens : ∀ s, (s = 0 ∨ s = 13 ∨ s = 19) → ∀ (a b' : Int32) (fl' : Bool), a = 1 → b' = (if fl' = true then 1 else 0) → SR T M0 z p (if opn H = 5 then .error none else .ok (some fl', s :: H, c)) (fun k14 => (fX10_opensOne (nI s) r).bind fun q91 => if q91.1 = 0 then (some (0, q91.2)) else (k14 (a, b', q91.2))) := fun s hs a b' fl' ha hb' => by
    obtain ⟨o1, o2⟩ := m_opens hs (by omega) h
    by_cases e : opn H = 5
    · rw [if_pos e]
      refine ⟨r, _, _, _, fun k14 => ?_, h⟩
      show ((fX10_opensOne (nI s) r).bind _) = _
      rw [o1 e, Option.bind_some, if_pos rfl]
    · obtain ⟨M', a1, a2⟩ := o2 e (by omega)
      rw [if_neg e]
      refine ⟨a, b', M', fun k14 => ?_, ⟨ha, hb'⟩, a2⟩
      show ((fX10_opensOne (nI s) r).bind _) = _
      rw [a1, Option.bind_some, if_neg (show ¬ (1 : Int32) = 0 by decide)]
  unfold yO
  rw [h27]
  by_cases c2 : K k = 2
  · have hlt := lit 2 c2 (by decide) (by decide)
    obtain ⟨M', a1, a2⟩ := put (V k) (100000 + V k) hlt ((hV k).1 c2).symm
    rw [if_pos c2]
    refine ⟨0, v2, M', fun k14 => ?_, rfl, a2⟩
    show (if mK (K k) = 1 then _ else _) = _
    rw [if_pos ((mK_1 _ hin).mpr c2)]
    unfold fX10_eRead_L38
    rw [h27, if_pos ((mK_1 _ hin).mpr c2), h28 (Or.inl c2)]
    exact a1 k14
  have n1 : ¬ mK (K k) = 1 := fun q => c2 ((mK_1 _ hin).mp q)
  rw [if_neg c2]
  by_cases c3 : K k = 3
  · have hlt := lit 3 c3 (by decide) (by decide)
    obtain ⟨M', a1, a2⟩ := put (-1 - V k) (V k) hlt ((hV k).2 c3).symm
    rw [if_pos c3]
    refine ⟨0, v2, M', fun k14 => ?_, rfl, a2⟩
    show (if mK (K k) = 1 then _ else _) = _
    rw [if_neg n1, if_pos ((mK_2 _ hin).mpr c3)]
    unfold fX10_eRead_L38
    rw [h27, if_neg n1, h28 (Or.inr c3)]
    exact a1 k14
  have n2 : ¬ mK (K k) = 2 := fun q => c3 ((mK_2 _ hin).mp q)
  rw [if_neg c3]
  simp only [if_neg n1, if_neg n2]
  have l99 : SR T M0 z p (if K k = 45 then (if opn H = 5 then .error none else .ok (some false, 19 :: H, c)) else if K k = 40 then (if opn H = 5 then .error none else .ok (some true, 0 :: H, c)) else .error none) (fun k14 => fX10_eRead_L99 k14 1 r) := by
    unfold fX10_eRead_L99
    rw [h27]
    by_cases c45 : K k = 45
    · simp only [if_pos c45, if_pos ((mK_45 _ hin).mpr c45)]
      exact opens 19 (Or.inr (Or.inr rfl)) 1 0 false rfl rfl
    simp only [if_neg c45, if_neg (fun q => c45 ((mK_45 _ hin).mp q))]
    by_cases c40 : K k = 40
    · simp only [if_pos c40, if_pos ((mK_40 _ hin).mpr c40)]
      exact opens 0 (Or.inl rfl) 1 1 true rfl rfl
    simp only [if_neg c40, if_neg (fun q => c40 ((mK_40 _ hin).mp q))]
    exact ⟨r, _, _, _, fun k14 => rfl, h⟩
  by_cases c9 : K k = 9
  · simp only [if_pos ((mK_6 _ hin).mpr c9)]
    cases fl with
    | true =>
      have e2 : v2 = 1 := hv2
      rw [if_pos ⟨c9, rfl⟩]
      simp only [e2, if_neg (show ¬ (1 : Int32) = 0 by decide)]
      exact opens 13 (Or.inr (Or.inl rfl)) 1 1 true rfl rfl
    | false =>
      have e2 : v2 = 0 := hv2
      rw [if_neg (fun q => by cases q.2)]
      simp only [e2, if_pos rfl]
      exact l99
  · simp only [if_neg (fun q => c9 ((mK_6 _ hin).mp q))]
    rw [if_neg (fun q => c9 q.1)]
    exact l99
/-- one token where none is wanted -/
theorem m_stN {T p k E : Nat} {K : Nat → Int32} {M0 r : hMem} {z : Int32} {H : List Nat} {c : List Int32} {a0 b0 : Int32} (hT : T < 6) (h14 : M0 0 14 = nI T) (hE : tkE E K) (hk : k ≤ E) (hlen : H.length + c.length ≤ k) (hin : K k ∈ tkl) (h : YM T M0 z p (opn H) H c r) (h27 : r 0 27 = mK (K k)) (ha0 : a0 = 0) : SR T M0 z p (yN K k H c) (fun k14 => if (r 0 27) = 59 then ((fX10_unwinds 1 r).bind fun q161 => if (q161 0 31) = 0 then (some (1, q161)) else (some (0, q161))) else (if (r 0 27) = 41 then ((fX10_unwinds 1 r).bind fun q188 => if (q188 0 31) = 0 then (some (0, q188)) else ((fX10_unwinds 7 (h_up (h_up q188 0 31 ((q188 0 31) - 1)) 0 32 (((h_up q188 0 31 ((q188 0 31) - 1)) 0 32) - 1))).bind fun q223 => k14 (a0, b0, q223))) else (if (fX10_signOf r) = (-1) then (some (0, r)) else ((fX10_between (fX10_signOf r) r).bind fun q241 => if q241.1 = 0 then (some (0, q241.2)) else (if 12 < (fX10_signOf r) then (k14 (1, 0, q241.2)) else (k14 (1, 1, q241.2))))))) := by
  have hE160 := hE.1
  have hlen160 : H.length + c.length ≤ 160 := by omega
  obtain ⟨M1, a1, a2⟩ := m_unwinds (l := 1) hT h14 (by omega) (by omega) hlen160 h
  have a1' : fX10_unwinds 1 r = some M1 := a1
  have hul := unw_len 1 H c
  have hsg : fX10_signOf r = sgM (r 0 27) := rfl
  unfold yN
  rw [h27]
  by_cases c59 : K k = 59
  · rw [if_pos c59]
    simp only [if_pos ((mK_59 _ hin).mpr c59), a1', Option.bind_some]
    have h31 : M1 0 31 = nI (unw 1 H c).1.length := a2.2.2.2.1
    by_cases e : (unw 1 H c).1 = []
    · rw [if_pos e]
      rw [e] at a2 h31
      refine ⟨M1, _, fun k14 => ?_, a2⟩
      show (if M1 0 31 = 0 then _ else _) = _
      rw [if_pos (show M1 0 31 = 0 from h31)]
    · rw [if_neg e]
      refine ⟨M1, _, _, _, fun k14 => ?_, a2⟩
      show (if M1 0 31 = 0 then _ else _) = _
      rw [h31, if_neg (show ¬ nI (unw 1 H c).1.length = 0 from nI_neq 0 (by omega) (by omega) (fun q => e (List.length_eq_zero_iff.mp q)))]
  rw [if_neg c59]
  by_cases c41 : K k = 41
  · rw [if_pos c41]
    have n59 : ¬ mK (K k) = 59 := fun q => c59 ((mK_59 _ hin).mp q)
    simp only [if_neg n59, if_pos ((mK_41 _ hin).mpr c41), a1', Option.bind_some]
    cases hU : (unw 1 H c).1 with
    | nil =>
      rw [hU] at a2
      have h31 : M1 0 31 = 0 := a2.2.2.2.1
      refine ⟨M1, _, _, _, fun k14 => ?_, a2⟩
      show (if M1 0 31 = 0 then _ else _) = _
      rw [if_pos h31]
    | cons t G =>
      rw [hU] at a2 hul
      have hul' : G.length + 1 + (unw 1 H c).2.length = H.length + c.length := hul
      have h31 : M1 0 31 = nI (G.length + 1) := a2.2.2.2.1
      have h32 : M1 0 32 = nI (opn (t :: G)) := a2.2.2.2.2.1
      have ht : t = 0 := by
        have h7 := a2.2.2.2.2.2.2.1
        have ht20 : t < 20 := by have := h7.2.1; omega
        have hrk : rkS t < 1 := by
          have : ∀ (H : List Nat) (c : List Int32), (unw 1 H c).1 = t :: G → rkS t < 1 := by
            intro H
            induction H with
            | nil => intro c e; cases e
            | cons s H ih =>
              intro c e
              rw [unw_c] at e
              by_cases hs : rkS s < 1
              · rw [if_pos hs] at e; cases e; exact hs
              · rw [if_neg hs] at e; exact ih _ e
          exact this H c hU
        exact (rk_0 t ht20).mp (by omega)
      subst ht
      have hop : opn (0 :: G) = opn G + 1 := rfl
      have a3 := (a2.pop (v := M1 0 31 - 1) (by rw [h31, nI_sub1 (by omega)]; rfl)).opd (o' := opn G) (v := (h_up M1 0 31 (M1 0 31 - 1)) 0 32 - 1) (by rw [m_own, u_n (by omega), h32, hop, nI_sub1 (by omega)]; rfl)
      obtain ⟨M2, b1, b2⟩ := m_unwinds (l := 7) hT h14 (by omega) (by omega) (by omega) a3
      refine ⟨a0, b0, M2, fun k14 => ?_, ha0, b2⟩
      show (if M1 0 31 = 0 then _ else _) = _
      rw [if_neg (show ¬ M1 0 31 = 0 by rw [h31]; exact nI_neq 0 (by omega) (by omega) (by omega))]
      rw [show ∀ X, fX10_unwinds 7 X = fX10_unwinds (nI 7) X from fun _ => rfl, b1, Option.bind_some]
  rw [if_neg c41]
  have n59 : ¬ mK (K k) = 59 := fun q => c59 ((mK_59 _ hin).mp q)
  have n41 : ¬ mK (K k) = 41 := fun q => c41 ((mK_41 _ hin).mp q)
  rw [hsg, h27, mK_s _ hin]
  simp only [if_neg n59, if_neg n41]
  by_cases c0 : sgS (K k) = 0
  · simp only [if_pos c0, if_pos rfl]
    exact ⟨r, _, _, _, fun k14 => rfl, h⟩
  · obtain ⟨r1, r2, r3⟩ := (sgS_r (K k)).resolve_left c0
    simp only [if_neg c0]
    generalize sgS (K k) = s at c0 r1 r2 r3 ⊢
    have hm1 : ¬ nI s = -1 := n_m1 (by omega)
    simp only [if_neg hm1]
    obtain ⟨b1, b2⟩ := m_btw hT h14 ⟨r1, r2⟩ r3 hlen160 h
    by_cases e : rkS s = 4 ∧ rk4 (unw 5 H c).1 = true
    · obtain ⟨M', o, H', c', d1, d2⟩ := b1 e
      rw [if_pos e]
      simp only [d1, Option.bind_some, if_pos rfl]
      exact ⟨M', o, H', c', fun k14 => rfl, d2⟩
    · obtain ⟨M', d1, d2⟩ := b2 e
      rw [if_neg e]
      simp only [d1, Option.bind_some, if_neg (show ¬ (1 : Int32) = 0 by decide)]
      by_cases e12 : s ≤ 12
      · rw [decide_eq_true e12]
        simp only [if_neg (show ¬ (12 : Int32) < nI s from nI_nlt (b := s) (a := 12) e12 (by omega))]
        exact ⟨1, 1, M', fun k14 => rfl, ⟨rfl, rfl⟩, d2⟩
      · rw [decide_eq_false e12]
        simp only [if_pos (show (12 : Int32) < nI s from nI_lt (a := 12) (by omega) (by omega))]
        exact ⟨1, 0, M', fun k14 => rfl, ⟨rfl, rfl⟩, d2⟩
