/-! WHERE IT GOES -/
theorem lpp {σ ρ σ' ρ' : Type} {body : (σ → Option ρ) → σ → Option ρ} {body' : (σ' → Option ρ') → σ' → Option ρ'} (e : Nat) (P : Nat → σ → σ' → Prop) (Q : ρ → ρ' → Prop) (hx : ∀ (k : σ → Option ρ) (k' : σ' → Option ρ') s s', P e s s' → ∃ r r', body k s = some r ∧ body' k' s' = some r' ∧ Q r r') (hs : ∀ (k : σ → Option ρ) (k' : σ' → Option ρ') i s s', i < e → P i s s' → (∀ t t', P (i + 1) t t' → ∃ r r', k t = some r ∧ k' t' = some r' ∧ Q r r') → ∃ r r', body k s = some r ∧ body' k' s' = some r' ∧ Q r r') : ∀ (n i : Nat) s s', i ≤ e → P i s s' → e - i < n → ∃ r r', h_lp body n s = some r ∧ h_lp body' n s' = some r' ∧ Q r r' := by
  intro n
  induction n with
  | zero => intro i s s' _ _ h0; exact absurd h0 (Nat.not_lt_zero _)
  | succ n ih =>
    intro i s s' hi hp hn
    rcases Nat.lt_or_ge i e with h | h
    · exact hs _ _ i s s' h hp (fun t t' h1 => ih (i + 1) t t' (by omega) h1 (by omega))
    · have he : i = e := by omega
      subst he
      exact hx _ _ s s' hp
/-- the same, from 0 on -/
theorem lp20 {σ ρ σ' ρ' : Type} {body : (σ → Option ρ) → σ → Option ρ} {body' : (σ' → Option ρ') → σ' → Option ρ'} (e : Nat) (P : Nat → σ → σ' → Prop) (Q : ρ → ρ' → Prop) (s : σ) (s' : σ') (h0 : P 0 s s') (he : e < 20000) (hx : ∀ (k : σ → Option ρ) (k' : σ' → Option ρ') s s', P e s s' → ∃ r r', body k s = some r ∧ body' k' s' = some r' ∧ Q r r') (hs : ∀ (k : σ → Option ρ) (k' : σ' → Option ρ') i s s', i < e → P i s s' → (∀ t t', P (i + 1) t t' → ∃ r r', k t = some r ∧ k' t' = some r' ∧ Q r r') → ∃ r r', body k s = some r ∧ body' k' s' = some r' ∧ Q r r') : ∃ r r', h_lp body h_FU s = some r ∧ h_lp body' h_FU s' = some r' ∧ Q r r' :=
  lpp e P Q hx hs h_FU 0 s s' (Nat.zero_le _) h0 he
/-- answers that are alike, memories that go on alike -/
def EqQ (r r' : Int32 × hMem) : Prop := r.1 = r'.1 ∧ RR r.2 r'.2
theorem EqC.of {fx fm : Option (Int32 × hMem)} (h : ∃ r r', fx = some r ∧ fm = some r' ∧ EqQ r r') : EqC fx fm := by
  obtain ⟨r, r', h1, h2, h3, h4⟩ := h
  exact ⟨r'.1, r.2, r'.2, by rw [h1, ← h3], h2, h4⟩
theorem EqC.m {v : Int32} {X' : hMem} {fm : Option (Int32 × hMem)} (h : ∃ z, fm = some z ∧ z.1 = v ∧ RR X' z.2) : EqC (some (v, X')) fm := by
  obtain ⟨z, h1, h2, h3⟩ := h
  exact ⟨v, X', z.2, rfl, by rw [h1, ← h2], h3⟩
/-- scratch of the other one's -/
def kQ (M M' : hMem) : Prop := (∀ a, (1 ≤ a ∧ a < 18) ∨ 23 < a → M' a = M a) ∧ ∀ j, j ≠ 36 → j ≠ 37 → M' 0 j = M 0 j
theorem kQ.rf (M : hMem) : kQ M M := ⟨fun _ _ => rfl, fun _ _ _ => rfl⟩
theorem kQ.tr {X Y Z : hMem} (h : kQ X Y) (g : kQ Y Z) : kQ X Z := ⟨fun a h1 => (g.1 a h1).trans (h.1 a h1), fun j h1 h2 => (g.2 j h1 h2).trans (h.2 j h1 h2)⟩
theorem kS.Q {M M' : hMem} (k : kS M M') : kQ M M' := ⟨fun a h => k.1 a (by omega) (by omega) (by omega), k.2⟩
theorem kQ.keep {M M' : hMem} (k : kQ M M') : keepM M M' := by
  refine ⟨fun a ha => ?_, fun j hj => ?_⟩
  · unfold kM at ha; exact k.1 a (by omega)
  · unfold kM0 at hj; exact k.2 j (by omega) (by omega)
theorem MM.kQ {w : hWd} {h : Nat} {c e : Nat → Int32} {M M' : hMem} (m : MM w h c e M) (k : kQ M M') : MM w h c e M' := by
  obtain ⟨h1, h2, h3, h4, h5, ⟨r, h6, h7, h8⟩, h9⟩ := m
  refine ⟨h1, ?_, ?_, ?_, ?_, ⟨r, h6, ?_, ?_⟩, h9⟩
  · rw [k.1 1 (by omega)]; exact h2
  · rw [k.1 2 (by omega), k.1 3 (by omega)]; exact h3
  · rw [k.1 4 (by omega)]; exact h4
  · rw [k.1 5 (by omega)]; exact h5
  · rw [k.2 15 (by omega) (by omega)]; exact h7
  · rw [k.1 10 (by omega), k.1 11 (by omega)]; exact h8
theorem hldM_q {M M' : hMem} (k : kQ M M') : hldM M' = hldM M := by
  funext t
  unfold hldM
  rw [k.2 38 (by omega) (by omega), k.2 39 (by omega) (by omega)]
theorem hld_no {X M M' : hMem} (R : RR X M) (k : kQ M M') : hldM M' = noH := by
  funext t
  rw [hldM_q k]
  exact hldM_0 R.hold t
/-- the first of n from i on -/
def frst (p : Nat → Bool) : Nat → Nat → Option Nat
  | 0, _ => none
  | n + 1, i => if p i = true then some i else frst p n (i + 1)
theorem frst_s (p : Nat → Bool) (n i : Nat) : frst p (n + 1) i = if p i = true then some i else frst p n (i + 1) := rfl
def ansI (o : Option Nat) : Int32 := match o with | none => -1 | some n => nI n
theorem frst_c {p q : Nat → Bool} : ∀ {n i : Nat}, (∀ j, i ≤ j → j < i + n → p j = q j) → frst p n i = frst q n i
  | 0, _, _ => rfl
  | n + 1, i, h => by rw [frst_s, frst_s, h i (Nat.le_refl _) (by omega), frst_c (n := n) (i := i + 1) (fun j h1 h2 => h j (by omega) (by omega))]
theorem frst_lt {p : Nat → Bool} : ∀ {n i j : Nat}, frst p n i = some j → i ≤ j ∧ j < i + n ∧ p j = true
  | 0, _, _, h => by cases h
  | n + 1, i, j, h => by
    rw [frst_s] at h
    by_cases hp : p i = true
    · rw [if_pos hp] at h; cases h; exact ⟨Nat.le_refl _, by omega, hp⟩
    · rw [if_neg hp] at h
      have := frst_lt h
      exact ⟨by omega, by omega, this.2.2⟩
theorem x_first {w : hWd} {T : Nat} {X : hMem} (hw : okW w) (h : MX w T X) {s : Nat × Nat} (h5 : X 40 5 = nI (stN s)) (h1 : s.1 < 32) (h2 : s.2 < 3) (S : Int32) : ∃ X', fX8_firstIn S X = some (ansI (frst (fun n => bt S (runS noH w 0 n s).1) 25 0), X') ∧ kP X X' := by
  unfold fX8_firstIn
  obtain ⟨X', e1, e2, e3⟩ := x_follow hw h (a := 47) (Or.inl rfl) h5 h1 h2
  rw [e1, Option.bind_some]
  refine ⟨X', ?_, fun a q1 q2 => e2 a (by omega) (by omega) q2⟩
  obtain ⟨r, g1, g2⟩ := lp_u0 (body := fX8_firstIn_L10 S X') 25 (fun i z => z = nI i ∧ frst (fun n => bt S (runS noH w 0 n s).1) (25 - i) i = frst (fun n => bt S (runS noH w 0 n s).1) 25 0) (fun r => r = (ansI (frst (fun n => bt S (runS noH w 0 n s).1) 25 0), X')) 0 ⟨rfl, rfl⟩ (by decide) (by
    rintro k z ⟨rfl, hz⟩
    unfold fX8_firstIn_L10
    rw [if_pos (by decide)]
    exact ⟨_, rfl, by rw [← hz]; rfl⟩) (by
    rintro k i z hi ⟨rfl, hz⟩ hk
    unfold fX8_firstIn_L10
    have hL := runS_lt (hl := noH) (w := w) (a := 0) h1 h2 i
    rw [if_neg (show ¬ (24 : Int32) < nI i from nI_nlt (b := i) (a := 24) (by omega) (by decide)), if_pos (ib_mk hi (by decide))]
    simp only [nI_clamp (show i < 2 ^ 31 by omega)]
    rw [e3 i (by omega), x_sqS hL.1 hL.2, bit_u _ hL.1, b01]
    obtain ⟨m, hm⟩ : ∃ m, 25 - i = m + 1 := ⟨24 - i, by omega⟩
    rw [hm, frst_s] at hz
    by_cases hb : bt S (runS noH w 0 i s).1 = true
    · rw [if_pos hb] at hz ⊢; exact ⟨_, rfl, by rw [← hz]; rfl⟩
    · rw [if_neg hb] at hz ⊢
      rw [nI_1]
      exact hk _ ⟨rfl, by rw [show 25 - (i + 1) = m from by omega]; exact hz⟩)
  rw [g1, g2]
theorem eq_when {X M : hMem} (R : RR X M) (a b : Int32) : EqC (fX9_when a b X) (fX10_when a b M) := by
  obtain ⟨H, hH, hx, hm⟩ := R.hats
  unfold fX9_when fX10_when
  rw [xe_hat hx (by omega), me_hat hm (by omega), b01, b01, xe_sq, me_sq, b01, b01]
  by_cases ha : h_ib a H
  · by_cases hb : h_ib b 32
    · simp only [if_pos ha, if_pos hb]
      obtain ⟨h, h1, h2, rfl⟩ := ib_ex ha
      obtain ⟨c, c1, c2, rfl⟩ := ib_ex hb
      obtain ⟨r, q, l, X1, r1, q1, l1, ok, mm, q2, l2, x1, x2, x3, x4, -, -⟩ := R.ctx hH h1
      obtain ⟨X2, y1, y2⟩ := x_first ok x2 (s := (q, l)) x3 q1 l1 (1 <<< (nI c &&& 31))
      rw [x1, Option.bind_some, y1, Option.bind_some, m_begins mm.1, Option.bind_some, q2, l2]
      have kb := kS_b M (nI q) (nI l)
      have hp : frst (fun n => bt (1 <<< (nI c &&& 31)) (runS noH (wOf X M h r) 0 n (q, l)).1) 25 0 = frst (fun n => decide ((runS noH (wOf X M h r) 0 n (q, l)).1 = c)) 25 0 := frst_c (fun j _ _ => b_pow c1 (runS_lt (s := (q, l)) q1 l1 j).1)
      rw [hp]
      refine EqC.m ?_
      obtain ⟨z, g1, g2, g3⟩ := lp_u0 (body := fX10_when_L28 (nI h) (nI c)) 25 (fun i z => ∃ Y : hMem, z = (nI i, Y) ∧ kS M Y ∧ (i ≤ 24 → Y 0 36 = nI (runS noH (wOf X M h r) 0 i (q, l)).1 ∧ Y 0 37 = nI (runS noH (wOf X M h r) 0 i (q, l)).2) ∧ frst (fun n => decide ((runS noH (wOf X M h r) 0 n (q, l)).1 = c)) (25 - i) i = frst (fun n => decide ((runS noH (wOf X M h r) 0 n (q, l)).1 = c)) 25 0) (fun z => z.1 = ansI (frst (fun n => decide ((runS noH (wOf X M h r) 0 n (q, l)).1 = c)) 25 0) ∧ kS M z.2) (0, _) ⟨_, rfl, kb, fun _ => ⟨by rw [m_own, u_n (by omega), m_own, u_s]; rfl, by rw [m_own, u_s]; rfl⟩, rfl⟩ (by decide) (by
        rintro k z ⟨Y, rfl, hY, hy, hz⟩
        unfold fX10_when_L28
        dsimp only
        rw [if_pos (by decide)]
        exact ⟨_, rfl, by rw [← hz]; rfl, hY⟩) (by
        rintro k i z hi ⟨Y, rfl, hY, hy, hz⟩ hk
        unfold fX10_when_L28
        dsimp only
        have hL := runS_lt (hl := noH) (w := wOf X M h r) (a := 0) (s := (q, l)) q1 l1 i
        obtain ⟨y1, y2⟩ := hy (by omega)
        obtain ⟨m, hm⟩ : ∃ m, 25 - i = m + 1 := ⟨24 - i, by omega⟩
        rw [hm, frst_s] at hz
        rw [if_neg (show ¬ (24 : Int32) < nI i from nI_nlt (b := i) (a := 24) (by omega) (by decide))]
        simp only [y1]
        by_cases e : (runS noH (wOf X M h r) 0 i (q, l)).1 = c
        · rw [if_pos (decide_eq_true e)] at hz
          rw [if_pos (by rw [e])]
          exact ⟨_, rfl, by rw [← hz]; rfl, hY⟩
        · rw [if_neg (by rw [decide_eq_false e]; decide)] at hz
          rw [if_neg (nI_neq c (by omega) (by omega) e)]
          rcases Nat.lt_or_ge i 24 with hlt | hge
          · rw [if_neg (show ¬ (24 : Int32) ≤ nI i from nI_ge (b := 24) hlt (by decide))]
            obtain ⟨Y', e1, e2, e3, e4⟩ := m_seconds ok (mm.kS hY) (t := i) hlt hL.1 hL.2 y1 y2
            rw [hldM_c hY, hldM_0 R.hold, if_neg (by decide)] at e3 e4
            rw [e1, Option.bind_some, nI_1]
            refine hk _ ⟨Y', rfl, hY.tr e2, fun _ => ⟨?_, ?_⟩, by rw [show 25 - (i + 1) = m from by omega]; exact hz⟩
            · rw [e3, runS_s, Nat.zero_add]; rfl
            · rw [e4, runS_s, Nat.zero_add]; rfl
          · rw [if_pos (show (24 : Int32) ≤ nI i from nI_le (a := 24) hge (by omega)), nI_1]
            exact hk _ ⟨Y, rfl, hY, fun hh => absurd hh (by omega), by rw [show 25 - (i + 1) = m from by omega]; exact hz⟩)
      exact ⟨z, g1, g2, R.keep (kP.X x4 y2) g3.keep⟩
    · simp only [if_pos ha, if_neg hb]; exact EqC.now R
  · simp only [if_neg ha]; exact EqC.now R
theorem eq_over {X M : hMem} (R : RR X M) (a : Int32) : EqC (fX9_over a X) (fX10_over a M) := by
  obtain ⟨H, hH, hx, hm⟩ := R.hats
  unfold fX9_over fX10_over
  rw [xe_hat hx (by omega), me_hat hm (by omega), b01, b01]
  by_cases ha : h_ib a H
  · simp only [if_pos ha]
    obtain ⟨h, h1, h2, rfl⟩ := ib_ex ha
    obtain ⟨r, q, l, X1, r1, q1, l1, ok, mm, q2, l2, x1, x2, x3, x4, -, -⟩ := R.ctx hH h1
    obtain ⟨X2, y1, y2⟩ := x_first ok x2 (s := (q, l)) x3 q1 l1 (X1 40 1)
    rw [x1, Option.bind_some, y1, Option.bind_some, m_begins mm.1, Option.bind_some, q2, l2, x2.2.1]
    have kb := kS_b M (nI q) (nI l)
    show EqC (some (ansI (frst (fun n => bt (M 1 1) (runS noH (wOf X M h r) 0 n (q, l)).1) 25 0), X2)) _
    refine EqC.m ?_
    obtain ⟨z, g1, g2, g3⟩ := lp_u0 (body := fX10_over_L18 (nI h)) 24 (fun i z => ∃ Y : hMem, z = (nI i, Y) ∧ kS M Y ∧ Y 0 36 = nI (runS noH (wOf X M h r) 0 i (q, l)).1 ∧ Y 0 37 = nI (runS noH (wOf X M h r) 0 i (q, l)).2 ∧ frst (fun n => bt (M 1 1) (runS noH (wOf X M h r) 0 n (q, l)).1) (25 - i) i = frst (fun n => bt (M 1 1) (runS noH (wOf X M h r) 0 n (q, l)).1) 25 0) (fun z => z.1 = ansI (frst (fun n => bt (M 1 1) (runS noH (wOf X M h r) 0 n (q, l)).1) 25 0) ∧ kS M z.2) (0, _) ⟨_, rfl, kb, by rw [m_own, u_n (by omega), m_own, u_s]; rfl, by rw [m_own, u_s]; rfl, rfl⟩ (by decide) (by
      rintro k z ⟨Y, rfl, hY, y1, y2, hz⟩
      unfold fX10_over_L18
      dsimp only
      have hL := runS_lt (hl := noH) (w := wOf X M h r) (a := 0) (s := (q, l)) q1 l1 24
      rw [if_pos (by decide), y1, me_has1 hL.1, Option.bind_some, b01, hY.1 1 (by omega) (by omega) (by omega)]
      rw [show 25 - 24 = 0 + 1 from rfl, frst_s] at hz
      by_cases hb : bt (M 1 1) (runS noH (wOf X M h r) 0 24 (q, l)).1 = true
      · rw [if_pos hb] at hz ⊢; exact ⟨_, rfl, by rw [← hz]; rfl, hY⟩
      · rw [if_neg hb] at hz ⊢; exact ⟨_, rfl, by rw [← hz]; rfl, hY⟩) (by
      rintro k i z hi ⟨Y, rfl, hY, y1, y2, hz⟩ hk
      unfold fX10_over_L18
      dsimp only
      have hL := runS_lt (hl := noH) (w := wOf X M h r) (a := 0) (s := (q, l)) q1 l1 i
      obtain ⟨m, hm⟩ : ∃ m, 25 - i = m + 1 := ⟨24 - i, by omega⟩
      rw [hm, frst_s] at hz
      rw [if_neg (show ¬ (24 : Int32) ≤ nI i from nI_ge (b := 24) hi (by decide)), y1, me_has1 hL.1, Option.bind_some, b01, hY.1 1 (by omega) (by omega) (by omega)]
      by_cases hb : bt (M 1 1) (runS noH (wOf X M h r) 0 i (q, l)).1 = true
      · rw [if_pos hb] at hz ⊢; exact ⟨_, rfl, by rw [← hz]; rfl, hY⟩
      · rw [if_neg hb] at hz ⊢
        obtain ⟨Y', e1, e2, e3, e4⟩ := m_seconds ok (mm.kS hY) (t := i) hi hL.1 hL.2 y1 y2
        rw [hldM_c hY, hldM_0 R.hold, if_neg (by decide)] at e3 e4
        rw [e1, Option.bind_some, nI_1]
        refine hk _ ⟨Y', rfl, hY.tr e2, ?_, ?_, by rw [show 25 - (i + 1) = m from by omega]; exact hz⟩
        · rw [e3, runS_s, Nat.zero_add]; rfl
        · rw [e4, runS_s, Nat.zero_add]; rfl)
    exact ⟨z, g1, g2, R.keep (kP.X x4 y2) g3.keep⟩
  · simp only [if_neg ha]; exact EqC.now R
def trk (f : Nat → Nat) : Nat → Int32
  | 0 => 0
  | n + 1 => trk f n ||| (1 <<< (nI (f n) &&& 31))
theorem eq_track {X M : hMem} (R : RR X M) (a b : Int32) : EqC (fX9_track a b X) (fX10_track a b M) := by
  obtain ⟨H, hH, hx, hm⟩ := R.hats
  unfold fX9_track fX10_track
  rw [xe_hat hx (by omega), me_hat hm (by omega), b01, b01, xe_beh, me_sec, b01, b01]
  by_cases ha : h_ib a H
  · by_cases hb : h_ib b 25
    · simp only [if_pos ha, if_pos hb]
      obtain ⟨h, h1, h2, rfl⟩ := ib_ex ha
      obtain ⟨n, n1, n2, rfl⟩ := ib_ex hb
      obtain ⟨r, q, l, X1, r1, q1, l1, ok, mm, q2, l2, x1, x2, x3, x4, -, -⟩ := R.ctx hH h1
      obtain ⟨X', e1, e2, e3⟩ := x_follow ok x2 (a := 47) (Or.inl rfl) x3 q1 l1
      rw [x1, Option.bind_some, e1, Option.bind_some, m_begins mm.1, Option.bind_some, q2, l2]
      have kb := kS_b M (nI q) (nI l)
      have kx : kP X1 X' := fun a q1 q2 => e2 a (by omega) (by omega) q2
      obtain ⟨u, f1, f2⟩ := lp_u0 (body := fX9_track_L41 (nI n) X') (n + 1) (fun i z => z = (trk (fun i => (runS noH (wOf X M h r) 0 i (q, l)).1) i, nI i)) (fun u => u = (trk (fun i => (runS noH (wOf X M h r) 0 i (q, l)).1) (n + 1), X')) (0, 0) rfl (by omega) (by
        rintro k z rfl
        unfold fX9_track_L41
        dsimp only
        rw [if_pos (nI_lt (by omega) (by omega))]
        exact ⟨_, rfl, rfl⟩) (by
        rintro k i z hi rfl hk
        unfold fX9_track_L41
        dsimp only
        have hL := runS_lt (hl := noH) (w := wOf X M h r) (a := 0) (s := (q, l)) q1 l1 i
        rw [if_neg (nI_nlt (by omega) (by omega)), if_pos (ib_mk (by omega) (by decide)), nI_clamp (by omega), e3 i (by omega), x_sqS hL.1 hL.2, nI_1]
        exact hk _ rfl)
      rw [f1, f2]
      refine EqC.m ?_
      obtain ⟨z, g1, g2, g3⟩ := lp_u0 (body := fX10_track_L32 (nI h) (nI n)) n (fun i z => ∃ Y : hMem, z = (trk (fun i => (runS noH (wOf X M h r) 0 i (q, l)).1) (i + 1), nI i, Y) ∧ kS M Y ∧ Y 0 36 = nI (runS noH (wOf X M h r) 0 i (q, l)).1 ∧ Y 0 37 = nI (runS noH (wOf X M h r) 0 i (q, l)).2) (fun z => z.1 = trk (fun i => (runS noH (wOf X M h r) 0 i (q, l)).1) (n + 1) ∧ kS M z.2) (1 <<< (h_up (h_up M 0 36 (nI q)) 0 37 (nI l) 0 36 &&& 31), 0, _) ⟨_, by
        rw [m_own, u_n (by omega), m_own, u_s]
        show _ = ((0 : Int32) ||| (1 <<< (nI q &&& 31)), nI 0, _)
        rw [Int32.zero_or]; rfl, kb, by rw [m_own, u_n (by omega), m_own, u_s]; rfl, by rw [m_own, u_s]; rfl⟩ (by omega) (by
        rintro k z ⟨Y, rfl, hY, y1, y2⟩
        unfold fX10_track_L32
        dsimp only
        rw [if_pos (nI_le (Nat.le_refl _) (by omega))]
        exact ⟨_, rfl, rfl, hY⟩) (by
        rintro k i z hi ⟨Y, rfl, hY, y1, y2⟩ hk
        unfold fX10_track_L32
        dsimp only
        have hL := runS_lt (hl := noH) (w := wOf X M h r) (a := 0) (s := (q, l)) q1 l1 i
        rw [if_neg (nI_ge hi (by omega))]
        obtain ⟨Y', e1, e2, e3, e4⟩ := m_seconds ok (mm.kS hY) (t := i) (by omega) hL.1 hL.2 y1 y2
        rw [hldM_c hY, hldM_0 R.hold, if_neg (by decide)] at e3 e4
        have e5 : runS noH (wOf X M h r) 0 (i + 1) (q, l) = stepS (wOf X M h r) i (runS noH (wOf X M h r) 0 i (q, l)) := by rw [runS_s, Nat.zero_add]; rfl
        rw [e1, Option.bind_some, nI_1, e3]
        refine hk _ ⟨Y', ?_, hY.tr e2, ?_, ?_⟩
        · show _ = (trk _ (i + 1) ||| (1 <<< (nI (runS noH (wOf X M h r) 0 (i + 1) (q, l)).1 &&& 31)), _, _)
          rw [e5]
        · rw [e5]; exact e3
        · rw [e5]; exact e4)
      exact ⟨z, g1, g2, R.keep (kP.X x4 kx) g3.keep⟩
    · simp only [if_pos ha, if_neg hb]; exact EqC.now R
  · simp only [if_neg ha]; exact EqC.now R
