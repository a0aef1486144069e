theorem fb_step (p : Nat → Bool) (i : Nat) : nI (fb_ct p (i + 1)) = if p i = true then nI (fb_ct p i + 1) else nI (fb_ct p i) := by
  rw [fb_ct_succ]
  cases h : p i <;> simp
theorem eq_keeps {X M : hMem} (R : RR X M) (a b c : Int32) : EqC (fX9_keeps a b c X) (fX10_keeps a b c M) := by
  obtain ⟨H, hH, hx, hm⟩ := R.hats
  unfold fX9_keeps fX10_keeps
  rw [xe_hat hx (by omega), me_hat hm (by omega), b01, b01, xe_beh, me_sec, b01, b01, xe_01, me_in1, b01, b01]
  by_cases ha : h_ib a H
  · by_cases hb : h_ib b 25
    · by_cases hc : h_ib c 2
      · simp only [if_pos ha, if_pos hb, if_pos hc]
        obtain ⟨h, h1, h2, rfl⟩ := ib_ex ha
        obtain ⟨n, n1, n2, rfl⟩ := ib_ex hb
        obtain ⟨r, q, l, X1, r1, q1, l1, ok, mm, q2, l2, x1, x2, x3, x4, -, -⟩ := R.ctx hH h1
        obtain ⟨M1, e1, e2, e3⟩ := m_comes ok mm R.hold (n := n) (by omega) l1 l2
        rw [x1, Option.bind_some, e1, Option.bind_some]
        have hW : X 2 0 = M 1 0 := R.setsE (by omega)
        let p : Nat → Nat → Bool := fun d k => !bt (M 1 0) k && decide ((runS noH (wOf X M h r) 0 n (k, l)).1 = d)
        have pT : ∀ d k, bt (M 1 0) k = true → p d k = false := fun d k hh => by show (!bt (M 1 0) k && _) = false; rw [hh]; rfl
        have pE : ∀ d k, bt (M 1 0) k = false → (runS noH (wOf X M h r) 0 n (k, l)).1 = d → p d k = true := fun d k hh he => by show (!bt (M 1 0) k && decide ((runS noH (wOf X M h r) 0 n (k, l)).1 = d)) = true; rw [hh, decide_eq_true he]; rfl
        have pN : ∀ d k, ¬ (runS noH (wOf X M h r) 0 n (k, l)).1 = d → p d k = false := fun d k he => by show (!bt (M 1 0) k && decide ((runS noH (wOf X M h r) 0 n (k, l)).1 = d)) = false; rw [decide_eq_false he, Bool.and_false]
        generalize hp : p = p' at pT pE pN
        clear hp p
        -- the tally, made empty
        have L127 : ∀ X2 : hMem, kP X1 X2 → (∀ d, d < 32 → X2 55 d = nI (fb_ct (p' d) 32)) → EqC (h_lp (fX9_keeps_L127 c X2) h_FU (-1, 0, 0)) (h_lp (fX10_keeps_L45 c M1) h_FU (-1, 0, 0)) := by
          intro X2 k2 ht
          refine EqC.of (lp20 (body := fX9_keeps_L127 c X2) (body' := fX10_keeps_L45 c M1) 32 (fun i s s' => ∃ u v, s = (u, v, nI i) ∧ s' = (u, v, nI i)) EqQ (-1, 0, 0) (-1, 0, 0) ⟨_, _, rfl, rfl⟩ (by decide) ?_ ?_)
          · rintro k k' s s' ⟨u, v, rfl, rfl⟩
            unfold fX9_keeps_L127 fX10_keeps_L45
            dsimp only
            simp only [show (32 : Int32) ≤ nI 32 from by decide, if_true]
            have R' := R.keep (kP.X x4 k2) e2.keep
            by_cases ec : c = 0
            · rw [if_pos ec, if_pos ec]; exact ⟨_, _, rfl, rfl, rfl, R'⟩
            · rw [if_neg ec, if_neg ec]; exact ⟨_, _, rfl, rfl, rfl, R'⟩
          · rintro k k' i s s' hi ⟨u, v, rfl, rfl⟩ hk
            unfold fX9_keeps_L127 fX10_keeps_L45
            dsimp only
            rw [if_neg (show ¬ (32 : Int32) ≤ nI i from nI_ge (b := 32) hi (by decide)), if_neg (show ¬ (32 : Int32) ≤ nI i from nI_ge (b := 32) hi (by decide)), if_pos (ib_mk (by omega) (by decide)), if_pos (ib_mk (by omega) (by decide))]
            simp only [nI_clamp (show i < 2 ^ 31 by omega), ht i hi]
            have L107 : ∃ r r', (if nI (fb_ct (p' i) 32) ≤ v then k (u, v, nI i + 1) else k (nI i, nI (fb_ct (p' i) 32), nI i + 1)) = some r ∧ (if nI (fb_ct (p' i) 32) ≤ v then fX10_keeps_L107 k' c v (nI i) (nI (fb_ct (p' i) 32)) u M1 else fX10_keeps_L107 k' c v (nI i) (nI (fb_ct (p' i) 32)) (nI i) M1) = some r' ∧ EqQ r r' := by
              unfold fX10_keeps_L107
              by_cases g : nI (fb_ct (p' i) 32) ≤ v
              · simp only [if_pos g, nI_1]; exact hk _ _ ⟨_, _, rfl, rfl⟩
              · simp only [if_neg g, nI_1]; exact hk _ _ ⟨_, _, rfl, rfl⟩
            obtain ⟨w, w', f1, f2, f3⟩ := L107
            refine ⟨w, w', f1, ?_, f3⟩
            rw [← f2]
            have hl := lp_up (body := fX10_keeps_L58 k' c u v (nI i) M1) 32 (fun j z => z = (nI (fb_ct (p' i) j), nI j)) (fun z => z = w') (by
              rintro kk z rfl
              unfold fX10_keeps_L58
              dsimp only
              rw [if_pos (by decide)]
              exact ⟨w', f2, rfl⟩) (by
              rintro kk j z hj rfl hkk
              unfold fX10_keeps_L58
              dsimp only
              rw [if_neg (show ¬ (32 : Int32) ≤ nI j from nI_ge (b := 32) hj (by decide)), if_pos (ib_mk hj (by decide))]
              simp only [nI_clamp (show j < 2 ^ 31 by omega), e3 j hj]
              have hL := runS_lt (hl := noH) (w := wOf X M h r) (a := 0) (s := (j, l)) hj l1 n
              have a0 : nI (fb_ct (p' i) j) + 0 = nI (fb_ct (p' i) j) := Int32.add_zero _
              rw [a0, nI_1, nI_1]
              cases hb : bt (M 1 0) j with
              | true =>
                rw [if_pos rfl, if_neg (n_m1' (by omega))]
                refine hkk _ ?_
                rw [fb_step, pT i j hb]; rfl
              | false =>
                simp only [Bool.false_eq_true, if_false]
                by_cases e : (runS noH (wOf X M h r) 0 n (j, l)).1 = i
                · rw [if_pos (by rw [e])]
                  refine hkk _ ?_
                  rw [fb_step, pE i j hb e]; rfl
                · rw [if_neg (nI_neq i (by omega) (by omega) e)]
                  refine hkk _ ?_
                  rw [fb_step, pN i j e]; rfl) h_FU 0 (0, 0) (by omega) rfl (by unfold h_FU; omega)
            obtain ⟨y, y1, y2⟩ := hl
            rw [y1, y2, f2]
        have L60 : ∀ X2 : hMem, kP X1 X2 → (∀ d, d < 32 → X2 55 d = 0) → ∃ X3, h_lp (fX9_keeps_L60 (nI n) c) h_FU (0, X2) = h_lp (fX9_keeps_L127 c X3) h_FU (-1, 0, 0) ∧ kP X1 X3 ∧ ∀ d, d < 32 → X3 55 d = nI (fb_ct (p' d) 32) := by
          intro X2 k2 ht
          have key : ∀ (m i : Nat) (Y : hMem), i ≤ 32 → 32 - i < m → kP X1 Y → (∀ d, d < 32 → Y 55 d = nI (fb_ct (p' d) i)) → ∃ X3, h_lp (fX9_keeps_L60 (nI n) c) m (nI i, Y) = h_lp (fX9_keeps_L127 c X3) h_FU (-1, 0, 0) ∧ kP X1 X3 ∧ ∀ d, d < 32 → X3 55 d = nI (fb_ct (p' d) 32) := by
            intro m
            induction m with
            | zero => intro i Y _ h0; exact absurd h0 (Nat.not_lt_zero _)
            | succ m ih =>
              intro i Y hi hm kY hY
              rw [lp_s]
              generalize hg : h_lp (fX9_keeps_L60 (nI n) c) m = kk at *
              unfold fX9_keeps_L60
              dsimp only
              rcases Nat.lt_or_ge i 32 with hlt | hge
              · rw [if_neg (show ¬ (32 : Int32) ≤ nI i from nI_ge (b := 32) hlt (by decide)), xe_op hlt, b10, kY 2 (by omega) (by omega), x4 2 (by omega), hW, kY 40 (by omega) (by omega), x3, x_lieS q1 l1, x_stOf, nI_1]
                cases hb : bt (M 1 0) i with
                | true =>
                  rw [if_pos rfl]
                  refine ih (i + 1) Y (by omega) (by omega) kY (fun d hd => ?_)
                  rw [fb_step, pT d i hb]; exact hY d hd
                | false =>
                  rw [if_neg (by decide)]
                  obtain ⟨Y2, f1, f2⟩ := x_later ok (x2.kP kY) (a := 0) (b := n) (s := (i, l)) (by omega) (by omega) hlt l1
                  rw [show fX8_later (nI (32 * l + i)) 0 (nI n) Y = _ from f1, Option.bind_some]
                  dsimp only
                  have hL := runS_lt (hl := noH) (w := wOf X M h r) (a := 0) (s := (i, l)) hlt l1 n
                  rw [Nat.sub_zero, x_sqS hL.1 hL.2, if_pos (ib_mk (by omega) (by decide)), if_pos (ib_mk (by omega) (by decide)), nI_clamp (by omega)]
                  have k3 := kY.tr f2.P
                  refine ih (i + 1) _ (by omega) (by omega) (k3.tr (fun a h1 _ => m_row (by omega))) (fun d hd => ?_)
                  rw [m_own, f2 55 (by omega) (by omega), hY _ hL.1, nI_1]
                  by_cases e : (runS noH (wOf X M h r) 0 n (i, l)).1 = d
                  · rw [e, u_s, fb_step, pE d i hb e]; rfl
                  · rw [u_n (fun hh => e hh.symm), hY d hd, fb_step, pN d i e]; rfl
              · have h32 : i = 32 := by omega
                subst h32
                rw [if_pos (by decide)]
                exact ⟨Y, rfl, kY, hY⟩
          exact key h_FU 0 X2 (by omega) (by unfold h_FU; omega) k2 (fun d hd => by rw [ht d hd]; rfl)
        have L36 : ∃ X3, h_lp (fX9_keeps_L36 (nI n) c) h_FU (0, X1) = h_lp (fX9_keeps_L127 c X3) h_FU (-1, 0, 0) ∧ kP X1 X3 ∧ ∀ d, d < 32 → X3 55 d = nI (fb_ct (p' d) 32) := by
          have key : ∀ (m i : Nat) (Y : hMem), i ≤ 32 → 32 - i < m → kP X1 Y → (∀ d, d < i → Y 55 d = 0) → ∃ X3, h_lp (fX9_keeps_L36 (nI n) c) m (nI i, Y) = h_lp (fX9_keeps_L127 c X3) h_FU (-1, 0, 0) ∧ kP X1 X3 ∧ ∀ d, d < 32 → X3 55 d = nI (fb_ct (p' d) 32) := by
            intro m
            induction m with
            | zero => intro i Y _ h0; exact absurd h0 (Nat.not_lt_zero _)
            | succ m ih =>
              intro i Y hi hm kY hY
              rw [lp_s]
              generalize hg : h_lp (fX9_keeps_L36 (nI n) c) m = kk at *
              unfold fX9_keeps_L36
              dsimp only
              rcases Nat.lt_or_ge i 32 with hlt | hge
              · rw [if_neg (show ¬ (32 : Int32) ≤ nI i from nI_ge (b := 32) hlt (by decide)), if_pos (ib_mk (by omega) (by decide)), nI_clamp (by omega), nI_1]
                refine ih (i + 1) _ (by omega) (by omega) (kY.tr (fun a h1 _ => m_row (by omega))) (fun d hd => ?_)
                rw [m_own]
                by_cases e : d = i
                · rw [e, u_s]
                · rw [u_n e]; exact hY d (by omega)
              · have h32 : i = 32 := by omega
                subst h32
                rw [if_pos (by decide)]
                exact L60 Y kY hY
          exact key h_FU 0 X1 (by omega) (by unfold h_FU; omega) (kP.rf X1) (fun d hd => absurd hd (Nat.not_lt_zero _))
        obtain ⟨X3, f1, f2, f3⟩ := L36
        rw [f1]
        exact L127 X3 f2 f3
      · simp only [if_pos ha, if_pos hb, if_neg hc]; exact EqC.now R
    · simp only [if_pos ha, if_neg hb]; exact EqC.now R
  · simp only [if_neg ha]; exact EqC.now R
/-! day by day -/
def dayS (w : hWd) (s : Nat × Nat) : Nat → Nat × Nat
  | 0 => s
  | n + 1 => runS noH w 0 24 (dayS w s n)
theorem dayS_lt {w : hWd} {s : Nat × Nat} (h1 : s.1 < 32) (h2 : s.2 < 3) : ∀ n, (dayS w s n).1 < 32 ∧ (dayS w s n).2 < 3
  | 0 => ⟨h1, h2⟩
  | n + 1 => runS_lt (dayS_lt h1 h2 n).1 (dayS_lt h1 h2 n).2 24
/-- what is told of a state on days 0 .. d - 1 -/
def dayV (w : hWd) (s : Nat × Nat) (d : Nat) (z : Nat × Nat) (v : Int32) : Prop := (∃ j, j < d ∧ dayS w s j = z ∧ v = nI j) ∨ ((∀ j, j < d → dayS w s j ≠ z) ∧ v = -1)
theorem st_inj {s z : Nat × Nat} (h1 : s.1 < 32) (h2 : z.1 < 32) (h : stN s = stN z) : s = z := by
  have : 32 * s.2 + s.1 = 32 * z.2 + z.1 := h
  exact Prod.ext (by omega) (by omega)
theorem eq_round {X M : hMem} (R : RR X M) (a c : Int32) : EqC (fX9_round a c X) (fX10_round a c M) := by
  obtain ⟨H, hH, hx, hm⟩ := R.hats
  unfold fX9_round fX10_round
  rw [xe_hat hx (by omega), me_hat hm (by omega), b01, b01, xe_01, me_in1, b01, b01]
  by_cases ha : h_ib a H
  · by_cases hc : h_ib c 2
    · simp only [if_pos ha, if_pos hc]
      obtain ⟨h, h1, h2, rfl⟩ := ib_ex ha
      obtain ⟨r, q, l, X1, r1, q1, l1, ok, mm, q2, l2, x1, x2, x3, x4, -, -⟩ := R.ctx hH h1
      rw [x1, Option.bind_some]
      have hD := fun n => dayS_lt (w := wOf X M h r) (s := (q, l)) q1 l1 n
      have main : ∀ (X2 M2 : hMem), kP X1 X2 → kQ M M2 → (∀ k, k < 96 → X2 55 k = -1) → (∀ k, k < 96 → M2 21 k = -1) → EqC (h_lp (fX9_round_L58 c) h_FU (X2 40 5, 0, X2)) ((fX10_begins (nI h) M2).bind fun q46 => h_lp (fX10_round_L51 (nI h) c) h_FU (0, q46)) := by
        intro X2 M2 kx km tx tm
        rw [m_begins mm.1, Option.bind_some, km.1 6 (by omega), km.1 7 (by omega), q2, l2, kx 40 (by omega) (by omega), x3]
        have kb : kQ M (h_up (h_up M2 0 36 (nI q)) 0 37 (nI l)) := km.tr (kS_b M2 _ _).Q
        refine EqC.of (lp20 (body := fX9_round_L58 c) (body' := fX10_round_L51 (nI h) c) 96 (fun d s s' => ∃ Y N : hMem, s = (nI (stN (dayS (wOf X M h r) (q, l) d)), nI d, Y) ∧ s' = (nI d, N) ∧ kP X1 Y ∧ kQ M N ∧ N 0 36 = nI (dayS (wOf X M h r) (q, l) d).1 ∧ N 0 37 = nI (dayS (wOf X M h r) (q, l) d).2 ∧ (∀ z : Nat × Nat, z.1 < 32 → z.2 < 3 → dayV (wOf X M h r) (q, l) d z (Y 55 (stN z)) ∧ N 21 (3 * z.1 + z.2) = Y 55 (stN z)) ∧ (∀ i j, i < j → j < d → dayS (wOf X M h r) (q, l) i ≠ dayS (wOf X M h r) (q, l) j)) EqQ _ _ ⟨X2, _, rfl, rfl, kx, kb, by rw [m_own, u_n (by omega), m_own, u_s]; rfl, by rw [m_own, u_s]; rfl, fun z z1 z2 => ?_, fun i j _ h => absurd h (Nat.not_lt_zero _)⟩ (by decide) ?_ ?_)
        · have e1 : X2 55 (stN z) = -1 := tx _ (by show 32 * z.2 + z.1 < 96; omega)
          refine ⟨Or.inr ⟨fun j h => absurd h (Nat.not_lt_zero _), e1⟩, ?_⟩
          rw [m_row (by omega), m_row (by omega), e1]
          exact tm _ (by omega)
        · rintro k k' s s' ⟨Y, N, rfl, rfl, kY, kN, n1, n2, hv, hd⟩
          have hL := hD 96
          have R' := R.keep (kP.X x4 kY) kN.keep
          unfold fX9_round_L58 fX10_round_L51 fX9_round_L100
          dsimp only
          obtain ⟨v1, v2⟩ := hv _ hL.1 hL.2
          have e5 : (3 : Int32) * N 0 36 + N 0 37 = nI (3 * (dayS (wOf X M h r) (q, l) 96).1 + (dayS (wOf X M h r) (q, l) 96).2) := by
            rw [n1, n2, show (3 : Int32) = nI 3 from rfl, pk_mul, nI_add]
          rw [e5]
          have b96 : 3 * (dayS (wOf X M h r) (q, l) 96).1 + (dayS (wOf X M h r) (q, l) 96).2 < 96 := by omega
          have s96 : stN (dayS (wOf X M h r) (q, l) 96) < 96 := by show 32 * _ + _ < 96; omega
          rw [if_pos (ib_mk b96 (by decide)), if_neg (by decide), if_pos (ib_mk s96 (by decide))]
          simp only [nI_clamp (show 3 * (dayS (wOf X M h r) (q, l) 96).1 + (dayS (wOf X M h r) (q, l) 96).2 < 2 ^ 31 by omega), nI_clamp (show stN (dayS (wOf X M h r) (q, l) 96) < 2 ^ 31 by omega), v2]
          rcases v1 with ⟨j, j1, j2, j3⟩ | ⟨j1, j3⟩
          · rw [j3, if_pos (nI_pos' (by omega)), if_neg (n_m1 (by omega))]
            by_cases ec : c = 0
            · rw [if_pos ec, if_pos ec]; exact ⟨_, _, rfl, rfl, rfl, R'⟩
            · rw [if_neg ec, if_neg ec, if_pos (ib_mk s96 (by decide)), if_pos (ib_mk b96 (by decide))]; exact ⟨_, _, rfl, rfl, rfl, R'⟩
          · exfalso
            have := fb_holes 96 97 (fun j => stN (dayS (wOf X M h r) (q, l) j)) (fun i _ => by show 32 * _ + _ < 96; have := hD i; omega) (fun i j hij hj he => by
              have e := st_inj (hD i).1 (hD j).1 he
              rcases (by omega : j < 96 ∨ j = 96) with g | g
              · exact hd i j hij g e
              · subst g; exact j1 i hij e)
            omega
        · rintro k k' d s s' hdd ⟨Y, N, rfl, rfl, kY, kN, n1, n2, hv, hd⟩ hk
          have hL := hD d
          have R' := R.keep (kP.X x4 kY) kN.keep
          unfold fX9_round_L58 fX10_round_L51 fX9_round_L100
          dsimp only
          obtain ⟨v1, v2⟩ := hv _ hL.1 hL.2
          have e5 : (3 : Int32) * N 0 36 + N 0 37 = nI (3 * (dayS (wOf X M h r) (q, l) d).1 + (dayS (wOf X M h r) (q, l) d).2) := by
            rw [n1, n2, show (3 : Int32) = nI 3 from rfl, pk_mul, nI_add]
          rw [e5]
          have b96 : 3 * (dayS (wOf X M h r) (q, l) d).1 + (dayS (wOf X M h r) (q, l) d).2 < 96 := by omega
          have s96 : stN (dayS (wOf X M h r) (q, l) d) < 96 := by show 32 * _ + _ < 96; omega
          rw [if_pos (ib_mk b96 (by decide)), if_neg (show ¬ (96 : Int32) < nI d from nI_nlt (b := d) (a := 96) (by omega) (by decide)), if_pos (ib_mk s96 (by decide))]
          simp only [nI_clamp (show 3 * (dayS (wOf X M h r) (q, l) d).1 + (dayS (wOf X M h r) (q, l) d).2 < 2 ^ 31 by omega), nI_clamp (show stN (dayS (wOf X M h r) (q, l) d) < 2 ^ 31 by omega), v2]
          rcases v1 with ⟨j, j1, j2, j3⟩ | ⟨j1, j3⟩
          · rw [j3, if_pos (nI_pos' (by omega)), if_neg (n_m1 (by omega))]
            by_cases ec : c = 0
            · rw [if_pos ec, if_pos ec]; exact ⟨_, _, rfl, rfl, rfl, R'⟩
            · rw [if_neg ec, if_neg ec, if_pos (ib_mk s96 (by decide)), if_pos (ib_mk b96 (by decide))]; exact ⟨_, _, rfl, rfl, rfl, R'⟩
          · rw [j3, if_neg (by decide), if_pos rfl, if_pos (ib_mk s96 (by decide)), if_pos (ib_mk b96 (by decide))]
            have k1 : kP X1 (h_up Y 55 (stN (dayS (wOf X M h r) (q, l) d)) (nI d)) := kY.tr (fun a h1 _ => m_row (by omega))
            have k2 : kQ M (h_up N 21 (3 * (dayS (wOf X M h r) (q, l) d).1 + (dayS (wOf X M h r) (q, l) d).2) (nI d)) := kN.tr ⟨fun a h1 => m_row (by omega), fun j _ _ => by rw [m_row (by omega)]⟩
            obtain ⟨Y2, f1, f2⟩ := x_later ok (x2.kP k1) (a := 0) (b := 24) (s := dayS (wOf X M h r) (q, l) d) (by omega) (by omega) hL.1 hL.2
            obtain ⟨N2, g1, g2, g3, g4⟩ := m_goesOn ok (mm.kQ k2) (n := 24) (q := (dayS (wOf X M h r) (q, l) d).1) (l := (dayS (wOf X M h r) (q, l) d).2) (by omega) hL.1 hL.2 (by rw [m_row (by omega)]; exact n1) (by rw [m_row (by omega)]; exact n2)
            rw [show fX8_later (nI (stN (dayS (wOf X M h r) (q, l) d))) 0 24 _ = _ from f1, show fX10_goesOn (nI h) 24 _ = _ from g1, Option.bind_some, Option.bind_some]
            rw [hld_no R k2] at g3 g4
            dsimp only
            rw [nI_1]
            refine hk _ _ ⟨Y2, N2, rfl, rfl, k1.tr f2.P, k2.tr g2.Q, g3, g4, fun z z1 z2 => ?_, fun i j hij hj => ?_⟩
            · obtain ⟨u1, u2⟩ := hv z z1 z2
              rw [f2 55 (by omega) (by omega), g2.1 21 (by omega) (by omega) (by omega), m_own, m_own]
              by_cases e : dayS (wOf X M h r) (q, l) d = z
              · rw [e, u_s, u_s]
                exact ⟨Or.inl ⟨d, by omega, e, rfl⟩, rfl⟩
              · rw [u_n (fun hh => e (st_inj hL.1 z1 hh.symm)), u_n (fun hh => e (Prod.ext (by omega) (by omega))), u2]
                refine ⟨?_, rfl⟩
                rcases u1 with ⟨j, w1, w2, w3⟩ | ⟨w1, w3⟩
                · exact Or.inl ⟨j, by omega, w2, w3⟩
                · exact Or.inr ⟨fun j hj => by
                    rcases (by omega : j < d ∨ j = d) with g | g
                    · exact w1 j g
                    · rw [g]; exact e, w3⟩
            · rcases (by omega : j < d ∨ j = d) with g | g
              · exact hd i j hij g
              · rw [g]; exact j1 i (by omega)
      have ini : ∀ (m i : Nat) (Y N : hMem), i ≤ 96 → 96 - i < m → kP X1 Y → kQ M N → (∀ k, k < i → Y 55 k = -1) → (∀ k, k < i → N 21 k = -1) → EqC (h_lp (fX9_round_L28 c) m (nI i, Y)) (h_lp (fX10_round_L25 (nI h) c) m (nI i, N)) := by
        intro m
        induction m with
        | zero => intro i Y N _ h0; exact absurd h0 (Nat.not_lt_zero _)
        | succ m ih =>
          intro i Y N hi hm kY kN hY hN
          rw [lp_s, lp_s]
          generalize hg : h_lp (fX9_round_L28 c) m = kk at *
          generalize hg' : h_lp (fX10_round_L25 (nI h) c) m = kk' at *
          unfold fX9_round_L28 fX10_round_L25
          dsimp only
          rcases Nat.lt_or_ge i 96 with hlt | hge
          · rw [if_neg (show ¬ (96 : Int32) ≤ nI i from nI_ge (b := 96) hlt (by decide)), if_neg (show ¬ (96 : Int32) ≤ nI i from nI_ge (b := 96) hlt (by decide)), if_pos (ib_mk hlt (by decide)), if_pos (ib_mk hlt (by decide)), nI_clamp (by omega), nI_1]
            refine ih (i + 1) _ _ (by omega) (by omega) (kY.tr (fun a h1 _ => m_row (by omega))) (kN.tr ⟨fun a h1 => m_row (by omega), fun j _ _ => by rw [m_row (by omega)]⟩) (fun d hd => ?_) (fun d hd => ?_)
            · rw [m_own]
              by_cases e : d = i
              · rw [e, u_s]
              · rw [u_n e]; exact hY d (by omega)
            · rw [m_own]
              by_cases e : d = i
              · rw [e, u_s]
              · rw [u_n e]; exact hN d (by omega)
          · have h32 : i = 96 := by omega
            subst h32
            rw [if_pos (by decide), if_pos (by decide)]
            exact main Y N kY kN hY hN
      exact ini h_FU 0 X1 M (by omega) (by unfold h_FU; omega) (kP.rf X1) (kQ.rf M) (fun k hk => absurd hk (Nat.not_lt_zero _)) (fun k hk => absurd hk (Nat.not_lt_zero _))
    · simp only [if_pos ha, if_neg hc]; exact EqC.now R
  · simp only [if_neg ha]; exact EqC.now R
