/-! ORDER, both -/
theorem okN_digs {H : Nat} : ∀ (k s N : Nat), okN H k s N = true → ∀ j, j < k → 1 ≤ (N / 10 ^ j) % 10 ∧ (N / 10 ^ j) % 10 ≤ H
  | 0, _, _, _, j, h => absurd h (Nat.not_lt_zero _)
  | k + 1, s, N, h, j, hj => by
    rw [okN_s, Bool.and_eq_true_iff, Bool.and_eq_true_iff, Bool.and_eq_true_iff] at h
    cases j with
    | zero => rw [Nat.pow_zero, Nat.div_one]; exact ⟨Nat.le_of_ble_eq_true h.1, Nat.le_of_ble_eq_true h.2.1⟩
    | succ j =>
      have := okN_digs k _ (N / 10) h.2.2.2 j (by omega)
      rw [Nat.div_div_eq_div_mul, ← Nat.pow_succ'] at this
      exact this
theorem fold_c {α β : Type} {f g : β → α → β} : ∀ (L : List α) (B : β), (∀ r, r ∈ L → ∀ B, f B r = g B r) → L.foldl f B = L.foldl g B
  | [], _, _ => rfl
  | r :: L, B, h => by
    rw [List.foldl_cons, List.foldl_cons, h r (List.mem_cons_self ..), fold_c L _ (fun r hr => h r (List.mem_cons_of_mem _ hr))]
theorem ord_ok {H : Nat} (hH : H ≤ 4) (h0 : 0 < H) : (prm H H 0).map (fun r => ordL r 0) = (List.range 5000).filter (okN H H 0) ∧ ∀ r, r ∈ prm H H 0 → digs (ordL r 0) H = r := by
  have h := h_forall (N := 5) (p := fun H => Nat.beq H 0 || (decide ((prm H H 0).map (fun r => ordL r 0) = (List.range 5000).filter (okN H H 0)) && (prm H H 0).all (fun r => decide (digs (ordL r 0) H = r)))) ord_all (show H < 5 by omega)
  rw [show Nat.beq H 0 = false from Bool.eq_false_iff.mpr (fun h => by have := Nat.eq_of_beq_eq_true h; omega), Bool.false_or, Bool.and_eq_true_iff] at h
  exact ⟨of_decide_eq_true h.1, fun r hr => of_decide_eq_true (List.all_eq_true.mp h.2 r hr)⟩
def hS (M : hMem) (j : Nat) : Nat × Nat := ((M 6 j).toNatClampNeg, (M 7 j).toNatClampNeg)
theorem RR.hS {X M : hMem} (R : RR X M) {j : Nat} (hj : j < 4) : (hS M j).1 < 32 ∧ (hS M j).2 < 3 ∧ M 6 j = nI (hS M j).1 ∧ M 7 j = nI (hS M j).2 := by
  obtain ⟨-, -, -, -, -, i6, i7⟩ := R.hatE hj
  exact ⟨i6.2, i7.2, n_of_ib i6, n_of_ib i7⟩
def oP (X M : hMem) (r i n : Nat) : Nat × Nat := runS noH (wOf X M i r) 0 n (hS M i)
theorem x_order {X M : hMem} (R : RR X M) {H p r c0 pa re : Nat} {b : Int32} (hH : H ≤ 4) (hx : X 1 5 = nI H) (hp : p < 4) (r1 : r < 6) (m15 : M 0 15 = nI r) (c1 : c0 < 32) (pp1 : pa ≤ 4) (e1 : re ≤ 3) (y0 : X (11 + p) 0 = nI c0) (y1 : X (11 + p) 1 = nI pa) (y2 : X (11 + p) 2 = nI re) : ∃ (z : Int32 × hMem) (B : Int32 × Option Nat), h_lp (fX9_order_L23 (nI p) b) h_FU (0, X) = some z ∧ (z.1 = (if b = 0 then B.1 else ansI B.2) ∧ keepX X z.2) ∧ B = (prm H H 0).foldl (stpB (fun i c t => hadS (M 1 0) c t pa re (fun n => (oP X M r i n).1)) (fun i n => (oP X M r i n).1) 0 c0 0) (-1, none) := by
  generalize hB : (prm H H 0).foldl (stpB (fun i c t => hadS (M 1 0) c t pa re (fun n => (oP X M r i n).1)) (fun i n => (oP X M r i n).1) 0 c0 0) (-1, none) = B
  refine Exists.elim (lp_u0 (body := fX9_order_L23 (nI p) b) H (fun i z => ∃ Y : hMem, z = (nI i, Y) ∧ kO X Y ∧ (0 < i → Y 40 0 = M 1 0) ∧ ∀ j, j < i → ∀ n, n ≤ 24 → Y (51 + j) n = nI (stN (oP X M r j n))) (fun z => z.1 = (if b = 0 then B.1 else ansI B.2) ∧ keepX X z.2) (0, X) ⟨X, rfl, fun _ _ _ => rfl, fun h => absurd h (Nat.not_lt_zero _), fun j h => absurd h (Nat.not_lt_zero _)⟩ (by omega) ?_ ?_) ?_
  · rintro k z ⟨Y, rfl, oY, hW, hY⟩
    unfold fX9_order_L23 fX1_plan fX1_plan_L31
    dsimp only
    simp only [show Y 1 5 = nI H from by rw [oY 1 (by omega) (by omega), hx], nI_clamp (show p < 2 ^ 31 by omega)]
    rw [if_pos (nI_le (Nat.le_refl _) (by omega)), if_pos (ib_mk hp (by omega)), if_pos ((img_isB 1 (Or.inl rfl)).2 p hp).2]
    have ey1 : Y (11 + p) = X (11 + p) := oY _ (by omega) (by omega)
    simp (disch := omega) only [m_row, ey1, y0, y1, y2]
    have hF : FX Y H pa re (h_up (h_up (h_up (h_up (h_up Y 49 1 (-1)) 49 2 (-1)) 49 3 (nI H)) 49 4 (nI pa)) 49 5 (nI re)) (-1, none) := by
      refine ⟨fun a ha => ?_, ?_, ?_, ?_, ?_, ?_, fun n hn => by cases hn⟩
      · simp (disch := omega) only [m_row]
      · simp (disch := omega) only [m_own, u_n, u_s]
      · simp (disch := omega) only [m_own, u_n, u_s]
      · simp (disch := omega) only [m_own, u_s]
      · simp (disch := omega) only [m_own, u_n, u_s]
      · simp (disch := omega) only [m_own, u_n, u_s]; rfl
    have hcnt : cnt H 0 = H := by
      rcases (by omega : H = 0 ∨ H = 1 ∨ H = 2 ∨ H = 3 ∨ H = 4) with rfl | rfl | rfl | rfl | rfl <;> decide
    obtain ⟨Z, z1, z2⟩ := x_fetch (X := Y) (W := M 1 0) (H := H) (pa := pa) (re := re) (P := oP X M r) hH hW (fun i hi n hn => ⟨hY i hi n hn, runS_lt (R.hS (j := i) (by omega)).1 (R.hS (j := i) (by omega)).2.1 n⟩) pp1 e1 H 6 0 0 c0 0 _ _ (by omega) hcnt (Nat.two_pow_pos H) c1 (by omega) hF
    rw [hB] at z2
    unfold gX1_fetch
    rw [show fRR_fetch 6 0 0 0 (nI c0) 0 _ = some Z from z1, Option.bind_some, Option.bind_some]
    obtain ⟨g1, -, -, -, g5, g6, -⟩ := z2
    have kx : keepX X Z := by
      refine ⟨fun a ha => ?_, ?_⟩
      · unfold kX at ha; rw [g1 a (by omega)]; exact oY a (by omega) (by omega)
      · rw [g1 30 (by omega), oY 30 (by omega) (by omega)]
    by_cases hb : b = 0
    · rw [if_pos hb, if_pos hb]; exact ⟨_, rfl, g5, kx⟩
    · rw [if_neg hb, if_neg hb]; exact ⟨_, rfl, g6, kx⟩
  · rintro k i z hi ⟨Y, rfl, oY, hW, hY⟩ hk
    unfold fX9_order_L23
    dsimp only
    simp only [show Y 1 5 = nI H from by rw [oY 1 (by omega) (by omega), hx]]
    rw [if_neg (nI_ge hi (by omega))]
    have R' := R.keep oY.X (keepM.rf M)
    obtain ⟨r', q, l, X1, r1', q1, l1, ok, mm, q2, l2, x1, x2, x3, x4, m15', -⟩ := R'.ctx hH hi
    have er : r' = r := ((nI_eq (by omega) (by omega)).mp (m15'.symm.trans m15))
    subst er
    obtain ⟨t1, t2, t3, t4⟩ := R.hS (j := i) (by omega)
    have eq : q = (hS M i).1 := (nI_eq (by omega) (by omega)).mp (q2.symm.trans t3)
    have el : l = (hS M i).2 := (nI_eq (by omega) (by omega)).mp (l2.symm.trans t4)
    have eql : (q, l) = hS M i := by rw [eq, el]
    have ew : wOf Y M i r' = wOf X M i r' := by
      unfold wOf
      rw [oY _ (by omega) (by omega), oY _ (by omega) (by omega)]
    obtain ⟨X2, f1, f2, f3⟩ := x_follow ok x2 (a := 51 + i) (Or.inr ⟨by omega, by omega⟩) x3 q1 l1
    have tr := think_row x1
    rw [x1, Option.bind_some, if_pos (ib_mk (by omega) (by omega)), nI_clamp (by omega), f1, Option.bind_some, nI_1]
    refine hk _ ⟨X2, rfl, fun a h1 h2 => ?_, fun _ => ?_, fun j hj n hn => ?_⟩
    · rw [f2 a (by omega) (by omega) h2, x4 a h1]; exact oY a h1 h2
    · rw [f2 40 (by omega) (by omega) (by omega)]; exact x2.1
    · by_cases e : j = i
      · subst e
        rw [f3 n hn, ew, eql]; rfl
      · rw [f2 (51 + j) (by omega) (by omega) (by omega), tr _ (by omega) (by omega) (by omega)]
        exact hY j (by omega) n hn
  · rintro z ⟨z1, z2⟩
    exact ⟨z, B, z1, z2, rfl⟩
theorem m_lastBy {p N H : Nat} {Z : hMem} (hp : p < 4) (h1 : 1 ≤ H) (h4 : H ≤ 4) (h3 : Z 0 3 = nI H) : fX10_lastBy (nI p) (nI N) Z = h_lp (fX10_lastBy_L59 (nI p) (nI N)) h_FU (Z 8 (3 * p), 0, nI (if H = 0 then 0 else 10 ^ (H - 1)), Z) := by
  unfold fX10_lastBy
  rw [h3, show (3 : Int32) * nI p = nI (3 * p) from pk_mul 3 p, if_pos (ib_mk (by omega) (by omega)), nI_clamp (by omega)]
  rcases (by omega : H = 1 ∨ H = 2 ∨ H = 3 ∨ H = 4) with rfl | rfl | rfl | rfl
  · rw [if_pos (show nI 1 ≤ (3 : Int32) by decide), if_pos (show nI 1 ≤ (2 : Int32) by decide), if_pos (show nI 1 ≤ (1 : Int32) by decide)]; rfl
  · rw [if_pos (show nI 2 ≤ (3 : Int32) by decide), if_pos (show nI 2 ≤ (2 : Int32) by decide), if_neg (show ¬ nI 2 ≤ (1 : Int32) by decide)]; rfl
  · rw [if_pos (show nI 3 ≤ (3 : Int32) by decide), if_neg (show ¬ nI 3 ≤ (2 : Int32) by decide)]; rfl
  · rw [if_neg (show ¬ nI 4 ≤ (3 : Int32) by decide)]; rfl
theorem eq_order {X M : hMem} (R : RR X M) (a b : Int32) : EqC (fX9_order a b X) (fX10_order a b M) := by
  obtain ⟨H, hH, hx, hm⟩ := R.hats
  obtain ⟨C, hC, cx, cm⟩ := R.cats
  unfold fX9_order fX10_order
  rw [xe_cat cx (by omega), me_cat cm (by omega), b01, b01, xe_01, me_in1, b01, b01, hm]
  by_cases ha : h_ib a C
  rotate_left
  · rw [if_neg ha, if_neg ha]; exact EqC.now R
  rw [if_pos ha, if_pos ha]
  by_cases hb : h_ib b 2
  rotate_left
  · rw [if_neg hb, if_neg hb]; exact EqC.now R
  rw [if_pos hb, if_pos hb]
  obtain ⟨p, p1, p2, rfl⟩ := ib_ex ha
  obtain ⟨r, r1, -, m15, -⟩ := R.rule
  obtain ⟨c0, pa, re, c1, pp1, e1, m0, m1, m2, y0, y1, y2⟩ := R.cctx (p := p) (by omega)
  have hp4 : p < 4 := by omega
  obtain ⟨z, B, z1, ⟨z2, z3⟩, z4⟩ := x_order (b := b) R hH hx hp4 r1 m15 c1 pp1 e1 y0 y1 y2
  by_cases h0 : H = 0
  · subst h0
    have eB : B = (nI 0, some 0) := by rw [z4]; rfl
    rw [if_pos (show nI 0 = (0 : Int32) from rfl), z1]
    refine ⟨0, z.2, M, ?_, rfl, R.keep z3 (keepM.rf M)⟩
    have : z.1 = 0 := by
      rw [z2, eB]
      by_cases c : b = 0
      · rw [if_pos c]; rfl
      · rw [if_neg c]; rfl
    rw [← this]
  rw [if_neg (show ¬ nI H = (0 : Int32) from nI_neq 0 (by omega) (by omega) h0), z1]
  generalize hnx : (fun i c t => hadS (M 1 0) c t pa re (fun n => (oP X M r i n).1) : Nat → Nat → Nat → Option Nat) = nx at z4
  generalize hps : (fun i n => (oP X M r i n).1 : Nat → Nat → Nat) = ps at z4
  obtain ⟨o1, o2⟩ := ord_ok hH (by omega)
  have hml : ∃ r, h_lp (fX10_order_L40 (nI p) b) h_FU (-1, -1, 1, M) = some r ∧ (r.1 = (if b = 0 then B.1 else ansI B.2) ∧ kQ M r.2) := by
    refine lp_up (body := fX10_order_L40 (nI p) b) 5000 (fun n z => ∃ (N : hMem) (D : Int32 × Option Nat), z = (D.1, ansI D.2, nI n, N) ∧ kQ M N ∧ okO D.2 ∧ okB D.1 D.2 ∧ D = ((List.range n).filter (okN H H 0)).foldl (fun D n => updB D (nI n) (lastL nx ps (digs n H) c0 0)) (-1, none)) _ ?_ ?_ h_FU 1 _ (by omega) ⟨M, (-1, none), rfl, kQ.rf M, fun n hn => (by cases hn), Or.inl ⟨rfl, rfl⟩, ?_⟩ (by unfold h_FU; omega)
    · rintro k z ⟨N, D, rfl, kN, oD, bD, eD⟩
      unfold fX10_order_L40
      dsimp only
      rw [if_pos (show (5000 : Int32) ≤ nI 5000 from by decide)]
      have eDB : D = B := by
        rw [eD, z4, ← o1, List.foldl_map]
        refine fold_c _ _ (fun r hr D => ?_)
        rw [o2 r hr]
        rfl
      by_cases hb : b = 0
      · rw [if_pos hb, if_pos hb, eDB]; exact ⟨_, rfl, rfl, kN⟩
      · rw [if_neg hb, if_neg hb, eDB]; exact ⟨_, rfl, rfl, kN⟩
    · rintro k n z hn ⟨N, D, rfl, kN, oD, bD, eD⟩ hk
      unfold fX10_order_L40 fX10_order_L91 fX10_order_L87 fX10_order_L92 fX10_order_L105
      dsimp only
      rw [if_neg (show ¬ (5000 : Int32) ≤ nI n from nI_ge (b := 5000) hn (by decide)), show N 0 3 = nI H from by rw [kN.2 3 (by omega) (by omega)]; exact hm, m_isIn hH (by omega) n hn, Option.bind_some, b01, nI_1]
      by_cases okn : okN H H 0 n = true
      · rw [if_pos okn]
        have hL := m_last (H := H) (pa := pa) (re := re) (p := p) (N := n) (M := M) (W := M 1 0) (P := oP X M r) hp4 hH m1 m2 hn (fun i c0 t Z hi hc ht kZ => by
          obtain ⟨t1, t2, t3, t4⟩ := R.hS (j := i) (by omega)
          obtain ⟨r', q, l, X1, r1', q1, l1, ok, mm, q2, l2, x1, x2, x3, x4, m15', -⟩ := R.ctx hH hi
          have er : r' = r := ((nI_eq (by omega) (by omega)).mp (m15'.symm.trans m15))
          subst er
          obtain ⟨Z', g1, g2, g3⟩ := m_had ok (mm.kQ kZ) (by rw [kZ.2 39 (by omega) (by omega)]; exact R.hold) t1 t2 (by rw [kZ.1 6 (by omega)]; exact t3) (by rw [kZ.1 7 (by omega)]; exact t4) hc ht pp1 e1
          exact ⟨Z', g1, g2, fun n hn => ⟨(g3 n hn).1, (runS_lt t1 t2 n).1, (hadS_lt hn (by omega)).2⟩⟩) H c0 0 h_FU N (by unfold h_FU; omega) hH c1 (by omega) kN (okN_digs H 0 n okn)
        rw [hnx, hps] at hL
        obtain ⟨N', n1, n2⟩ := hL
        rw [m_lastBy hp4 (by omega) hH (by rw [kN.2 3 (by omega) (by omega)]; exact hm), kN.1 8 (by omega), m0, show h_lp (fX10_lastBy_L59 (nI p) (nI n)) h_FU (nI c0, 0, nI (if H = 0 then 0 else 10 ^ (H - 1)), N) = _ from n1, Option.bind_some]
        dsimp only
        have oo : okO (lastL nx ps (digs n H) c0 0) := by
          have key : ∀ (L : List Nat) (c t : Nat), t < 2 ^ 30 → okO (lastL nx ps L c t) := by
            intro L
            induction L with
            | nil => intro c t ht q hq; cases hq; exact ht
            | cons i L ih =>
              intro c t ht
              show okO (match nx i c t with | none => none | some n => lastL nx ps L (ps i n) n)
              cases hq : nx i c t with
              | none => intro q h; cases h
              | some q =>
                refine ih _ _ ?_
                rw [← hnx] at hq
                have := frst_lt hq
                by_cases ht2 : t ≤ 25
                · omega
                · omega
          exact key _ _ _ (by omega)
        have eF : ∀ D', D' = updB D (nI n) (lastL nx ps (digs n H) c0 0) → D' = ((List.range (n + 1)).filter (okN H H 0)).foldl (fun D n => updB D (nI n) (lastL nx ps (digs n H) c0 0)) (-1, none) := fun D' h => by
          rw [h, eD, List.range_succ, List.filter_append, List.foldl_append, List.filter_cons_of_pos okn]
          rfl
        generalize lastL nx ps (digs n H) c0 0 = o at oo eF ⊢
        rw [m_less oo oD bD]
        unfold updB at eF
        by_cases hs : soon o D.2 = true
        · rw [if_pos hs, if_neg (show ¬ (1 : Int32) = 0 from by decide), if_neg (show ¬ (1 : Int32) = 0 from by decide)]
          exact hk _ ⟨N', (nI n, o), rfl, n2, oo, okB_new (by omega) hs, eF _ (by rw [if_pos hs])⟩
        · rw [if_neg hs, if_pos rfl, if_pos rfl]
          exact hk _ ⟨N', D, rfl, n2, oD, bD, eF _ (by rw [if_neg hs])⟩
      · rw [if_neg okn]
        refine hk _ ⟨N, D, rfl, kN, oD, bD, ?_⟩
        rw [eD, List.range_succ, List.filter_append, List.foldl_append, List.filter_cons_of_neg okn]
        rfl
    · have : ((List.range 1).filter (okN H H 0)) = [] := by
        rcases (by omega : H = 1 ∨ H = 2 ∨ H = 3 ∨ H = 4) with rfl | rfl | rfl | rfl <;> rfl
      rw [this]; rfl
  obtain ⟨r', w1, w2, w3⟩ := hml
  refine ⟨r'.1, z.2, r'.2, by rw [w2, ← z2], by rw [w1], R.keep z3 w3.keep⟩
