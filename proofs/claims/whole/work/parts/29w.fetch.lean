/-! ORDER, x's side -/
theorem think_row {X X1 : hMem} {a : Int32} (h : fX9_think a X = some X1) : ∀ q, q ≠ 40 → q ≠ 45 → q ≠ 46 → X1 q = X q := by
  unfold fX9_think fX8_suppose fX8_suppose_L68 at h
  intro q h0 h1 h2
  by_cases c1 : h_ib a 4
  · rw [if_pos c1] at h
    by_cases c2 : h_ib (X 1 7) 6
    · rw [if_pos c2] at h
      by_cases c3 : h_isB hYx (7 + a.toNatClampNeg) 2 0 = true
      · rw [if_pos c3] at h
        by_cases c4 : h_isB hYx (56 + 4 * (X 1 7).toNatClampNeg) 3 0 = true
        · rw [if_pos c4, if_pos (show h_cpb 0 0 24 24 24 = true by decide), if_pos (show h_cpb 0 0 24 24 24 = true by decide), Option.bind_some] at h
          cases h
          simp (disch := omega) only [m_row, m_cpr]
        · rw [if_neg c4] at h; cases h
      · rw [if_neg c3] at h; cases h
    · rw [if_neg c2] at h; cases h
  · rw [if_neg c1] at h; cases h
def FX (X : hMem) (H pa re : Nat) (Y : hMem) (B : Int32 × Option Nat) : Prop := (∀ a, a ≠ 49 → Y a = X a) ∧ Y 49 3 = nI H ∧ Y 49 4 = nI pa ∧ Y 49 5 = nI re ∧ Y 49 1 = B.1 ∧ Y 49 2 = ansI B.2 ∧ okO B.2
theorem msk_bit {m i : Nat} (hm : m < 16) (hi : i < 4) : (h_ushr (nI m) (nI i)) &&& 1 = (if m.testBit i = true then 1 else 0) ∧ nI m ||| (1 <<< (nI i &&& 31)) = nI (m ||| 2 ^ i) := by
  have h := Bool.and_eq_true_iff.mp (dc2 (N := 16) (K := 4) (p := fun m i => decide ((h_ushr (nI m) (nI i)) &&& 1 = if m.testBit i = true then 1 else 0) && decide (nI m ||| (1 <<< (nI i &&& 31)) = nI (m ||| 2 ^ i))) msk_all hm hi)
  exact ⟨of_decide_eq_true h.1, of_decide_eq_true h.2⟩
theorem cnt_ok {H m : Nat} (hH : H ≤ 4) (hm : m < 2 ^ H) : (cnt H m = 0 ↔ m = 2 ^ H - 1) ∧ ∀ i, i < H → m.testBit i = false → cnt H (m ||| 2 ^ i) + 1 = cnt H m ∧ m ||| 2 ^ i < 2 ^ H := by
  have h16 : 2 ^ H ≤ 16 := by
    rcases (by omega : H = 0 ∨ H = 1 ∨ H = 2 ∨ H = 3 ∨ H = 4) with rfl | rfl | rfl | rfl | rfl <;> decide
  have h := dc2 (N := 5) (K := 16) (p := fun H m => !Nat.blt m (2 ^ H) || (decide ((cnt H m = 0) ↔ m = 2 ^ H - 1) && (List.range H).all (fun i => m.testBit i || (Nat.beq (cnt H (m ||| 2 ^ i) + 1) (cnt H m) && Nat.blt (m ||| 2 ^ i) (2 ^ H))))) cnt_all (show H < 5 by omega) (show m < 16 by omega)
  have hb : Nat.blt m (2 ^ H) = true := Nat.ble_eq_true_of_le hm
  rw [hb, Bool.not_true, Bool.false_or, Bool.and_eq_true_iff] at h
  refine ⟨of_decide_eq_true h.1, fun i hi ht => ?_⟩
  have h2 := h_forall (p := fun i => m.testBit i || (Nat.beq (cnt H (m ||| 2 ^ i) + 1) (cnt H m) && Nat.blt (m ||| 2 ^ i) (2 ^ H))) h.2 hi
  rw [ht, Bool.false_or, Bool.and_eq_true_iff] at h2
  exact ⟨Nat.eq_of_beq_eq_true h2.1, Nat.le_of_ble_eq_true h2.2⟩
theorem full_ok {H : Nat} (hH : H ≤ 4) : (1 : Int32) <<< (nI H &&& 31) - 1 = nI (2 ^ H - 1) :=
  of_decide_eq_true (h_forall (N := 5) (p := fun H => decide ((1 : Int32) <<< (nI H &&& 31) - 1 = nI (2 ^ H - 1))) full_all (show H < 5 by omega))
theorem x_fetch {X : hMem} {W : Int32} {H pa re : Nat} {P : Nat → Nat → Nat × Nat} (hH : H ≤ 4) (hW : 0 < H → X 40 0 = W) (hP : ∀ i, i < H → ∀ n, n ≤ 24 → X (51 + i) n = nI (stN (P i n)) ∧ (P i n).1 < 32 ∧ (P i n).2 < 3) (hpa : pa ≤ 4) (hre : re ≤ 3) : ∀ (k d m o c t : Nat) (Y : hMem) (B : Int32 × Option Nat), k < d → cnt H m = k → m < 2 ^ H → c < 32 → t ≤ 24 → FX X H pa re Y B → ∃ Y', fRR_fetch d 0 (nI m) (nI o) (nI c) (nI t) Y = some Y' ∧ FX X H pa re Y' ((prm H k m).foldl (stpB (fun i c t => hadS W c t pa re (fun n => (P i n).1)) (fun i n => (P i n).1) o c t) B) := by
  have h16 : 2 ^ H ≤ 16 := by
    rcases (by omega : H = 0 ∨ H = 1 ∨ H = 2 ∨ H = 3 ∨ H = 4) with rfl | rfl | rfl | rfl | rfl <;> decide
  intro k
  induction k with
  | zero =>
    intro d m o c t Y B hd hc hm hcc ht hF
    obtain ⟨f1, f2, f3, f4, f5, f6, f7⟩ := hF
    obtain ⟨d, rfl⟩ : ∃ d', d = d' + 1 := ⟨d - 1, by omega⟩
    show ∃ Y', fX1_fetch (fRR_fetch d) (nI m) (nI o) (nI c) (nI t) Y = some Y' ∧ _
    have em := ((cnt_ok hH hm).1).mp hc
    unfold fX1_fetch
    rw [f2, full_ok hH, if_pos (by rw [em]), f6, show nI t = ansI (some t) from rfl, x_sooner (fun n hn => by cases hn; omega) f7, b01]
    show ∃ Y', _ ∧ FX X H pa re Y' (stpB _ _ o c t B [])
    unfold stpB updB
    show ∃ Y', _ ∧ FX X H pa re Y' (if soon (some t) B.2 = true then (nI o, some t) else B)
    by_cases hs : soon (some t) B.2 = true
    · rw [if_pos hs, if_pos hs]
      refine ⟨_, rfl, fun a ha => ?_, ?_, ?_, ?_, ?_, ?_, fun n hn => by cases hn; omega⟩
      · rw [m_row ha, m_row ha]; exact f1 a ha
      · simp (disch := omega) only [m_own, u_n]; exact f2
      · simp (disch := omega) only [m_own, u_n]; exact f3
      · simp (disch := omega) only [m_own, u_n]; exact f4
      · simp (disch := omega) only [m_own, u_n, u_s]
      · simp (disch := omega) only [m_own, u_s]
    · rw [if_neg hs, if_neg hs]
      exact ⟨Y, rfl, f1, f2, f3, f4, f5, f6, f7⟩
  | succ k ih =>
    intro d m o c t Y B hd hc hm hcc ht hF
    obtain ⟨d, rfl⟩ : ∃ d', d = d' + 1 := ⟨d - 1, by omega⟩
    show ∃ Y', fX1_fetch (fRR_fetch d) (nI m) (nI o) (nI c) (nI t) Y = some Y' ∧ _
    have em : ¬ m = 2 ^ H - 1 := fun e => by have := ((cnt_ok hH hm).1).mpr e; omega
    unfold fX1_fetch
    rw [hF.2.1, full_ok hH, if_neg (nI_neq _ (by omega) (by omega) em), prm_s]
    generalize hnx : (fun i c t => hadS W c t pa re (fun n => (P i n).1) : Nat → Nat → Nat → Option Nat) = nx at ih ⊢
    generalize hps : (fun i n => (P i n).1 : Nat → Nat → Nat) = ps at ih ⊢
    refine lp_u0 (body := fX1_fetch_L39 (fRR_fetch d) (nI m) (nI o) (nI c) (nI t)) H (fun i z => ∃ Z : hMem, z = (nI i, Z) ∧ FX X H pa re Z (((List.range i).flatMap (fun i => if m.testBit i = true then [] else (prm H k (m ||| 2 ^ i)).map (fun r => i :: r))).foldl (stpB nx ps o c t) B)) _ (0, Y) ⟨Y, rfl, hF⟩ (by omega) ?_ ?_
    · rintro q z ⟨Z, rfl, hZ⟩
      unfold fX1_fetch_L39
      dsimp only
      simp only [hZ.2.1]
      rw [if_pos (nI_le (Nat.le_refl _) (by omega))]
      exact ⟨_, rfl, hZ⟩
    · rintro q i z hi ⟨Z, rfl, hZ⟩ hq
      have hrange : ∀ B', B' = ((if m.testBit i = true then [] else (prm H k (m ||| 2 ^ i)).map (fun r => i :: r)).foldl (stpB nx ps o c t) (((List.range i).flatMap (fun i => if m.testBit i = true then [] else (prm H k (m ||| 2 ^ i)).map (fun r => i :: r))).foldl (stpB nx ps o c t) B)) → B' = ((List.range (i + 1)).flatMap (fun i => if m.testBit i = true then [] else (prm H k (m ||| 2 ^ i)).map (fun r => i :: r))).foldl (stpB nx ps o c t) B := by
        intro B' h
        rw [h, List.range_succ, List.flatMap_append, List.foldl_append, List.flatMap_singleton]
      generalize ((List.range i).flatMap (fun i => if m.testBit i = true then [] else (prm H k (m ||| 2 ^ i)).map (fun r => i :: r))).foldl (stpB nx ps o c t) B = Bi at hZ hrange
      obtain ⟨f1, f2, f3, f4, f5, f6, f7⟩ := hZ
      obtain ⟨mb1, mb2⟩ := msk_bit (m := m) (i := i) (by omega) (by omega)
      unfold fX1_fetch_L39
      dsimp only
      simp only [f2, f3, f4, mb1, mb2, b01, nI_clamp (show i < 2 ^ 31 by omega), show Z (51 + i) = X (51 + i) from f1 _ (by omega)]
      rw [if_neg (nI_ge hi (by omega)), nI_1]
      by_cases tb : m.testBit i = true
      · rw [if_pos tb]
        refine hq _ ⟨Z, rfl, ?_⟩
        rw [← hrange Bi (by rw [if_pos tb]; rfl)]
        exact ⟨f1, f2, f3, f4, f5, f6, f7⟩
      · rw [if_neg tb, if_pos (ib_mk (by omega) (by omega))]
        have hh := x_had (X := Z) (W := W) (a := 51 + i) (s := P i) (by rw [f1 40 (by omega)]; exact hW (by omega)) (Or.inr ⟨by omega, by omega⟩) (fun n hn => by rw [f1 _ (by omega)]; exact hP i hi n hn) hcc (m := t) (by omega) hpa hre
        have hl := fun n hn => hadS_lt (W := W) (c0 := c) (m := t) (pace := pa) (reach := re) (sq := fun n => (P i n).1) (n := n) hn (by omega)
        have ho := hadS_ok (W := W) (c0 := c) (m := t) (pace := pa) (reach := re) (sq := fun n => (P i n).1) (by omega)
        have enx : nx i c t = hadS W c t pa re (fun n => (P i n).1) := by rw [← hnx]
        rw [hh, Option.bind_some, ← enx]
        rw [← enx] at hl ho
        cases hn : nx i c t with
        | none =>
          rw [if_pos (show ansI none < 0 from by decide)]
          refine hq _ ⟨Z, rfl, ?_⟩
          rw [← hrange Bi (by rw [if_neg tb, fold_none hn])]
          exact ⟨f1, f2, f3, f4, f5, f6, f7⟩
        | some n =>
          obtain ⟨n1, n2⟩ := hl n hn
          obtain ⟨p1, p2, p3⟩ := hP i hi n n2
          rw [if_neg (show ¬ ansI (some n) < 0 from nI_pos (by omega)), if_pos (ib_mk (by omega) (by omega)), show ansI (some n) = nI n from rfl, if_pos (ib_mk (by omega) (by omega)), nI_clamp (by omega), p1, x_sqS p2 p3, show (10 : Int32) * nI o + nI i + 1 = nI (10 * o + i + 1) from by rw [show (10 : Int32) = nI 10 from rfl, pk_mul, nI_add, nI_1]]
          obtain ⟨c1, c2⟩ := (cnt_ok hH hm).2 i hi (eq_false_of_ne_true tb)
          obtain ⟨Z', z1, z2⟩ := ih d (m ||| 2 ^ i) (10 * o + i + 1) (P i n).1 n Z Bi (by omega) (by omega) c2 p2 n2 ⟨f1, f2, f3, f4, f5, f6, f7⟩
          rw [z1, Option.bind_some]
          refine hq _ ⟨Z', rfl, ?_⟩
          rw [← hrange _ (by rw [if_neg tb, fold_some hn])]
          have : ps i n = (P i n).1 := by rw [← hps]
          rw [this]
          exact z2
