/-! WHAT A TEXT SAYS: a pure reader of its code; both machines say the same -/
def unW (w a : Int32) : Int32 := if w = -19 then -a else if a = 0 then 1 else 0
def biW (w a b : Int32) : Int32 := fX4_joined w a b (fun _ _ => 0)
def evR (c nm : Nat → Int32) : Nat → Nat → List Int32 → Int32
  | 0, _, s => s.getLastD 0
  | n + 1, i, s => if -6 ≤ c i then evR c nm n (i + 1) ((if c i < 0 then nm (-1 - c i).toNatClampNeg else c i) :: s)
    else if c i = -13 ∨ c i = -19 then (match s with | [] => 0 | a :: r => evR c nm n (i + 1) (unW (c i) a :: r))
    else (match s with | b :: a :: r => evR c nm n (i + 1) (biW (c i) a b :: r) | _ => 0)
theorem evR_s (c nm : Nat → Int32) (n i : Nat) (s : List Int32) : evR c nm (n + 1) i s = if -6 ≤ c i then evR c nm n (i + 1) ((if c i < 0 then nm (-1 - c i).toNatClampNeg else c i) :: s)
    else if c i = -13 ∨ c i = -19 then (match s with | [] => 0 | a :: r => evR c nm n (i + 1) (unW (c i) a :: r))
    else (match s with | b :: a :: r => evR c nm n (i + 1) (biW (c i) a b :: r) | _ => 0) := rfl
def bndV (p : Nat) (v : Int32) : Int32 := if p = 0 then (if 0 ≤ v then (if v ≤ 9 then v else 9) else 0) else if p = 1 then h_rem (h_rem v 3 + 3) 3 else (if -99 ≤ v then (if v ≤ 99 then v else 99) else -99)
def evX (c e : Nat → Int32) (p : Nat) (nm : Nat → Int32) : Int32 :=
  let lo := if p = 0 then 0 else (e (p - 1)).toNatClampNeg
  bndV p (evR c nm ((e p).toNatClampNeg - lo) lo [])
/-- a row holds a stack -/
def stR (P : Nat → Int32) : List Int32 → Prop
  | [] => True
  | a :: r => P r.length = a ∧ stR P r
theorem stR_upd {P : Nat → Int32} {k : Nat} {v : Int32} : ∀ {r : List Int32}, r.length ≤ k → stR P r → stR (upd P k v) r
  | [], _, _ => trivial
  | a :: r, hk, h => by
    have h1 : r.length + 1 ≤ k := hk
    exact ⟨by rw [u_n (by omega)]; exact h.1, stR_upd (by omega) h.2⟩
theorem stR_last {P : Nat → Int32} : ∀ {s : List Int32}, s ≠ [] → stR P s → P 0 = s.getLastD 0
  | [], h, _ => absurd rfl h
  | [a], _, h => h.1
  | a :: b :: r, _, h => by
    have := stR_last (s := b :: r) (by simp) h.2
    rw [this]; rfl
theorem w_op {w : Int32} (h : w = -11 ∨ w = -12 ∨ w = -14 ∨ w = -15 ∨ w = -16 ∨ w = -17 ∨ w = -18) : w < -6 ∧ ¬ -6 ≤ w ∧ ¬ w = -13 ∧ ¬ w = -19 ∧ ¬ (w = -13 ∨ w = -19) := by
  rcases h with rfl | rfl | rfl | rfl | rfl | rfl | rfl <;> decide
theorem w_un {w : Int32} (h : w = -13 ∨ w = -19) : w < -6 ∧ ¬ -6 ≤ w := by
  rcases h with rfl | rfl <;> decide
theorem nI_sub1 {a : Nat} (h : 1 ≤ a) : nI a - 1 = nI (a - 1) := pk_sub (a := a) (b := 1) h
theorem nI_addm1 {a : Nat} (h : 1 ≤ a) : nI a + -1 = nI (a - 1) := sb_m1 h
theorem w_nm {w : Int32} (h1 : -6 ≤ w) (h2 : w < 0) : ∃ j, j < 6 ∧ -1 - w = nI j := by
  have a1 : (-6 : Int) ≤ w.toInt := by have := Int32.le_iff_toInt_le.mp h1; rwa [show (-6 : Int32).toInt = -6 from by decide] at this
  have a2 := (lt0_int w).mp h2
  have a3 : (-1 : Int32).toInt = -1 := by decide
  refine ⟨(-1 - w.toInt).toNat, by omega, ?_⟩
  apply Int32.toInt_inj.mp
  rw [fb_subI (by rw [a3]; omega) (by rw [a3]; omega), nI_toInt (by omega), a3]
  omega
theorem nn_bit (x : Int32) : 0 ≤ x ↔ bt x 31 = false := by
  have h1 : bt x 31 = x.toBitVec.msb := (BitVec.msb_eq_getLsbD_last x.toBitVec).symm
  rw [h1, BitVec.msb_eq_toInt, Jvm.Kit.i32_nonneg]
  have : x.toInt = x.toBitVec.toInt := rfl
  rw [← this]
  simp
theorem xor3 (v : Int32) : 0 ≤ v ^^^ 3 ↔ 0 ≤ v := by
  rw [nn_bit, nn_bit, b_xor, show bt 3 31 = false from by decide, Bool.xor_false]
theorem rem3 (v : Int32) : ∃ n : Nat, (v.toInt = n ∧ (h_rem v 3).toInt = (n % 3 : Nat)) ∨ (v.toInt = -(n : Int) ∧ (h_rem v 3).toInt = -((n % 3 : Nat) : Int)) := by
  have a1 := v.toInt_lt
  have a2 := v.le_toInt
  have h3 : (3 : Int32).toInt = 3 := by decide
  have hd : (v / 3).toInt = v.toInt.tdiv 3 := by rw [Jvm.Kit.i32_div (by rw [h3]; omega), h3]
  rcases Int.eq_nat_or_neg v.toInt with ⟨n, h | h⟩
  · refine ⟨n, Or.inl ⟨h, ?_⟩⟩
    have e : (v / 3).toInt = ((n / 3 : Nat) : Int) := by rw [hd, h]; rfl
    have e2 : (v / 3 * 3).toInt = ((n / 3 : Nat) : Int) * 3 := by rw [fb_mulI (by rw [e, h3]; omega) (by rw [e, h3]; omega), e, h3]
    show (v - v / 3 * 3).toInt = _
    rw [fb_subI (by rw [e2]; omega) (by rw [e2]; omega), e2, h]
    omega
  · refine ⟨n, Or.inr ⟨h, ?_⟩⟩
    have e : (v / 3).toInt = -((n / 3 : Nat) : Int) := by rw [hd, h, Int.neg_tdiv]; rfl
    have e2 : (v / 3 * 3).toInt = -((n / 3 : Nat) : Int) * 3 := by rw [fb_mulI (by rw [e, h3]; omega) (by rw [e, h3]; omega), e, h3]
    show (v - v / 3 * 3).toInt = _
    rw [fb_subI (by rw [e2]; omega) (by rw [e2]; omega), e2, h]
    omega
theorem mod3 (v : Int32) (M : hMem) : fJ9_floorMod_7cf53 v 3 M = some (h_rem (h_rem v 3 + 3) 3) := by
  unfold fJ9_floorMod_7cf53
  rw [if_neg (by decide)]
  obtain ⟨n, ⟨h1, h2⟩ | ⟨h1, h2⟩⟩ := rem3 v
  · rw [if_pos ((xor3 v).mpr (Jvm.Kit.i32_nonneg.mpr (by omega)))]
    have e : h_rem v 3 = nI (n % 3) := Int32.toInt_inj.mp (by rw [h2, nI_toInt (by omega)])
    rw [e]
    have hh : n % 3 < 3 := Nat.mod_lt _ (by decide)
    rcases (by omega : n % 3 = 0 ∨ n % 3 = 1 ∨ n % 3 = 2) with q | q | q <;> rw [q] <;> decide
  · have hh : n % 3 < 3 := Nat.mod_lt _ (by decide)
    rcases (by omega : n % 3 = 0 ∨ n % 3 = 1 ∨ n % 3 = 2) with q | q | q
    · have e : h_rem v 3 = 0 := Int32.toInt_inj.mp (by rw [h2, q]; decide)
      rw [e]
      by_cases c : 0 ≤ v ^^^ 3
      · rw [if_pos c]; decide
      · rw [if_neg c]; decide
    · have e : h_rem v 3 = -1 := Int32.toInt_inj.mp (by rw [h2, q]; decide)
      have c : ¬ 0 ≤ v ^^^ 3 := fun h => by
        have := Jvm.Kit.i32_nonneg.mp ((xor3 v).mp h)
        have : n = 0 := by omega
        omega
      rw [if_neg c, e]; decide
    · have e : h_rem v 3 = -2 := Int32.toInt_inj.mp (by rw [h2, q]; decide)
      have c : ¬ 0 ≤ v ^^^ 3 := fun h => by
        have := Jvm.Kit.i32_nonneg.mp ((xor3 v).mp h)
        have : n = 0 := by omega
        omega
      rw [if_neg c, e]; decide
theorem wb_x {p : Nat} (hp : p < 3) (v : Int32) (M : hMem) : fX4_withinBounds (nI p) v M = some (bndV p v) := by
  rcases (by omega : p = 0 ∨ p = 1 ∨ p = 2) with rfl | rfl | rfl
  · rfl
  · unfold fX4_withinBounds
    rw [if_neg (by decide), if_pos (show nI 1 = 1 from rfl), mod3]
    rfl
  · rfl
set_option maxHeartbeats 1000000 in
theorem x_saysL {c e nm : Nat → Int32} {k0 p lo hi : Nat} {X : hMem} (hp : p < 3) (hhi : hi ≤ 160) (hc : X (k0 + 1) = c) (he : X (k0 + 2) = e) (hn : X 48 = nm) (hk : k0 + 3 ≠ 48) (hep : e p = nI hi) (hlo : lo ≤ hi) (hw : wfR c (hi - lo) lo 0) : ∃ r, h_lp (fX4_says_L31 k0 (nI p)) h_FU (0, nI lo, X) = some r ∧ (r.1 = bndV p (evR c nm (hi - lo) lo []) ∧ ∀ a, a ≠ k0 + 3 → r.2 a = X a) := by
  refine lp_up (body := fX4_says_L31 k0 (nI p)) hi (fun i s => ∃ (st : List Int32) (Y : hMem), s = (nI st.length, nI i, Y) ∧ (∀ a, a ≠ k0 + 3 → Y a = X a) ∧ stR (Y (k0 + 3)) st ∧ st.length ≤ 40 ∧ lo ≤ i ∧ wfR c (hi - i) i st.length ∧ evR c nm (hi - i) i st = evR c nm (hi - lo) lo []) _ ?_ ?_ h_FU lo _ hlo ⟨[], X, rfl, fun _ _ => rfl, trivial, Nat.zero_le _, Nat.le_refl _, hw, rfl⟩ (by unfold h_FU; omega)
  · rintro k s ⟨st, Y, rfl, hY, hst, hl, hlo', hwf, hev⟩
    rw [Nat.sub_self] at hwf hev
    have h1 : 1 ≤ st.length := hwf
    have hne : st ≠ [] := by intro h; rw [h] at h1; exact absurd h1 (by decide)
    refine ⟨(bndV p (evR c nm (hi - lo) lo []), Y), ?_, rfl, hY⟩
    · unfold fX4_says_L31
      simp only []
      rw [if_pos (ib_mk hp (by decide)), nI_clamp (by omega), hY (k0 + 2) (by omega), he, hep, if_pos (nI_le (Nat.le_refl _) (by omega)), wb_x hp, Option.bind_some, stR_last hne hst, ← hev]
      rfl
  · rintro k i s hi1 ⟨st, Y, rfl, hY, hst, hl, hlo', hwf, hev⟩ hk1
    obtain ⟨n, hn1⟩ : ∃ n, hi - i = n + 1 := ⟨hi - i - 1, by omega⟩
    have hn2 : hi - (i + 1) = n := by omega
    rw [hn1] at hwf hev
    have hYc : Y (k0 + 1) = c := by rw [hY _ (by omega), hc]
    have hY48 : Y 48 = nm := by rw [hY _ (by omega), hn]
    unfold fX4_says_L31
    simp only []
    rw [if_pos (ib_mk hp (by decide)), nI_clamp (by omega), hY (k0 + 2) (by omega), he, hep, if_neg (nI_ge hi1 (by omega)), if_pos (ib_mk (by omega) (by decide)), nI_clamp (by omega), hYc, hY48]
    rw [evR_s] at hev
    rcases hwf with ⟨w1, w2, w3, w4⟩ | ⟨w1, w3, w4⟩ | ⟨w1, w3, w4⟩
    · rw [if_neg (fun h => nlt_le.mp h w1), if_neg (fun h => by have := (nI_leI (a := 40) (by decide) (by omega)).mp h; omega)]
      rw [if_pos w1] at hev
      by_cases hz : c i < 0
      · obtain ⟨j, hj, ej⟩ := w_nm w1 hz
        rw [if_pos hz, ej, if_pos (ib_mk hj (by decide)), if_pos (ib_mk w3 (by decide)), nI_clamp (by omega), nI_clamp (by omega), nI_1, nI_1]
        rw [if_pos hz, ej, nI_clamp (by omega)] at hev
        refine hk1 _ ⟨nm j :: st, _, rfl, ?_, ?_, by simp only [List.length_cons]; omega, by omega, by rw [hn2]; exact w4, by rw [hn2]; exact hev⟩
        · intro a ha; rw [m_row ha]; exact hY a ha
        · rw [m_own]; exact ⟨u_s _ _ _, stR_upd (Nat.le_refl _) hst⟩
      · rw [if_neg hz, if_pos (ib_mk w3 (by decide)), nI_clamp (by omega), nI_1, nI_1]
        rw [if_neg hz] at hev
        refine hk1 _ ⟨c i :: st, _, rfl, ?_, ?_, by simp only [List.length_cons]; omega, by omega, by rw [hn2]; exact w4, by rw [hn2]; exact hev⟩
        · intro a ha; rw [m_row ha]; exact hY a ha
        · rw [m_own]; exact ⟨u_s _ _ _, stR_upd (Nat.le_refl _) hst⟩
    · have hu := w_un w1
      rw [if_neg hu.2, if_pos w1] at hev
      cases st with
      | nil => exact absurd w3 (by decide)
      | cons a r =>
        simp only [List.length_cons] at *
        have key : ∃ q, fX4_says_L106 k k0 (nI p) (nI (r.length + 1)) (nI i) (c i) Y = some q ∧ (q.1 = bndV p (evR c nm (hi - lo) lo []) ∧ ∀ a, a ≠ k0 + 3 → q.2 a = X a) := by
          unfold fX4_says_L106
          rw [if_neg (fun h => by have := (nI_ltI (b := 1) (by omega) (by decide)).mp h; omega), nI_sub1 (by omega), if_pos (ib_mk (by omega) (by decide)), if_pos (ib_mk (by omega) (by decide)), nI_clamp (by omega), nI_1]
          refine hk1 _ ⟨unW (c i) a :: r, _, rfl, ?_, ?_, by simp only [List.length_cons]; omega, by omega, by rw [hn2]; exact w4, by rw [hn2]; exact hev⟩
          · intro b hb; rw [m_row hb]; exact hY b hb
          · rw [m_own]
            refine ⟨?_, stR_upd (Nat.le_refl _) hst.2⟩
            rw [Nat.add_sub_cancel, u_s, hst.1]
            rfl
        rw [if_pos hu.1]
        rcases w1 with e1 | e1
        · rw [if_pos e1]; exact key
        · rw [if_neg (by rw [e1]; decide), if_pos e1]; exact key
    · obtain ⟨o1, o2, o3, o4, o5⟩ := w_op w1
      rw [if_neg o2, if_neg o5] at hev
      cases st with
      | nil => exact absurd w3 (by decide)
      | cons b r' =>
        cases r' with
        | nil => exact absurd w3 (by simp only [List.length_cons, List.length_nil]; omega)
        | cons a r =>
          simp only [List.length_cons] at *
          rw [if_pos o1, if_neg o3, if_neg o4, if_neg (fun h => by have := (nI_ltI (b := 2) (by omega) (by decide)).mp h; omega), nI_addm1 (by omega), nI_sub1 (by omega), if_pos (ib_mk (by omega) (by decide)), if_pos (ib_mk (by omega) (by decide)), if_pos (ib_mk (by omega) (by decide)), nI_clamp (by omega), nI_clamp (by omega), nI_1]
          refine hk1 _ ⟨biW (c i) a b :: r, _, rfl, ?_, ?_, by simp only [List.length_cons]; omega, by omega, by rw [hn2]; exact w4, by rw [hn2]; exact hev⟩
          · intro q hq; rw [m_row hq]; exact hY q hq
          · rw [m_own]
            refine ⟨?_, stR_upd (Nat.le_refl _) hst.2.2⟩
            have e1 : r.length + 1 + 1 - 1 - 1 = r.length := by omega
            have e2 : r.length + 1 + 1 - 1 = r.length + 1 := by omega
            have s1 : Y (k0 + 3) (r.length + 1) = b := hst.1
            rw [e1, e2, u_s, s1, hst.2.1]
            rfl
theorem x_says {c e nm : Nat → Int32} {T p : Nat} {X : hMem} {mc ms : Nat → Int32} (hT : T < 6) (hp : p < 3) (hg : gText c e mc ms) (hc : X (57 + 4 * T) = c) (he : X (58 + 4 * T) = e) (hn : X 48 = nm) : ∃ X', fX4_says (56 + 4 * T) (nI p) X = some (evX c e p nm, X') ∧ ∀ a, a ≠ 59 + 4 * T → X' a = X a := by
  obtain ⟨e0, e1, e2, g0, g1, g2, l0, l1, l2, w0, w1, w2, -⟩ := hg
  have hB : h_isB hYx (56 + 4 * T) 3 0 = true := h_forall (N := 6) (p := fun T => h_isB hYx (56 + 4 * T) 3 0) (by decide +kernel) hT
  have hc' : X (56 + 4 * T + 1) = c := by rw [show 56 + 4 * T + 1 = 57 + 4 * T from by omega]; exact hc
  have he' : X (56 + 4 * T + 2) = e := by rw [show 56 + 4 * T + 2 = 58 + 4 * T from by omega]; exact he
  have fr : 56 + 4 * T + 3 = 59 + 4 * T := by omega
  unfold fX4_says
  rw [if_pos hB, if_neg (nI_pos (by omega)), if_pos (show nI p < (3 : Int32) from nI_lt (b := 3) hp (by decide)), he']
  rcases (by omega : p = 0 ∨ p = 1 ∨ p = 2) with rfl | rfl | rfl
  · rw [if_pos (show nI 0 = 0 from rfl)]
    obtain ⟨r, q1, q2, q3⟩ := x_saysL (k0 := 56 + 4 * T) (p := 0) (lo := 0) (hi := e0) hp (by omega) hc' he' hn (by omega) g0 (by omega) w0
    refine ⟨r.2, ?_, fun a ha => q3 a (by omega)⟩
    rw [show ((0 : Int32), (0 : Int32), X) = (0, nI 0, X) from rfl, q1]
    unfold evX
    simp only [g0, nI_clamp (show e0 < 2 ^ 31 by omega), if_true]
    rw [← q2]
  · rw [if_neg (show ¬ nI 1 = 0 from by decide), if_pos (show h_ib (nI 1 - 1) 3 from ib_mk (j := 0) (by omega) (by omega)), show (nI 1 - 1).toNatClampNeg = 0 from by decide, g0]
    obtain ⟨r, q1, q2, q3⟩ := x_saysL (k0 := 56 + 4 * T) (p := 1) (lo := e0) (hi := e1) hp (by omega) hc' he' hn (by omega) g1 (by omega) w1
    refine ⟨r.2, ?_, fun a ha => q3 a (by omega)⟩
    rw [q1]
    unfold evX
    simp only [g1, g0, nI_clamp (show e0 < 2 ^ 31 by omega), nI_clamp (show e1 < 2 ^ 31 by omega), if_neg (show ¬ 1 = 0 by omega), Nat.sub_self]
    rw [← q2]
  · rw [if_neg (show ¬ nI 2 = 0 from by decide), if_pos (show h_ib (nI 2 - 1) 3 from ib_mk (j := 1) (by omega) (by omega)), show (nI 2 - 1).toNatClampNeg = 1 from by decide, g1]
    obtain ⟨r, q1, q2, q3⟩ := x_saysL (k0 := 56 + 4 * T) (p := 2) (lo := e1) (hi := e2) hp (by omega) hc' he' hn (by omega) g2 (by omega) w2
    refine ⟨r.2, ?_, fun a ha => q3 a (by omega)⟩
    rw [q1]
    unfold evX
    simp only [g1, g2, nI_clamp (show e1 < 2 ^ 31 by omega), nI_clamp (show e2 < 2 ^ 31 by omega), if_neg (show ¬ 2 = 0 by omega), show 2 - 1 = 1 from rfl]
    rw [← q2]
/-! the other one's -/
theorem trW_num {w : Int32} (h0 : ¬ w < 0) (h1 : w ≤ 9999) : ∃ j, j ≤ 9999 ∧ w = nI j ∧ trW w = nI (100000 + j) := by
  obtain ⟨j, hj, rfl⟩ := nI_of2 (M := 9999) (n := 9999) (by decide) h0 h1
  refine ⟨j, hj, rfl, ?_⟩
  unfold trW
  rw [if_pos (nI_pos' (by omega)), show (100000 : Int32) = nI 100000 from rfl, nI_add]
theorem trW_nm {w : Int32} (h1 : -6 ≤ w) (h0 : w < 0) : trW w = -1 - w := by
  unfold trW
  rw [if_neg (nlt_le.mp h0), if_pos h1]
theorem m_two {w a b : Int32} (h : w = -11 ∨ w = -12 ∨ w = -14 ∨ w = -15 ∨ w = -16 ∨ w = -17 ∨ w = -18) (M : hMem) : fX10_two (trW w) a b M = biW w a b := by
  rcases h with rfl | rfl | rfl | rfl | rfl | rfl | rfl <;> rfl
theorem trW_op {w : Int32} (h : w = -11 ∨ w = -12 ∨ w = -14 ∨ w = -15 ∨ w = -16 ∨ w = -17 ∨ w = -18) : ¬ (100000 : Int32) ≤ trW w ∧ (11 : Int32) ≤ trW w ∧ ¬ trW w = 13 ∧ ¬ trW w = 19 := by
  rcases h with rfl | rfl | rfl | rfl | rfl | rfl | rfl <;> decide
set_option maxHeartbeats 1000000 in
theorem m_saysL {c nm : Nat → Int32} {r p lo hi : Nat} {M : hMem} (hr : r < 6) (hp : p < 3) (hhi : hi ≤ 160) (h15 : M 0 15 = nI r) (hms : M 11 (4 * r + p + 1) = nI hi) (hcode : ∀ i, i < hi → M 10 (200 * r + i) = trW (c i)) (hn : M 20 = nm) (hlo : lo ≤ hi) (hw : wfR c (hi - lo) lo 0) : ∃ q, h_lp (fX10_says_L16 (nI p)) h_FU (0, nI lo, M) = some q ∧ (q.1 = evR c nm (hi - lo) lo [] ∧ ∀ a, a ≠ 19 → q.2 a = M a) := by
  have e1 : (4 : Int32) * nI r + nI p + 1 = nI (4 * r + p + 1) := by
    rw [show (4 : Int32) = nI 4 from rfl, pk_mul, nI_add, nI_1]
  refine lp_up (body := fX10_says_L16 (nI p)) hi (fun i s => ∃ (st : List Int32) (Y : hMem), s = (nI st.length, nI i, Y) ∧ (∀ a, a ≠ 19 → Y a = M a) ∧ stR (Y 19) st ∧ st.length ≤ 40 ∧ lo ≤ i ∧ wfR c (hi - i) i st.length ∧ evR c nm (hi - i) i st = evR c nm (hi - lo) lo []) _ ?_ ?_ h_FU lo _ hlo ⟨[], M, rfl, fun _ _ => rfl, trivial, Nat.zero_le _, Nat.le_refl _, hw, rfl⟩ (by unfold h_FU; omega)
  · rintro k s ⟨st, Y, rfl, hY, hst, hl, hlo', hwf, hev⟩
    rw [Nat.sub_self] at hwf hev
    have h1 : 1 ≤ st.length := hwf
    have hne : st ≠ [] := by intro h; rw [h] at h1; exact absurd h1 (by decide)
    refine ⟨(evR c nm (hi - lo) lo [], Y), ?_, rfl, hY⟩
    unfold fX10_says_L16
    simp only []
    rw [hY 0 (by omega), h15, e1, if_pos (ib_mk (by omega) (by decide)), nI_clamp (by omega), hY 11 (by omega), hms, if_pos (nI_le (Nat.le_refl _) (by omega)), stR_last hne hst, ← hev]
    rfl
  · rintro k i s hi1 ⟨st, Y, rfl, hY, hst, hl, hlo', hwf, hev⟩ hk1
    obtain ⟨n, hn1⟩ : ∃ n, hi - i = n + 1 := ⟨hi - i - 1, by omega⟩
    have hn2 : hi - (i + 1) = n := by omega
    rw [hn1] at hwf hev
    have e2 : (200 : Int32) * nI r + nI i = nI (200 * r + i) := by
      rw [show (200 : Int32) = nI 200 from rfl, pk_mul, nI_add]
    have hY20 : Y 20 = nm := by rw [hY _ (by omega), hn]
    unfold fX10_says_L16
    simp only []
    rw [hY 0 (by omega), h15, e1, if_pos (ib_mk (by omega) (by decide)), nI_clamp (by omega), hY 11 (by omega), hms, if_neg (nI_ge hi1 (by omega)), e2, if_pos (ib_mk (by omega) (by decide)), nI_clamp (by omega), hY 10 (by omega), hcode i hi1]
    rw [evR_s] at hev
    rcases hwf with ⟨w1, w2, w3, w4⟩ | ⟨w1, w3, w4⟩ | ⟨w1, w3, w4⟩
    · rw [if_pos w1] at hev
      by_cases hz : c i < 0
      · obtain ⟨j, hj, ej⟩ := w_nm w1 hz
        rw [if_pos hz, ej, nI_clamp (by omega)] at hev
        rw [trW_nm w1 hz, ej, if_neg (show ¬ (100000 : Int32) ≤ nI j from nI_ge (b := 100000) (by omega) (by decide)), if_neg (show ¬ (11 : Int32) ≤ nI j from nI_ge (b := 11) (by omega) (by decide))]
        unfold fX10_says_L66
        rw [if_neg (show ¬ (11 : Int32) ≤ nI j from nI_ge (b := 11) (by omega) (by decide)), if_pos (ib_mk hj (by decide)), if_pos (ib_mk (by omega) (by decide)), nI_clamp (by omega), nI_clamp (by omega), nI_1, nI_1, hY20]
        refine hk1 _ ⟨nm j :: st, _, rfl, ?_, ?_, by simp only [List.length_cons]; omega, by omega, by rw [hn2]; exact w4, by rw [hn2]; exact hev⟩
        · intro a ha; rw [m_row ha]; exact hY a ha
        · rw [m_own]; exact ⟨u_s _ _ _, stR_upd (Nat.le_refl _) hst⟩
      · obtain ⟨j, hj, ej, et⟩ := trW_num hz w2
        rw [if_neg hz] at hev
        rw [et, if_pos (show (100000 : Int32) ≤ nI (100000 + j) from nI_le (a := 100000) (by omega) (by omega))]
        unfold fX10_says_L66
        rw [if_pos (show (11 : Int32) ≤ nI (100000 + j) from nI_le (a := 11) (by omega) (by omega)), if_pos (ib_mk (by omega) (by decide)), nI_clamp (by omega), nI_1, nI_1, show (100000 : Int32) = nI 100000 from rfl, pk_sub (by omega), Nat.add_sub_cancel_left, ← ej]
        refine hk1 _ ⟨c i :: st, _, rfl, ?_, ?_, by simp only [List.length_cons]; omega, by omega, by rw [hn2]; exact w4, by rw [hn2]; exact hev⟩
        · intro a ha; rw [m_row ha]; exact hY a ha
        · rw [m_own]; exact ⟨u_s _ _ _, stR_upd (Nat.le_refl _) hst⟩
    · have hu := w_un w1
      rw [if_neg hu.2, if_pos w1] at hev
      cases st with
      | nil => exact absurd w3 (by decide)
      | cons a r2 =>
        simp only [List.length_cons] at *
        have s1 : Y 19 r2.length = a := hst.1
        have key : ∃ q, k (nI (r2.length + 1), nI i + 1, h_up Y 19 r2.length (unW (c i) a)) = some q ∧ (q.1 = evR c nm (hi - lo) lo [] ∧ ∀ a, a ≠ 19 → q.2 a = M a) := by
          rw [nI_1]
          refine hk1 _ ⟨unW (c i) a :: r2, _, rfl, ?_, ?_, by simp only [List.length_cons]; omega, by omega, by rw [hn2]; exact w4, by rw [hn2]; exact hev⟩
          · intro b hb; rw [m_row hb]; exact hY b hb
          · rw [m_own]; exact ⟨u_s _ _ _, stR_upd (Nat.le_refl _) hst.2⟩
        rcases w1 with e1 | e1
        · rw [e1, show trW (-13) = 13 from by decide, if_neg (by decide), if_pos (by decide), if_pos rfl]
          simp only [nI_sub1 (show 1 ≤ r2.length + 1 by omega), Nat.add_sub_cancel, nI_clamp (show r2.length < 2 ^ 31 by omega), s1]
          rw [if_pos (ib_mk (by omega) (by decide))]
          rw [e1] at key
          by_cases hz : a = 0
          · rw [if_pos hz, if_pos (ib_mk (by omega) (by decide))]
            rw [show unW (-13) a = 1 from by unfold unW; rw [if_neg (by decide), if_pos hz]] at key
            exact key
          · rw [if_neg hz, if_pos (ib_mk (by omega) (by decide))]
            rw [show unW (-13) a = 0 from by unfold unW; rw [if_neg (by decide), if_neg hz]] at key
            exact key
        · rw [e1, show trW (-19) = 19 from by decide, if_neg (by decide), if_pos (by decide), if_neg (by decide), if_pos rfl]
          simp only [nI_sub1 (show 1 ≤ r2.length + 1 by omega), Nat.add_sub_cancel, nI_clamp (show r2.length < 2 ^ 31 by omega), s1]
          rw [if_pos (ib_mk (by omega) (by decide)), if_pos (ib_mk (by omega) (by decide))]
          rw [e1] at key
          exact key
    · obtain ⟨o1, o2, o3, o4, o5⟩ := w_op w1
      obtain ⟨t1, t2, t3, t4⟩ := trW_op w1
      rw [if_neg o2, if_neg o5] at hev
      cases st with
      | nil => exact absurd w3 (by decide)
      | cons b r' =>
        cases r' with
        | nil => exact absurd w3 (by simp only [List.length_cons, List.length_nil]; omega)
        | cons a r2 =>
          simp only [List.length_cons] at *
          rw [if_neg t1, if_pos t2, if_neg t3, if_neg t4, nI_addm1 (by omega), nI_sub1 (by omega), if_pos (ib_mk (by omega) (by decide)), if_pos (ib_mk (by omega) (by decide)), if_pos (ib_mk (by omega) (by decide)), nI_clamp (by omega), nI_clamp (by omega), nI_1, m_two w1]
          refine hk1 _ ⟨biW (c i) a b :: r2, _, rfl, ?_, ?_, by simp only [List.length_cons]; omega, by omega, by rw [hn2]; exact w4, by rw [hn2]; exact hev⟩
          · intro q hq; rw [m_row hq]; exact hY q hq
          · rw [m_own]
            refine ⟨?_, stR_upd (Nat.le_refl _) hst.2.2⟩
            have e1 : r2.length + 1 + 1 - 1 - 1 = r2.length := by omega
            have e2 : r2.length + 1 + 1 - 1 = r2.length + 1 := by omega
            have s1 : Y 19 (r2.length + 1) = b := hst.1
            have s2 : Y 19 r2.length = a := hst.2.1
            rw [e1, e2, u_s, s1, s2]
def nmS (s l mo t c k : Int32) : Nat → Int32 := fun j => match j with | 0 => s | 1 => l | 2 => mo | 3 => t | 4 => c | _ => k
theorem bnd_m {p : Nat} (hp : p < 3) (v : Int32) (M : hMem) : (if nI p = 0 then some (fX10_within v 0 9 M, M) else if nI p = 2 then some (fX10_within v (-99) 99 M, M) else some (h_rem (h_rem v 3 + 3) 3, M)) = some (bndV p v, M) := by
  rcases (by omega : p = 0 ∨ p = 1 ∨ p = 2) with rfl | rfl | rfl
  · rfl
  · rfl
  · rfl
theorem m_asksOf {c e : Nat → Int32} {r p : Nat} {M : hMem} {s l mo t q k : Int32} (hr : r < 6) (hp : p < 3) (h15 : M 0 15 = nI r) (hg : gText c e (fun i => M 10 (200 * r + i)) (fun j => M 11 (4 * r + j))) (h6 : ∀ j, 6 ≤ j → True) : ∃ M', fX10_asksOf (nI p) s l mo t q k M = some (evX c e p (fun j => if j < 6 then nmS s l mo t q k j else M 20 j), M') ∧ ∀ a, a ≠ 19 → a ≠ 20 → M' a = M a := by
  obtain ⟨e0, e1, e2, g0, g1, g2, l0, l1, l2, w0, w1, w2, hcd, m0, m1, m2, m3⟩ := hg
  have hq : ∀ (lo hi : Nat), lo ≤ hi → hi ≤ e2 → wfR c (hi - lo) lo 0 → M 11 (4 * r + p + 1) = nI hi → M 11 (4 * r + p) = nI lo → ∃ M', fX10_asksOf (nI p) s l mo t q k M = some (bndV p (evR c (fun j => if j < 6 then nmS s l mo t q k j else M 20 j) (hi - lo) lo []), M') ∧ ∀ a, a ≠ 19 → a ≠ 20 → M' a = M a := by
    intro lo hi h1 h2 h3 h4 h5
    unfold fX10_asksOf fX10_says
    have r20 : ∀ a, a ≠ 20 → (h_up (h_up (h_up (h_up (h_up (h_up M 20 0 s) 20 1 l) 20 2 mo) 20 3 t) 20 4 q) 20 5 k) a = M a := fun a ha => by
      rw [m_row ha, m_row ha, m_row ha, m_row ha, m_row ha, m_row ha]
    have hn : (h_up (h_up (h_up (h_up (h_up (h_up M 20 0 s) 20 1 l) 20 2 mo) 20 3 t) 20 4 q) 20 5 k) 20 = (fun j => if j < 6 then nmS s l mo t q k j else M 20 j) := by
      funext j
      simp only [m_own, u_e]
      by_cases hj : j < 6
      · rw [if_pos hj]
        rcases (by omega : j = 0 ∨ j = 1 ∨ j = 2 ∨ j = 3 ∨ j = 4 ∨ j = 5) with rfl | rfl | rfl | rfl | rfl | rfl <;> rfl
      · rw [if_neg hj, if_neg (by omega), if_neg (by omega), if_neg (by omega), if_neg (by omega), if_neg (by omega), if_neg (by omega)]
    generalize (h_up (h_up (h_up (h_up (h_up (h_up M 20 0 s) 20 1 l) 20 2 mo) 20 3 t) 20 4 q) 20 5 k) = N at r20 hn ⊢
    have n15 : N 0 15 = nI r := by rw [r20 0 (by omega)]; exact h15
    rw [n15, show (4 : Int32) * nI r + nI p = nI (4 * r + p) from by rw [show (4 : Int32) = nI 4 from rfl, pk_mul, nI_add], if_pos (ib_mk (by omega) (by decide)), nI_clamp (by omega), r20 11 (by omega), h5]
    obtain ⟨z, z1, z2, z3⟩ := m_saysL (c := c) (nm := fun j => if j < 6 then nmS s l mo t q k j else M 20 j) (r := r) (p := p) (lo := lo) (hi := hi) (M := N) hr hp (by omega) n15 (by rw [r20 11 (by omega)]; exact h4) (fun i hi' => by rw [r20 10 (by omega)]; exact hcd i (by omega)) hn h1 h3
    rw [z1, Option.bind_some, z2]
    refine ⟨z.2, bnd_m hp _ _, fun a h19 h20 => ?_⟩
    rw [z3 a h19, r20 a h20]
  rcases (by omega : p = 0 ∨ p = 1 ∨ p = 2) with rfl | rfl | rfl
  · obtain ⟨M', q1, q2⟩ := hq 0 e0 (by omega) (by omega) w0 m1 m0
    refine ⟨M', ?_, q2⟩
    rw [q1]
    unfold evX
    simp only [g0, nI_clamp (show e0 < 2 ^ 31 by omega), if_true]
  · obtain ⟨M', q1, q2⟩ := hq e0 e1 (by omega) (by omega) w1 m2 m1
    refine ⟨M', ?_, q2⟩
    rw [q1]
    unfold evX
    simp only [g1, g0, nI_clamp (show e0 < 2 ^ 31 by omega), nI_clamp (show e1 < 2 ^ 31 by omega), if_neg (show ¬ 1 = 0 by omega), Nat.sub_self]
  · obtain ⟨M', q1, q2⟩ := hq e1 e2 (by omega) (by omega) w2 m3 m2
    refine ⟨M', ?_, q2⟩
    rw [q1]
    unfold evX
    simp only [g1, g2, nI_clamp (show e1 < 2 ^ 31 by omega), nI_clamp (show e2 < 2 ^ 31 by omega), if_neg (show ¬ 2 = 0 by omega), show 2 - 1 = 1 from rfl]
