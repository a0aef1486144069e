/-! FEED, TAKEN, ASKS, IMAGE, BACK -/
theorem RR.re {X M X' M' : hMem} (R : RR X M) (e4 : X' 0 4 = X 0 4) (e14 : M' 0 14 = M 0 14) (hn : ∀ T, gNow T X M → gKept T X M → gNow T X' M') (hk : ∀ T, gNow T X M → gKept T X M → gKept T X' M') (hf : X' 0 2 = M' 0 16) (h39 : M' 0 39 = 0) (tp : gTape X' M') (sh : gSheets X' M') (tx : ∀ T, T ≤ 6 → gTexts T X M → gTexts T X' M') (wd : M' 17 = M 17) : RR X' M' := by
  obtain ⟨T, t1, t2, t3, t4, n, k, f1, f2, tp', sh', tx', wd'⟩ := R
  exact ⟨T, t1, t2, e4.trans t3, e14.trans t4, hn T n k, hk T n k, hf, h39, tp, sh, tx T t2 tx', by rw [wd]; exact wd'⟩
theorem RR.flag {X M : hMem} (R : RR X M) : X 0 2 = M 0 16 := by
  obtain ⟨T, t1, t2, t3, t4, n, k, f1, f2, tp', sh', tx', wd'⟩ := R
  exact f1
theorem RR.tapeC {X M X' M' : hMem} (R : RR X M) (hx : ∀ a, kX a → a ≠ 31 → X' a = X a) (hm : ∀ a, kM a → a ≠ 9 → M' a = M a) (hm0 : ∀ j, kM0 j → j ≠ 11 → M' 0 j = M 0 j) (g : gTape X' M') : RR X' M' := by
  refine R.re ?_ ?_ (fun T n k => gNow_n n ?_ ?_ ?_ ?_ ?_) (fun T n k => gKept_c k ?_ ?_ ?_) ?_ ?_ g (gSheets_c R.shs ?_ ?_) (fun T h6 tx => gTexts_c tx ?_ ?_ ?_ h6) ?_
  · rw [hx 0 (by unfold kX; omega) (by omega)]
  · exact hm0 14 (by unfold kM0; omega) (by omega)
  · exact fun a h1 h2 => hx a (by unfold kX; omega) (by omega)
  · exact fun a h1 h2 => hm a (by unfold kM; omega) (by omega)
  · rw [hx 1 (by unfold kX; omega) (by omega), hm0 3 (by unfold kM0; omega) (by omega)]; exact n.2.2.2.2.1
  · rw [hx 1 (by unfold kX; omega) (by omega), hm0 8 (by unfold kM0; omega) (by omega)]; exact n.2.2.2.2.2.1
  · rw [hx 1 (by unfold kX; omega) (by omega), hm0 15 (by unfold kM0; omega) (by omega)]; exact n.2.2.2.2.2.2
  · exact fun a h1 h2 => hx a (by unfold kX; omega) (by omega)
  · exact hm 12 (by unfold kM; omega) (by omega)
  · exact fun j h1 h2 => hm0 j (by unfold kM0; omega) (by omega)
  · rw [hx 0 (by unfold kX; omega) (by omega), hm0 16 (by unfold kM0; omega) (by omega)]; exact R.flag
  · rw [hm0 39 (by unfold kM0; omega) (by omega)]; exact R.hold
  · exact fun a h1 => hx a (by unfold kX; omega) (by omega)
  · exact fun a h1 h2 => hm a (by unfold kM; omega) (by omega)
  · exact fun a h1 h2 h3 => hx a (by unfold kX; omega) (by omega)
  · exact hm 10 (by unfold kM; omega) (by omega)
  · exact hm 11 (by unfold kM; omega) (by omega)
  · exact hm 17 (by unfold kM; omega) (by omega)
theorem RR.putT {X M : hMem} (R : RR X M) {n : Nat} (hn : n < 160) (hx : X 30 0 = nI n) {v : Int32} (hv : h_ib v 256) : RR (h_up (h_up X 31 n v) 30 0 (nI (n + 1))) (h_up (h_up M 9 n v) 0 11 (nI (n + 1))) := by
  refine R.tapeC ?_ ?_ ?_ ?_
  · intro a h1 h2; unfold kX at h1; simp (disch := omega) only [m_row]
  · intro a h1 h2; unfold kM at h1; simp (disch := omega) only [m_row]
  · intro j h1 h2; simp (disch := omega) only [m_own, m_row, u_n]
  · refine ⟨?_, fun i hi => ?_⟩
    · simp (disch := omega) only [m_own, u_s]
      exact ⟨rfl, ib_mk (by omega) (by omega)⟩
    · simp (disch := omega) only [m_row, m_own, u_e]
      by_cases e : i = n
      · simp only [if_pos e]; exact ⟨trivial, hv⟩
      · simp only [if_neg e]; exact R.tape.2 i hi
theorem eq_feed {X M : hMem} (R : RR X M) (a b c d e f : Int32) : EqC (fX9_feed a b c d e f X) (fX10_feed a b c d e f M) := by
  obtain ⟨g1, g2⟩ := R.tape.1
  obtain ⟨n, hn, hn2, en⟩ := ib_ex g2
  unfold fX9_feed fX10_feed
  rw [show fX10_in a 1 5 M = if a < 1 then 0 else if 5 < a then 0 else 1 from rfl]
  simp only [xe_byte, me_byte, b01]
  by_cases c1 : a < 1
  · rw [if_pos c1, if_pos c1, if_pos rfl]; exact EqC.now R
  rw [if_neg c1, if_neg c1]
  by_cases c2 : 5 < a
  · rw [if_pos c2, if_pos c2, if_pos rfl]; exact EqC.now R
  rw [if_neg c2, if_neg c2, if_neg (show ¬ (1 : Int32) = 0 from by decide)]
  by_cases cb : h_ib b 256
  rotate_left
  · rw [if_neg cb, if_neg cb]; exact EqC.now R
  rw [if_pos cb, if_pos cb]
  by_cases cc : h_ib c 256
  rotate_left
  · rw [if_neg cc, if_neg cc]; exact EqC.now R
  rw [if_pos cc, if_pos cc]
  by_cases cd : h_ib d 256
  rotate_left
  · rw [if_neg cd, if_neg cd]; exact EqC.now R
  rw [if_pos cd, if_pos cd]
  by_cases ce : h_ib e 256
  rotate_left
  · rw [if_neg ce, if_neg ce]; exact EqC.now R
  rw [if_pos ce, if_pos ce]
  by_cases cf : h_ib f 256
  rotate_left
  · rw [if_neg cf, if_neg cf]; exact EqC.now R
  rw [if_pos cf, if_pos cf, g1]
  by_cases cs : M 0 11 + a ≤ 160
  rotate_left
  · rw [if_neg cs, if_neg cs]; exact EqC.now R
  rw [if_pos cs, if_pos cs]
  obtain ⟨k, hk, rfl⟩ : ∃ k, k ≤ 5 ∧ a = nI k := by
    have a1 : ¬ a.toInt < 1 := fun h => c1 (by rw [Int32.lt_iff_toInt_lt]; exact h)
    have a2 : ¬ 5 < a.toInt := fun h => c2 (by rw [Int32.lt_iff_toInt_lt]; exact h)
    refine ⟨a.toInt.toNat, by omega, ?_⟩
    apply Int32.toInt_inj.mp
    rw [nI_toInt (by omega)]; omega
  rw [en, nI_add] at cs
  have hsum : n + k ≤ 160 := by
    rcases Nat.lt_or_ge 160 (n + k) with h | h
    · exact absurd cs (nI_ge (b := n + k) (a := 160) h (by omega))
    · exact h
  refine EqC.of (lp20 (body := fX9_feed_L72 (nI k) b c d e f) (body' := fX10_feed_L68 (nI k) b c d e f) k (fun i s s' => ∃ X' M', s = (nI i, X') ∧ s' = (nI i, M') ∧ RR X' M' ∧ X' 30 0 = nI (n + i)) EqQ (0, X) (0, M) ⟨X, M, rfl, rfl, R, g1.trans en⟩ (by omega) ?_ ?_)
  · rintro q q' s s' ⟨X', M', rfl, rfl, R', -⟩
    unfold fX9_feed_L72 fX10_feed_L68
    dsimp only
    rw [if_pos (nI_le (Nat.le_refl _) (by omega)), if_pos (nI_le (Nat.le_refl _) (by omega))]
    exact ⟨_, _, rfl, rfl, R'.tape.1.1, R'⟩
  · rintro q q' i s s' hi ⟨X', M', rfl, rfl, R', hx'⟩ hq
    unfold fX9_feed_L72 fX10_feed_L68
    dsimp only
    rw [if_neg (nI_ge hi (by omega)), if_neg (nI_ge hi (by omega))]
    have hm' : M' 0 11 = nI (n + i) := R'.tape.1.1.symm.trans hx'
    have key : ∀ v, h_ib v 256 → ∃ r r', ((fX5_put v X').bind fun q125 => q (nI i + 1, q125)) = some r ∧ fX10_feed_L125 q' (nI k) b c d e f (nI i) v (M' 0 11) M' = some r' ∧ EqQ r r' := by
      intro v hv
      unfold fX5_put fX10_feed_L125
      rw [hx', hm', if_neg (show ¬ (160 : Int32) ≤ nI (n + i) from nI_ge (b := 160) (by omega) (by decide)), if_pos (ib_mk (by omega) (by decide)), if_pos (ib_mk (by omega) (by decide)), Option.bind_some]
      simp (disch := omega) only [nI_clamp, m_row, hx', hm', nI_1]
      exact hq _ _ ⟨_, _, rfl, rfl, R'.putT (by omega) hx' hv, by simp only [m_own, u_s]; rw [Nat.add_assoc]⟩
    by_cases c0 : nI i = 0
    · rw [if_pos c0, if_pos c0]; exact key b cb
    rw [if_neg c0, if_neg c0]
    by_cases c0 : nI i = 1
    · rw [if_pos c0, if_pos c0]; exact key c cc
    rw [if_neg c0, if_neg c0]
    by_cases c0 : nI i = 2
    · rw [if_pos c0, if_pos c0]; exact key d cd
    rw [if_neg c0, if_neg c0]
    by_cases c0 : nI i = 3
    · rw [if_pos c0, if_pos c0]; exact key e ce
    rw [if_neg c0, if_neg c0]
    exact key f cf
theorem one_under {k p : Nat} (hk : k < 6) (hp : p < 6) (X M : hMem) : fX3_isOne (nI k) (nI p) X = some (fX10_isUnder (nI k) (nI p) M) := by
  have h := of_decide_eq_true (dc2 (N := 6) (K := 6) (p := fun k p => decide (fX3_isOne (nI k) (nI p) hM0 = some (fX10_isUnder (nI k) (nI p) hM0))) (by decide +kernel) hk hp)
  exact h
theorem eq_taken {X M : hMem} (R : RR X M) (a b : Int32) : EqP (fX9_taken a b X) (fX10_taken a b M) := by
  obtain ⟨H, hH, hx, hm⟩ := R.hats
  unfold fX9_taken fX10_taken
  rw [q_le6, q_lt36, show fX10_in b 0 6 M = if h_ib b 7 then 1 else 0 from me_in b 6 M (by decide), show fX10_in a 0 35 M = if h_ib a 36 then 1 else 0 from me_in a 35 M (by decide), b01, b01]
  by_cases hb : h_ib b 7
  rotate_left
  · rw [if_neg hb, if_neg hb]; exact EqP.now _
  rw [if_pos hb, if_pos hb]
  by_cases ha : h_ib a 36
  rotate_left
  · rw [if_neg ha, if_neg ha]; exact EqP.now _
  rw [if_pos ha, if_pos ha]
  obtain ⟨p, hp, hp2, rfl⟩ := ib_ex hb
  obtain ⟨j, hj, hj2, rfl⟩ := ib_ex ha
  by_cases h32 : 32 ≤ j
  · rw [if_pos (show (32 : Int32) ≤ nI j from nI_le (a := 32) h32 hj2), if_pos (show (32 : Int32) ≤ nI j from nI_le (a := 32) h32 hj2), show nI j - 32 = nI (j - 32) from pk_sub (b := 32) h32, xe_hat hx (by omega), b01, hm]
    by_cases hh : j - 32 < H
    rotate_left
    · rw [if_neg (fun h => hh ((ib_iff (by omega)).mp h)), if_neg (nI_nlt (by omega) (by omega))]; exact EqP.now _
    rw [if_pos (ib_mk hh (by omega)), if_pos (nI_lt hh (by omega))]
    by_cases h6 : p = 6
    · subst h6
      rw [if_pos (show nI 6 = (6 : Int32) from rfl), if_pos (show (6 : Int32) ≤ nI 6 from by decide)]; exact EqP.now _
    obtain ⟨k0, -, -, i0, -⟩ := R.hatE (i := j - 32) (by omega)
    obtain ⟨k, hk, hk2, ek⟩ := ib_ex i0
    rw [if_neg (show ¬ nI p = (6 : Int32) from nI_neq 6 (by omega) (by omega) h6), if_neg (show ¬ (6 : Int32) ≤ nI p from nI_ge (b := 6) (by omega) (by decide)), if_pos (ib_mk (by omega) (by omega)), if_pos (ib_mk (by omega) (by omega)), nI_clamp (by omega), k0, ek, one_under hk (by omega) X M, Option.bind_some]
    by_cases hu : fX10_isUnder (nI k) (nI p) M = 0
    · rw [if_pos hu]; exact EqP.now _
    · rw [if_neg hu]; exact EqP.now _
  · rw [if_neg (show ¬ (32 : Int32) ≤ nI j from nI_ge (b := 32) (by omega) (by decide)), if_neg (show ¬ (32 : Int32) ≤ nI j from nI_ge (b := 32) (by omega) (by decide)), bit_u _ (by omega), b01, b_or, R.setsE (k := 1) (by omega), R.setsE (k := 2) (by omega), me_has1 (by omega), Option.bind_some, b01, me_has2 (by omega), Option.bind_some, b01]
    unfold fX10_taken_L55
    rw [me_has1 (by omega), Option.bind_some, b01, bit_u _ (by omega)]
    by_cases h6 : nI p = 6
    · simp only [if_pos h6]
      cases h1 : bt (M 1 1) j <;> cases h2 : bt (M 1 2) j <;> exact EqP.now _
    · simp only [if_neg h6]
      cases h1 : bt (M 1 1) j <;> cases h2 : bt (M 1 2) j <;> exact EqP.now _
