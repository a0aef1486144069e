/-! TEXT: the other one's next token -/
theorem spn_all {c : Int32 → Bool} {b : Nat → Int32} {n : Nat} : ∀ (f i j : Nat), i ≤ j → j < spn c b n f i → c (bA b n j) = true
  | 0, i, j, h1, h2 => absurd h2 (by show ¬ j < i; omega)
  | f + 1, i, j, h1, h2 => by
    rw [spn_s] at h2
    by_cases h : c (bA b n i) = true
    · rw [if_pos h] at h2
      by_cases e : j = i
      · subst e; exact h
      · exact spn_all f (i + 1) j (by omega) h2
    · rw [if_neg h] at h2; omega
theorem spn_end {c : Int32 → Bool} (hc : c (-1) = false) {b : Nat → Int32} {n : Nat} : ∀ (f i : Nat), n - i ≤ f → c (bA b n (spn c b n f i)) = false
  | 0, i, h => by
    show c (bA b n i) = false
    rw [show bA b n i = -1 from if_neg (by omega)]; exact hc
  | f + 1, i, h => by
    rw [spn_s]
    by_cases h1 : c (bA b n i) = true
    · rw [if_pos h1]; exact spn_end hc f (i + 1) (by omega)
    · rw [if_neg h1]; exact eq_false_of_ne_true h1
def mK (k : Int32) : Int32 := if k = 0 then 0 else if k = 1 then -1 else if k = 2 then 1 else if k = 3 then 2 else if k ≤ 6 then 3 else if k ≤ 9 then k - 3 else k
def pTok (b : Nat → Int32) (n q : Nat) (S r : hMem) : Prop := (∀ a, a ≠ 0 → r a = S a) ∧ (∀ j, j < 25 ∨ 28 < j → r 0 j = S 0 j) ∧ r 0 26 = nI q ∧ r 0 25 = nI (tEnd b n q) ∧ r 0 27 = mK (tK b n q) ∧ ((tK b n q = 2 ∨ tK b n q = 3) → r 0 28 = tV b n q) ∧ ∀ g, g < 3 → tK b n q = nI (4 + g) → r 0 28 = nI g
def kW (w : Nat) : Int32 := if 1 ≤ w ∧ w ≤ 6 then 3 else kyV w
theorem kW_ok : ∀ w, w < 13 → ¬ kW w = 2 ∧ (if 3 ≤ nI (mIdx w) then (if 9 ≤ nI (mIdx w) then (if nI (mIdx w) = 12 then -1 else (4 + nI (mIdx w)) - 9) else 2) else 3) = mK (kW w) ∧ (kW w = 3 → (if 3 ≤ nI (mIdx w) then nI (mIdx w) - 3 else nI (mIdx w)) = nI (w - 1)) ∧ ∀ g, g < 3 → kW w = nI (4 + g) → (if 3 ≤ nI (mIdx w) then nI (mIdx w) - 3 else nI (mIdx w)) = nI g := by decide +kernel
theorem m_sign {b : Nat → Int32} {n q : Nat} {S S1 : hMem} {v : Int32} (hq : q < n) (hn : n ≤ 160) (f1 : ∀ a, a ≠ 0 → S1 a = S a) (f2 : ∀ j, j < 25 ∨ 28 < j → S1 0 j = S 0 j) (f26 : S1 0 26 = nI q) (f25 : S1 0 25 = nI q) (ht : tEnd b n q = q + 1) (hK : mK (tK b n q) = v) (h23 : ¬ (tK b n q = 2 ∨ tK b n q = 3)) (h456 : ∀ g, g < 3 → ¬ tK b n q = nI (4 + g)) : pTok b n q S (h_up (h_up S1 0 27 v) 0 25 (((h_up S1 0 27 v) 0 25) + 1)) := by
  refine ⟨fun a ha => ?_, fun j hj => ?_, ?_, ?_, ?_, fun h => absurd h h23, fun g hg h => absurd h (h456 g hg)⟩
  · rw [m_row ha, m_row ha]; exact f1 a ha
  · simp (disch := omega) only [m_own, u_n]; exact f2 j hj
  · simp (disch := omega) only [m_own, u_n]; exact f26
  · simp (disch := omega) only [m_own, u_n, u_s]; rw [f25, nI_1, ht]
  · simp (disch := omega) only [m_own, u_n, u_s]; exact hK.symm
theorem m_52 {b : Nat → Int32} {n q : Nat} {S : hMem} (h : TXm b n S) (hb : ∀ i, i < 160 → h_ib (b i) 256) (hq : q ≤ n) (h25 : S 0 25 = nI q) : ∃ r, fX10_next_L52 S = some r ∧ pTok b n q S r := by
  obtain ⟨hn, h1, h2, h3⟩ := h
  obtain ⟨t1, t2, t3⟩ := tEnd_le (b := b) hq
  unfold fX10_next_L52
  obtain ⟨S1, hS⟩ : ∃ S1 : hMem, S1 = h_up (h_up (h_up S 0 26 (S 0 25)) 0 27 0) 0 28 0 := ⟨_, rfl⟩
  rw [← hS]
  have f1 : ∀ a, a ≠ 0 → S1 a = S a := fun a ha => by rw [hS]; simp (disch := omega) only [m_row]
  have f2 : ∀ j, j < 25 ∨ 28 < j → S1 0 j = S 0 j := fun j hj => by rw [hS]; simp (disch := omega) only [m_own, u_n]
  have f25 : S1 0 25 = nI q := by rw [hS]; simp (disch := omega) only [m_own, u_n]; exact h25
  have f26 : S1 0 26 = nI q := by rw [hS]; simp (disch := omega) only [m_own, u_n, u_s]; exact h25
  have f27 : S1 0 27 = 0 := by rw [hS]; simp (disch := omega) only [m_own, u_n, u_s]
  have f28 : S1 0 28 = 0 := by rw [hS]; simp (disch := omega) only [m_own, u_s]
  have f11 : S1 0 11 = nI n := by rw [f2 11 (by omega)]; exact h1
  clear hS
  rw [f25, f11]
  by_cases hqn : q = n
  · rw [if_pos (by rw [hqn])]
    have hk : tK b n q = 0 := if_pos (by omega)
    refine ⟨S1, rfl, f1, f2, f26, by rw [f25, show tEnd b n q = q from by omega], by rw [f27, hk]; rfl, fun hh => ?_, fun g hg hh => ?_⟩
    · rw [hk] at hh; exact absurd hh (by decide)
    · rw [hk] at hh; exact absurd hh (show ¬ nI 0 = nI (4 + g) from nI_neq _ (by omega) (by omega) (by omega))
  · have hlt : q < n := by omega
    have e9 : ∀ i, i < 160 → S1 9 i = b i := fun i hi => by rw [f1 9 (by omega)]; exact h2 i hi
    have eb : bA b n q = b q := if_pos hlt
    rw [if_neg (nI_neq _ (by omega) (by omega) hqn), if_pos (ib_mk (by omega) (by omega)), nI_clamp (by omega), e9 q (by omega), m_ltr, b01, m_dig, b01]
    by_cases cl : ltr (b q) = true
    · rw [if_pos cl]
      have cd : ¬ dig (b q) = true := fun hd => by
        unfold dig at hd
        unfold ltr at cl
        rw [Bool.and_eq_true_iff, Bool.not_eq_true', Bool.not_eq_true', decide_eq_false_iff_not, decide_eq_false_iff_not] at hd cl
        exact hd.2 (by
          have a1 := cl.1
          rw [Int32.lt_iff_toInt_lt] at a1 ⊢
          have e1 : (97 : Int32).toInt = 97 := by decide
          have e2 : (57 : Int32).toInt = 57 := by decide
          omega)
      have hte : tEnd b n q = spn ltr b n 160 (q + 1) := by unfold tEnd; rw [eb, if_pos cl]
      have hall : ∀ j, q ≤ j → j < tEnd b n q → ltr (bA b n j) = true := fun j j1 j2 => by
        by_cases e : j = q
        · subst e; rw [eb]; exact cl
        · rw [hte] at j2; exact spn_all 160 (q + 1) j (by omega) j2
      have hend : ltr (bA b n (tEnd b n q)) = false := by rw [hte]; exact spn_end (by decide) 160 (q + 1) (by omega)
      have hw := wrd_lt b n q (tEnd b n q)
      have hk : tK b n q = kW (wrd b n q (tEnd b n q)) := by unfold tK kW tW; rw [if_neg (by omega), if_neg cd, if_pos cl]
      have hnb : ∀ j, q ≤ j → j < tEnd b n q → b j ≠ 32 := fun j j1 j2 e => by
        have := hall j j1 j2
        rw [show bA b n j = b j from if_pos (by omega), e] at this
        exact absurd this (by decide)
      refine lp_up (body := fX10_next_L103) (tEnd b n q) (fun p s => s 0 25 = nI p ∧ (∀ a, a ≠ 0 → s a = S1 a) ∧ (∀ j, j ≠ 25 → s 0 j = S1 0 j) ∧ q ≤ p) _ ?_ ?_ h_FU q S1 t1 ⟨f25, fun _ _ => rfl, fun _ _ => rfl, Nat.le_refl _⟩ (by unfold h_FU; omega)
      · rintro k s ⟨g1, g2, g3, -⟩
        have l146 : ∃ r, fX10_next_L146 s = some r ∧ pTok b n q S r := by
          have hT : TXm b n s := ⟨hn, by rw [g3 11 (by omega)]; exact f11, fun i hi => by rw [g2 9 (by omega)]; exact e9 i hi, fun i hi => by rw [g2 17 (by omega), f1 17 (by omega)]; exact h3 i hi⟩
          unfold fX10_next_L146
          rw [g3 26 (by omega), f26, g1, m_word hT (t3 hlt) t2 hnb, Option.bind_some]
          have hL : ∀ v t, fX10_next_L195 v t s = some (h_up (h_up s 0 27 t) 0 28 (if 3 ≤ v then v - 3 else v)) := fun v t => by
            unfold fX10_next_L195
            by_cases c : 3 ≤ v
            · rw [if_pos c, if_pos c]
            · rw [if_neg c, if_neg c]
          simp only [hL]
          obtain ⟨k1, k2, k3, k4⟩ := kW_ok _ hw
          have htV : tK b n q = 3 → tV b n q = nI (wrd b n q (tEnd b n q) - 1) := fun e => by unfold tV tW; rw [if_pos e]
          generalize wrd b n q (tEnd b n q) = w at *
          have fin : ∀ t, t = mK (kW w) → pTok b n q S (h_up (h_up s 0 27 t) 0 28 (if 3 ≤ nI (mIdx w) then nI (mIdx w) - 3 else nI (mIdx w))) := fun t ht => by
            refine ⟨fun a ha => ?_, fun j hj => ?_, ?_, ?_, ?_, fun hh => ?_, fun g hg hh => ?_⟩
            · rw [m_row ha, m_row ha, g2 a ha]; exact f1 a ha
            · simp (disch := omega) only [m_own, u_n]; rw [g3 j (by omega)]; exact f2 j hj
            · simp (disch := omega) only [m_own, u_n]; rw [g3 26 (by omega)]; exact f26
            · simp (disch := omega) only [m_own, u_n]; exact g1
            · simp (disch := omega) only [m_own, u_n, u_s]; rw [ht, hk]
            · simp (disch := omega) only [m_own, u_s]
              rw [hk] at hh
              rcases hh with hh | hh
              · exact absurd hh k1
              · rw [htV (by rw [hk]; exact hh)]; exact k3 hh
            · simp (disch := omega) only [m_own, u_s]
              rw [hk] at hh
              exact k4 g hg hh
          have hfin : ∃ t, (if 3 ≤ nI (mIdx w) then (if 9 ≤ nI (mIdx w) then (if nI (mIdx w) = 12 then some (h_up (h_up s 0 27 (-1)) 0 28 (if 3 ≤ nI (mIdx w) then nI (mIdx w) - 3 else nI (mIdx w))) else some (h_up (h_up s 0 27 ((4 + nI (mIdx w)) - 9)) 0 28 (if 3 ≤ nI (mIdx w) then nI (mIdx w) - 3 else nI (mIdx w)))) else some (h_up (h_up s 0 27 2) 0 28 (if 3 ≤ nI (mIdx w) then nI (mIdx w) - 3 else nI (mIdx w)))) else some (h_up (h_up s 0 27 3) 0 28 (if 3 ≤ nI (mIdx w) then nI (mIdx w) - 3 else nI (mIdx w)))) = some (h_up (h_up s 0 27 t) 0 28 (if 3 ≤ nI (mIdx w) then nI (mIdx w) - 3 else nI (mIdx w))) ∧ t = (if 3 ≤ nI (mIdx w) then (if 9 ≤ nI (mIdx w) then (if nI (mIdx w) = 12 then -1 else (4 + nI (mIdx w)) - 9) else 2) else 3) := by
            by_cases d1 : 3 ≤ nI (mIdx w)
            · by_cases d2 : 9 ≤ nI (mIdx w)
              · by_cases d3 : nI (mIdx w) = 12
                · simp only [if_pos d1, if_pos d2, if_pos d3]; exact ⟨_, rfl, rfl⟩
                · simp only [if_pos d1, if_pos d2, if_neg d3]; exact ⟨_, rfl, rfl⟩
              · simp only [if_pos d1, if_neg d2]; exact ⟨_, rfl, rfl⟩
            · simp only [if_neg d1]; exact ⟨_, rfl, rfl⟩
          obtain ⟨t, e1, e2⟩ := hfin
          exact ⟨_, e1, fin t (by rw [e2]; exact k2)⟩
        unfold fX10_next_L103
        rw [g3 11 (by omega), f11, g1]
        by_cases c : n ≤ tEnd b n q
        · rw [if_pos (nI_le c (by omega))]; exact l146
        · rw [if_neg (nI_ge (by omega) (by omega)), if_pos (ib_mk (by omega) (by omega)), nI_clamp (by omega), g2 9 (by omega), e9 _ (by omega), m_ltr, b01]
          rw [show bA b n (tEnd b n q) = b (tEnd b n q) from if_pos (by omega)] at hend
          rw [if_neg (by rw [hend]; decide)]
          exact l146
      · rintro k p s hp ⟨g1, g2, g3, g4⟩ hk2
        unfold fX10_next_L103
        have hd := hall p g4 hp
        rw [show bA b n p = b p from if_pos (by omega)] at hd
        rw [g3 11 (by omega), f11, g1, if_neg (nI_ge (by omega) (by omega)), if_pos (ib_mk (by omega) (by omega)), nI_clamp (by omega), g2 9 (by omega), e9 _ (by omega), m_ltr, b01, if_pos hd, nI_1]
        exact hk2 _ ⟨by rw [m_own, u_s], fun a ha => by rw [m_row ha]; exact g2 a ha, fun j hj => by rw [m_own, u_n hj]; exact g3 j hj, by omega⟩
    · rw [if_neg cl]
      by_cases cd : dig (b q) = true
      · rw [if_pos cd]
        have hte : tEnd b n q = spn dig b n 160 (q + 1) := by unfold tEnd; rw [eb, if_neg cl, if_pos cd]
        have hall : ∀ j, q ≤ j → j < tEnd b n q → dig (bA b n j) = true := fun j j1 j2 => by
          by_cases e : j = q
          · subst e; rw [eb]; exact cd
          · rw [hte] at j2; exact spn_all 160 (q + 1) j (by omega) j2
        have hend : dig (bA b n (tEnd b n q)) = false := by rw [hte]; exact spn_end (by decide) 160 (q + 1) (by omega)
        have hk : tK b n q = if tEnd b n q - q ≤ 4 then 2 else 1 := by unfold tK; rw [if_neg (by omega), if_pos cd]
        refine lp_u0 (body := fX10_next_L230) (tEnd b n q - q) (fun k z => ∃ Y : hMem, z = (nI k, Y) ∧ Y 0 25 = nI (q + k) ∧ (∀ a, a ≠ 0 → Y a = S1 a) ∧ (∀ j, j ≠ 25 → j ≠ 28 → Y 0 j = S1 0 j) ∧ (k ≤ 4 → Y 0 28 = decS b q k)) _ (0, S1) ⟨S1, rfl, f25, fun _ _ => rfl, fun _ _ _ => rfl, fun _ => f28⟩ (by omega) ?_ ?_
        · rintro k z ⟨Y, rfl, g1, g2, g3, g4⟩
          have l309 : ∃ r, fX10_next_L309 (nI (tEnd b n q - q)) Y = some r ∧ pTok b n q S r := by
            have fin : ∀ t, t = mK (tK b n q) → pTok b n q S (h_up Y 0 27 t) := fun t ht => by
              refine ⟨fun a ha => ?_, fun j hj => ?_, ?_, ?_, ?_, fun hh => ?_, fun g hg hh => ?_⟩
              · rw [m_row ha, g2 a ha]; exact f1 a ha
              · rw [m_own, u_n (by omega), g3 j (by omega) (by omega)]; exact f2 j hj
              · rw [m_own, u_n (by omega), g3 26 (by omega) (by omega)]; exact f26
              · rw [m_own, u_n (by omega), g1, show q + (tEnd b n q - q) = tEnd b n q from by omega]
              · rw [m_own, u_s]; exact ht
              · rw [m_own, u_n (by omega)]
                by_cases c : tEnd b n q - q ≤ 4
                · have e2 : tK b n q = 2 := by rw [hk, if_pos c]
                  rw [g4 c]
                  unfold tV
                  rw [e2, if_neg (by decide), if_pos rfl]
                · rw [hk, if_neg c] at hh
                  exact absurd hh (by decide)
              · rw [hk] at hh
                by_cases c : tEnd b n q - q ≤ 4
                · rw [if_pos c] at hh; exact absurd hh (show ¬ nI 2 = nI (4 + g) from nI_neq _ (by omega) (by omega) (by omega))
                · rw [if_neg c] at hh; exact absurd hh (show ¬ nI 1 = nI (4 + g) from nI_neq _ (by omega) (by omega) (by omega))
            unfold fX10_next_L309
            by_cases c : tEnd b n q - q ≤ 4
            · rw [if_pos (show nI (tEnd b n q - q) ≤ (4 : Int32) from nI_le (b := 4) c (by decide))]
              exact ⟨_, rfl, fin 1 (by rw [hk, if_pos c]; rfl)⟩
            · rw [if_neg (show ¬ nI (tEnd b n q - q) ≤ (4 : Int32) from nI_ge (a := 4) (by omega) (by omega))]
              exact ⟨_, rfl, fin (-1) (by rw [hk, if_neg c]; rfl)⟩
          unfold fX10_next_L230
          dsimp only
          simp only [show Y 0 11 = nI n from by rw [g3 11 (by omega) (by omega), f11], g1, show q + (tEnd b n q - q) = tEnd b n q from by omega, nI_clamp (show tEnd b n q < 2 ^ 31 by omega)]
          by_cases c : n ≤ tEnd b n q
          · rw [if_pos (nI_le c (by omega))]; exact l309
          · simp only [show Y 9 (tEnd b n q) = b (tEnd b n q) from by rw [g2 9 (by omega), e9 _ (by omega)], m_dig, b01]
            rw [if_neg (nI_ge (by omega) (by omega)), if_pos (ib_mk (by omega) (by omega))]
            rw [show bA b n (tEnd b n q) = b (tEnd b n q) from if_pos (by omega)] at hend
            rw [if_neg (by rw [hend]; decide)]
            exact l309
        · rintro k j z hj ⟨Y, rfl, g1, g2, g3, g4⟩ hk2
          have hd := hall (q + j) (by omega) (by omega)
          rw [show bA b n (q + j) = b (q + j) from if_pos (by omega)] at hd
          unfold fX10_next_L230 fX10_next_L290
          dsimp only
          have hib : h_ib (nI (q + j)) 160 := ib_mk (by omega) (by omega)
          simp only [show Y 0 11 = nI n from by rw [g3 11 (by omega) (by omega), f11], g1, nI_clamp (show q + j < 2 ^ 31 by omega), show Y 9 (q + j) = b (q + j) from by rw [g2 9 (by omega), e9 _ (by omega)], m_dig, b01, if_pos hd, if_pos hib, nI_1]
          rw [if_neg (nI_ge (by omega) (by omega))]
          have fin : ∀ t, (j + 1 ≤ 4 → t = decS b q (j + 1)) → ∃ r, k (nI (j + 1), h_up (h_up Y 0 28 t) 0 25 (((h_up Y 0 28 t) 0 25) + 1)) = some r ∧ pTok b n q S r := fun t ht => by
            refine hk2 _ ⟨_, rfl, ?_, fun a ha => ?_, fun i i1 i2 => ?_, fun hh => ?_⟩
            · rw [m_own, u_s, m_own, u_n (by omega), g1, nI_1]; rfl
            · rw [m_row ha, m_row ha]; exact g2 a ha
            · rw [m_own, u_n i1, m_own, u_n i2]; exact g3 i i1 i2
            · rw [m_own, u_n (by omega), m_own, u_s]; exact ht hh
          by_cases c : 4 ≤ j
          · rw [if_pos (show (4 : Int32) ≤ nI j from nI_le (a := 4) c (by omega))]
            exact fin 0 (fun h => absurd h (by omega))
          · rw [if_neg (show ¬ (4 : Int32) ≤ nI j from nI_ge (b := 4) (by omega) (by decide))]
            exact fin _ (fun _ => by rw [g4 (by omega), decS_s])
      · rw [if_neg cd]
        have hte : tEnd b n q = q + 1 := by unfold tEnd; rw [eb, if_neg cl, if_neg cd]; omega
        have hk : tK b n q = if sgn (b q) = true then b q else 1 := by unfold tK; rw [if_neg (by omega), if_neg cd, if_neg cl]
        unfold fX10_next_L374 fX10_next_L379
        have fin : ∀ s : Int32, b q = s → sgn s = true → mK s = s → ¬ (s = 2 ∨ s = 3) → (∀ g, g < 3 → ¬ s = nI (4 + g)) → ∃ r, some (h_up (h_up S1 0 27 (b q)) 0 25 (((h_up S1 0 27 (b q)) 0 25) + 1)) = some r ∧ pTok b n q S r := fun s e a1 a2 a3 a4 => by
          have hks : tK b n q = s := by rw [hk, e, if_pos a1]
          exact ⟨_, rfl, m_sign hlt hn f1 f2 f26 f25 hte (by rw [hks, a2, e]) (by rw [hks]; exact a3) (fun g hg => by rw [hks]; exact a4 g hg)⟩
        by_cases c1 : b q = 40
        · rw [if_pos c1]; exact fin 40 c1 (by decide) (by decide) (by decide) (by decide)
        rw [if_neg c1]
        by_cases c2 : b q = 41
        · rw [if_pos c2]; exact fin 41 c2 (by decide) (by decide) (by decide) (by decide)
        rw [if_neg c2]
        by_cases c3 : b q = 59
        · rw [if_pos c3]; exact fin 59 c3 (by decide) (by decide) (by decide) (by decide)
        rw [if_neg c3]
        by_cases c4 : b q = 43
        · rw [if_pos c4]; exact fin 43 c4 (by decide) (by decide) (by decide) (by decide)
        rw [if_neg c4]
        by_cases c5 : b q = 45
        · rw [if_pos c5]; exact fin 45 c5 (by decide) (by decide) (by decide) (by decide)
        rw [if_neg c5]
        by_cases c6 : b q = 42
        · rw [if_pos c6]; exact fin 42 c6 (by decide) (by decide) (by decide) (by decide)
        rw [if_neg c6]
        by_cases c7 : b q = 60
        · rw [if_pos c7]; exact fin 60 c7 (by decide) (by decide) (by decide) (by decide)
        rw [if_neg c7]
        by_cases c8 : b q = 61
        · rw [if_pos c8]; exact fin 61 c8 (by decide) (by decide) (by decide) (by decide)
        rw [if_neg c8]
        have hks : tK b n q = 1 := by
          rw [hk, if_neg]
          unfold sgn fX5_isSign
          rw [if_neg c1, if_neg c2, if_neg c3, if_neg c4, if_neg c5, if_neg c6, if_neg c7, if_neg c8]
          decide
        exact ⟨_, rfl, m_sign hlt hn f1 f2 f26 f25 hte (by rw [hks]; decide) (by rw [hks]; decide) (by rw [hks]; decide)⟩
/-- the other one's next token, from place p -/
theorem m_next {b : Nat → Int32} {n p : Nat} {M : hMem} (h : TXm b n M) (hb : ∀ i, i < 160 → h_ib (b i) 256) (hp : p ≤ n) (h25 : M 0 25 = nI p) : ∃ r, fX10_next M = some r ∧ pTok b n (spn blk b n 160 p) M r := by
  obtain ⟨hn, h1, h2, h3⟩ := h
  unfold fX10_next
  have hle := spn_le (c := blk) (by decide) (b := b) (n := n) 160 p hp
  have hall : ∀ j, p ≤ j → j < spn blk b n 160 p → blk (bA b n j) = true := fun j j1 j2 => spn_all 160 p j j1 j2
  have hend : blk (bA b n (spn blk b n 160 p)) = false := spn_end (by decide) 160 p (by omega)
  generalize spn blk b n 160 p = q at hle hall hend ⊢
  refine lp_up (body := fX10_next_L0) q (fun i s => s 0 25 = nI i ∧ (∀ a, a ≠ 0 → s a = M a) ∧ (∀ j, j ≠ 25 → s 0 j = M 0 j) ∧ p ≤ i) _ ?_ ?_ h_FU p M hle.1 ⟨h25, fun _ _ => rfl, fun _ _ => rfl, Nat.le_refl _⟩ (by unfold h_FU; omega)
  · rintro k s ⟨g1, g2, g3, -⟩
    have l52 : ∃ r, fX10_next_L52 s = some r ∧ pTok b n q M r := by
      obtain ⟨r, r1, r2, r3, r4⟩ := m_52 (S := s) ⟨hn, by rw [g3 11 (by omega)]; exact h1, fun i hi => by rw [g2 9 (by omega)]; exact h2 i hi, fun i hi => by rw [g2 17 (by omega)]; exact h3 i hi⟩ hb hle.2 g1
      exact ⟨r, r1, fun a ha => (r2 a ha).trans (g2 a ha), fun j hj => (r3 j hj).trans (g3 j (by omega)), r4⟩
    unfold fX10_next_L0
    simp only [show s 0 11 = nI n from by rw [g3 11 (by omega), h1], g1, nI_clamp (show q < 2 ^ 31 by omega)]
    by_cases c : n ≤ q
    · rw [if_pos (nI_le c (by omega))]; exact l52
    · simp only [show s 9 q = b q from by rw [g2 9 (by omega), h2 _ (by omega)]]
      rw [if_neg (nI_ge (by omega) (by omega)), if_pos (ib_mk (by omega) (by omega))]
      rw [show bA b n q = b q from if_pos (by omega)] at hend
      unfold blk at hend
      rw [Bool.or_eq_false_iff, decide_eq_false_iff_not, decide_eq_false_iff_not] at hend
      rw [if_neg hend.1, if_pos (ib_mk (by omega) (by omega)), if_neg hend.2]
      exact l52
  · rintro k i s hi ⟨g1, g2, g3, g4⟩ hk
    have hd := hall i g4 hi
    rw [show bA b n i = b i from if_pos (by omega)] at hd
    unfold blk at hd
    rw [Bool.or_eq_true, decide_eq_true_eq, decide_eq_true_eq] at hd
    unfold fX10_next_L0 fX10_next_L39
    simp only [show s 0 11 = nI n from by rw [g3 11 (by omega), h1], g1, nI_clamp (show i < 2 ^ 31 by omega), show s 9 i = b i from by rw [g2 9 (by omega), h2 _ (by omega)], nI_1]
    rw [if_neg (nI_ge (by omega) (by omega)), if_pos (ib_mk (by omega) (by omega))]
    have fin : ∃ r, k (h_up s 0 25 (nI (i + 1))) = some r ∧ pTok b n q M r := hk _ ⟨by rw [m_own, u_s], fun a ha => by rw [m_row ha]; exact g2 a ha, fun j hj => by rw [m_own, u_n hj]; exact g3 j hj, by omega⟩
    by_cases c : b i = 32
    · rw [if_pos c]; exact fin
    · rw [if_neg c, if_pos (ib_mk (by omega) (by omega)), if_pos (hd.elim (fun q => absurd q c) id)]; exact fin
