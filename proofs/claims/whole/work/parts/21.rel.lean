/-! THE RELATION between the two memories -/
def gSets (x m : Nat → Int32) : Prop := ∀ k, k < 3 → x k = m k
def gGust (xw xt mw mt : Nat → Int32) : Prop := ∀ t, t < 24 → xw t = mw t ∧ xt t = mt t ∧ h_ib (mw t) 5 ∧ h_ib (mt t) 10
def gHats (xh : Nat → Nat → Int32) (mk mo mq ml : Nat → Int32) : Prop := ∀ h, h < 4 → xh h 0 = mk h ∧ xh h 1 = mo h ∧ xh h 2 = ml h * 32 + mq h ∧ h_ib (mk h) 6 ∧ h_ib (mo h) 10 ∧ h_ib (mq h) 32 ∧ h_ib (ml h) 3
def gCats (xc : Nat → Nat → Int32) (mc : Nat → Int32) : Prop := ∀ p, p < 4 → xc p 0 = mc (3 * p) ∧ xc p 1 = mc (3 * p + 1) ∧ xc p 2 = mc (3 * p + 2) ∧ h_ib (mc (3 * p)) 32 ∧ h_ib (mc (3 * p + 1)) 5 ∧ h_ib (mc (3 * p + 2)) 4
def gNum (x m : Int32) (n : Nat) : Prop := x = m ∧ h_ib m n
def gNow (T : Nat) (X M : hMem) : Prop := gSets (X 2) (M 1) ∧ gGust (X 3) (X 4) (M 2) (M 3) ∧ gHats (fun h => X (7 + h)) (M 4) (M 5) (M 6) (M 7) ∧ gCats (fun p => X (11 + p)) (M 8) ∧ gNum (X 1 5) (M 0 3) 5 ∧ gNum (X 1 6) (M 0 8) 5 ∧ gNum (X 1 7) (M 0 15) T
def gKept0 (T : Nat) (X M : hMem) : Prop := gSets (X 16) (M 12) ∧ gGust (X 17) (X 18) (fun t => M 12 (3 + t)) (fun t => M 12 (27 + t)) ∧ gHats (fun h => X (21 + h)) (fun h => M 12 (51 + h)) (fun h => M 12 (55 + h)) (fun h => M 12 (59 + h)) (fun h => M 12 (63 + h)) ∧ gCats (fun p => X (25 + p)) (fun k => M 12 (67 + k)) ∧ gNum (X 15 5) (M 0 17) 5 ∧ gNum (X 15 6) (M 0 18) 5 ∧ gNum (X 15 7) (M 0 19) T
/-- the image, if one is kept -/
def gKept (T : Nat) (X M : hMem) : Prop := M 0 16 = 0 ∨ gKept0 T X M
def gTape (X M : hMem) : Prop := gNum (X 30 0) (M 0 11) 161 ∧ ∀ i, i < 160 → X 31 i = M 9 i ∧ h_ib (M 9 i) 256
def gSheets (X M : hMem) : Prop := ∀ s, s < 4 → X (80 + 2 * s) 0 = M 13 s ∧ X (80 + 2 * s) 1 = M 14 s ∧ (M 13 s = -1 ∨ h_ib (M 13 s) 3) ∧ h_ib (M 14 s) 41 ∧ ∀ i, i < 40 → X (81 + 2 * s) i = M 15 (40 * s + i)
/-- a word of a text's code, as the other one writes it -/
def trW (w : Int32) : Int32 := if 0 ≤ w then 100000 + w else if -6 ≤ w then -1 - w else -w
/-- the code from i on, n words, is read with a stack of top values: none is wanting, none too many, one is left -/
def wfR (c : Nat → Int32) : Nat → Nat → Nat → Prop
  | 0, _, top => 1 ≤ top
  | n + 1, i, top => (-6 ≤ c i ∧ c i ≤ 9999 ∧ top < 40 ∧ wfR c n (i + 1) (top + 1)) ∨ ((c i = -13 ∨ c i = -19) ∧ 1 ≤ top ∧ wfR c n (i + 1) top) ∨ ((c i = -11 ∨ c i = -12 ∨ c i = -14 ∨ c i = -15 ∨ c i = -16 ∨ c i = -17 ∨ c i = -18) ∧ 2 ≤ top ∧ wfR c n (i + 1) (top - 1))
/-- a text: its code, its parts' ends; the other one's -/
def gText (c e mc ms : Nat → Int32) : Prop := ∃ e0 e1 e2 : Nat, e 0 = nI e0 ∧ e 1 = nI e1 ∧ e 2 = nI e2 ∧ e0 ≤ e1 ∧ e1 ≤ e2 ∧ e2 ≤ 160 ∧ wfR c e0 0 0 ∧ wfR c (e1 - e0) e0 0 ∧ wfR c (e2 - e1) e1 0 ∧ (∀ i, i < e2 → mc i = trW (c i)) ∧ ms 0 = 0 ∧ ms 1 = nI e0 ∧ ms 2 = nI e1 ∧ ms 3 = nI e2
def gTexts (T : Nat) (X M : hMem) : Prop := ∀ t, t < T → gText (X (57 + 4 * t)) (X (58 + 4 * t)) (fun i => M 10 (200 * t + i)) (fun p => M 11 (4 * t + p))
def wdsL : List Int32 := [103, 111, 101, 115, 32, 32, 32, 32, 116, 117, 114, 110, 115, 32, 32, 32, 119, 111, 114, 116, 104, 32, 32, 32, 115, 116, 114, 101, 110, 103, 116, 104, 108, 105, 101, 32, 32, 32, 32, 32, 109, 111, 114, 101, 32, 32, 32, 32, 115, 101, 99, 111, 110, 100, 32, 32, 99, 101, 108, 108, 32, 32, 32, 32, 107, 105, 110, 100, 32, 32, 32, 32, 111, 114, 32, 32, 32, 32, 32, 32, 97, 110, 100, 32, 32, 32, 32, 32, 110, 111, 116, 32, 32, 32, 32, 32]
def RR (X M : hMem) : Prop := ∃ T : Nat, 1 ≤ T ∧ T ≤ 6 ∧ X 0 4 = nI T ∧ M 0 14 = nI T ∧ gNow T X M ∧ gKept T X M ∧ X 0 2 = M 0 16 ∧ M 0 39 = 0 ∧ gTape X M ∧ gSheets X M ∧ gTexts T X M ∧ ∀ i, i < 96 → M 17 i = wdsL.getD i 0
/-- what of x's cells stays -/
def kX (a : Nat) : Prop := a ≤ 28 ∨ a = 31 ∨ (56 ≤ a ∧ a < 80 ∧ a % 4 ≠ 3) ∨ 80 ≤ a
def kM (a : Nat) : Prop := (1 ≤ a ∧ a ≤ 15) ∨ a = 17
def kM0 (j : Nat) : Prop := j = 3 ∨ j = 8 ∨ j = 11 ∨ (14 ≤ j ∧ j ≤ 19) ∨ j = 39
/-- scratch has changed, no more -/
def keepX (X X' : hMem) : Prop := (∀ a, kX a → X' a = X a) ∧ X' 30 0 = X 30 0
def keepM (M M' : hMem) : Prop := (∀ a, kM a → M' a = M a) ∧ ∀ j, kM0 j → M' 0 j = M 0 j
theorem keepX.rf (X : hMem) : keepX X X := ⟨fun _ _ => rfl, rfl⟩
theorem keepM.rf (M : hMem) : keepM M M := ⟨fun _ _ => rfl, fun _ _ => rfl⟩
theorem keepX.tr {X Y Z : hMem} (h : keepX X Y) (g : keepX Y Z) : keepX X Z := ⟨fun a ha => (g.1 a ha).trans (h.1 a ha), g.2.trans h.2⟩
theorem keepM.tr {X Y Z : hMem} (h : keepM X Y) (g : keepM Y Z) : keepM X Z := ⟨fun a ha => (g.1 a ha).trans (h.1 a ha), fun j hj => (g.2 j hj).trans (h.2 j hj)⟩
theorem gHats_c {xh xh' : Nat → Nat → Int32} {mk mo mq ml mk' mo' mq' ml' : Nat → Int32} (h : gHats xh mk mo mq ml) (e0 : ∀ i, i < 4 → xh' i = xh i) (e1 : ∀ i, i < 4 → mk' i = mk i) (e2 : ∀ i, i < 4 → mo' i = mo i) (e3 : ∀ i, i < 4 → mq' i = mq i) (e4 : ∀ i, i < 4 → ml' i = ml i) : gHats xh' mk' mo' mq' ml' := fun i hi => by
  rw [e0 i hi, e1 i hi, e2 i hi, e3 i hi, e4 i hi]; exact h i hi
theorem gCats_c {xc xc' : Nat → Nat → Int32} {mc mc' : Nat → Int32} (h : gCats xc mc) (e0 : ∀ i, i < 4 → xc' i = xc i) (e1 : ∀ i, i < 12 → mc' i = mc i) : gCats xc' mc' := fun i hi => by
  rw [e0 i hi, e1 (3 * i) (by omega), e1 (3 * i + 1) (by omega), e1 (3 * i + 2) (by omega)]; exact h i hi
theorem gNow_c {T : Nat} {X M X' M' : hMem} (h : gNow T X M) (hx : ∀ a, 1 ≤ a → a ≤ 14 → X' a = X a) (hm : ∀ a, 1 ≤ a → a ≤ 8 → M' a = M a) (h0 : ∀ j, kM0 j → M' 0 j = M 0 j) : gNow T X' M' := by
  obtain ⟨h1, h2, h3, h4, h5, h6, h7⟩ := h
  refine ⟨?_, ?_, gHats_c h3 (fun i hi => hx _ (by omega) (by omega)) ?_ ?_ ?_ ?_, gCats_c h4 (fun i hi => hx _ (by omega) (by omega)) ?_, ?_, ?_, ?_⟩
  · rw [hx 2 (by omega) (by omega), hm 1 (by omega) (by omega)]; exact h1
  · rw [hx 3 (by omega) (by omega), hx 4 (by omega) (by omega), hm 2 (by omega) (by omega), hm 3 (by omega) (by omega)]; exact h2
  · intro i hi; rw [hm 4 (by omega) (by omega)]
  · intro i hi; rw [hm 5 (by omega) (by omega)]
  · intro i hi; rw [hm 6 (by omega) (by omega)]
  · intro i hi; rw [hm 7 (by omega) (by omega)]
  · intro i hi; rw [hm 8 (by omega) (by omega)]
  · rw [hx 1 (by omega) (by omega), h0 3 (by unfold kM0; omega)]; exact h5
  · rw [hx 1 (by omega) (by omega), h0 8 (by unfold kM0; omega)]; exact h6
  · rw [hx 1 (by omega) (by omega), h0 15 (by unfold kM0; omega)]; exact h7
theorem gKept_c {T : Nat} {X M X' M' : hMem} (h : gKept T X M) (hx : ∀ a, 15 ≤ a → a ≤ 28 → X' a = X a) (hm : M' 12 = M 12) (h0 : ∀ j, 16 ≤ j → j ≤ 19 → M' 0 j = M 0 j) : gKept T X' M' := by
  rcases h with h | h
  · exact Or.inl (by rw [h0 16 (by omega) (by omega)]; exact h)
  obtain ⟨h1, h2, h3, h4, h5, h6, h7⟩ := h
  refine Or.inr ⟨?_, ?_, gHats_c h3 (fun i hi => hx _ (by omega) (by omega)) ?_ ?_ ?_ ?_, gCats_c h4 (fun i hi => hx _ (by omega) (by omega)) ?_, ?_, ?_, ?_⟩
  · rw [hx 16 (by omega) (by omega), hm]; exact h1
  · rw [hx 17 (by omega) (by omega), hx 18 (by omega) (by omega), hm]; exact h2
  · intro i hi; rw [hm]
  · intro i hi; rw [hm]
  · intro i hi; rw [hm]
  · intro i hi; rw [hm]
  · intro i hi; rw [hm]
  · rw [hx 15 (by omega) (by omega), h0 17 (by omega) (by omega)]; exact h5
  · rw [hx 15 (by omega) (by omega), h0 18 (by omega) (by omega)]; exact h6
  · rw [hx 15 (by omega) (by omega), h0 19 (by omega) (by omega)]; exact h7
theorem gTape_c {X M X' M' : hMem} (h : gTape X M) (e1 : X' 30 0 = X 30 0) (e2 : X' 31 = X 31) (e3 : M' 0 11 = M 0 11) (e4 : M' 9 = M 9) : gTape X' M' := by
  unfold gTape at h ⊢
  rw [e1, e2, e3, e4]; exact h
theorem gSheets_c {X M X' M' : hMem} (h : gSheets X M) (hx : ∀ a, 80 ≤ a → X' a = X a) (hm : ∀ a, 13 ≤ a → a ≤ 15 → M' a = M a) : gSheets X' M' := fun s hs => by
  rw [hx _ (by omega), hx (81 + 2 * s) (by omega), hm 13 (by omega) (by omega), hm 14 (by omega) (by omega), hm 15 (by omega) (by omega)]; exact h s hs
theorem gTexts_c {T : Nat} {X M X' M' : hMem} (h : gTexts T X M) (hx : ∀ a, 56 ≤ a → a < 80 → a % 4 ≠ 3 → X' a = X a) (h1 : M' 10 = M 10) (h2 : M' 11 = M 11) (hT : T ≤ 6) : gTexts T X' M' := fun t ht => by
  rw [hx (57 + 4 * t) (by omega) (by omega) (by omega), hx (58 + 4 * t) (by omega) (by omega) (by omega), h1, h2]; exact h t ht
theorem RR.keep {X M X' M' : hMem} (h : RR X M) (hx : keepX X X') (hm : keepM M M') : RR X' M' := by
  obtain ⟨T, t1, t2, t3, t4, n, k, f1, f2, tp, sh, tx, wd⟩ := h
  refine ⟨T, t1, t2, ?_, ?_, gNow_c n ?_ ?_ hm.2, gKept_c k ?_ ?_ ?_, ?_, ?_, gTape_c tp hx.2 ?_ ?_ ?_, gSheets_c sh ?_ ?_, gTexts_c tx ?_ ?_ ?_ t2, ?_⟩
  · rw [hx.1 0 (by unfold kX; omega)]; exact t3
  · rw [hm.2 14 (by unfold kM0; omega)]; exact t4
  · exact fun a h1 h2 => hx.1 a (by unfold kX; omega)
  · exact fun a h1 h2 => hm.1 a (by unfold kM; omega)
  · exact fun a h1 h2 => hx.1 a (by unfold kX; omega)
  · exact hm.1 12 (by unfold kM; omega)
  · exact fun j h1 h2 => hm.2 j (by unfold kM0; omega)
  · rw [hx.1 0 (by unfold kX; omega), hm.2 16 (by unfold kM0; omega)]; exact f1
  · rw [hm.2 39 (by unfold kM0; omega)]; exact f2
  · exact hx.1 31 (by unfold kX; omega)
  · exact hm.2 11 (by unfold kM0; omega)
  · exact hm.1 9 (by unfold kM; omega)
  · exact fun a h1 => hx.1 a (by unfold kX; omega)
  · exact fun a h1 h2 => hm.1 a (by unfold kM; omega)
  · exact fun a h1 h2 h3 => hx.1 a (by unfold kX; omega)
  · exact hm.1 10 (by unfold kM; omega)
  · exact hm.1 11 (by unfold kM; omega)
  · rw [hm.1 17 (by unfold kM; omega)]; exact wd
/-- the street as it is has changed, no more -/
theorem RR.now {X M X' M' : hMem} (h : RR X M) (hx : ∀ a, kX a → a = 0 ∨ 15 ≤ a → X' a = X a) (hx3 : X' 30 0 = X 30 0) (hm : ∀ a, kM a → 9 ≤ a → M' a = M a) (hm0 : ∀ j, kM0 j → j ≠ 3 → j ≠ 8 → j ≠ 15 → M' 0 j = M 0 j) (hn : ∀ T, T ≤ 6 → X 0 4 = nI T → M 0 14 = nI T → gNow T X M → gNow T X' M') : RR X' M' := by
  obtain ⟨T, t1, t2, t3, t4, n, k, f1, f2, tp, sh, tx, wd⟩ := h
  refine ⟨T, t1, t2, ?_, ?_, hn T t2 t3 t4 n, gKept_c k ?_ ?_ ?_, ?_, ?_, gTape_c tp hx3 ?_ ?_ ?_, gSheets_c sh ?_ ?_, gTexts_c tx ?_ ?_ ?_ t2, ?_⟩
  · rw [hx 0 (by unfold kX; omega) (by omega)]; exact t3
  · rw [hm0 14 (by unfold kM0; omega) (by omega) (by omega) (by omega)]; exact t4
  · exact fun a h1 h2 => hx a (by unfold kX; omega) (by omega)
  · exact hm 12 (by unfold kM; omega) (by omega)
  · exact fun j h1 h2 => hm0 j (by unfold kM0; omega) (by omega) (by omega) (by omega)
  · rw [hx 0 (by unfold kX; omega) (by omega), hm0 16 (by unfold kM0; omega) (by omega) (by omega) (by omega)]; exact f1
  · rw [hm0 39 (by unfold kM0; omega) (by omega) (by omega) (by omega)]; exact f2
  · exact hx 31 (by unfold kX; omega) (by omega)
  · exact hm0 11 (by unfold kM0; omega) (by omega) (by omega) (by omega)
  · exact hm 9 (by unfold kM; omega) (by omega)
  · exact fun a h1 => hx a (by unfold kX; omega) (by omega)
  · exact fun a h1 h2 => hm a (by unfold kM; omega) (by omega)
  · exact fun a h1 h2 h3 => hx a (by unfold kX; omega) (by omega)
  · exact hm 10 (by unfold kM; omega) (by omega)
  · exact hm 11 (by unfold kM; omega) (by omega)
  · rw [hm 17 (by unfold kM; omega) (by omega)]; exact wd
theorem RR.getN {X M : hMem} (h : RR X M) : ∃ T, T ≤ 6 ∧ gNow T X M := by
  obtain ⟨T, t1, t2, t3, t4, n, k, f1, f2, tp, sh, tx, wd⟩ := h
  exact ⟨T, t2, n⟩
/-- the sheets have changed, no more (scratch, too) -/
theorem RR.sheets {X M X' M' : hMem} (h : RR X M) (hx : ∀ a, kX a → a < 80 → X' a = X a) (hx3 : X' 30 0 = X 30 0) (hm : ∀ a, kM a → a ≤ 12 ∨ a = 17 → M' a = M a) (hm0 : ∀ j, kM0 j → M' 0 j = M 0 j) (hs : gSheets X' M') : RR X' M' := by
  obtain ⟨T, t1, t2, t3, t4, n, k, f1, f2, tp, sh, tx, wd⟩ := h
  refine ⟨T, t1, t2, ?_, ?_, gNow_c n ?_ ?_ hm0, gKept_c k ?_ ?_ ?_, ?_, ?_, gTape_c tp hx3 ?_ ?_ ?_, hs, gTexts_c tx ?_ ?_ ?_ t2, ?_⟩
  · rw [hx 0 (by unfold kX; omega) (by omega)]; exact t3
  · rw [hm0 14 (by unfold kM0; omega)]; exact t4
  · exact fun a h1 h2 => hx a (by unfold kX; omega) (by omega)
  · exact fun a h1 h2 => hm a (by unfold kM; omega) (by omega)
  · exact fun a h1 h2 => hx a (by unfold kX; omega) (by omega)
  · exact hm 12 (by unfold kM; omega) (by omega)
  · exact fun j h1 h2 => hm0 j (by unfold kM0; omega)
  · rw [hx 0 (by unfold kX; omega) (by omega), hm0 16 (by unfold kM0; omega)]; exact f1
  · rw [hm0 39 (by unfold kM0; omega)]; exact f2
  · exact hx 31 (by unfold kX; omega) (by omega)
  · exact hm0 11 (by unfold kM0; omega)
  · exact hm 9 (by unfold kM; omega) (by omega)
  · exact fun a h1 h2 h3 => hx a (by unfold kX; omega) (by omega)
  · exact hm 10 (by unfold kM; omega) (by omega)
  · exact hm 11 (by unfold kM; omega) (by omega)
  · rw [hm 17 (by unfold kM; omega) (by omega)]; exact wd
