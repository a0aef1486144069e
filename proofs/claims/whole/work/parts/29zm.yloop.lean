/-! TEXT: the yard does what the spec parser says -/
theorem y_loop {E d r rs : Nat} {K V : Nat → Int32} {Fs F : Int32 → List Nat → Prop} {op : Int32 → Option Int32} {g : Nat → Except Nat (List Int32 × Nat)} {fl' : Bool} (hE : tkE E K) (hr1 : 1 ≤ r) (hr4 : r ≠ 4) (hrs : r ≤ rs) (hop : ∀ v o, op v = some o → v ≠ 0 ∧ v ≠ 1 ∧ v ≠ 59 ∧ v ≠ 41 ∧ sgS v ≠ 0 ∧ o = -(nI (sgS v)) ∧ rkS (sgS v) = r ∧ decide (sgS v ≤ 12) = fl' ∧ opn [sgS v] = 0) (hF : ∀ v Q R, Fs v Q → op v = none → F v (Q ++ R)) (hsub : ∀ k H c, k ≤ E → opn H = d → topLe r H → Yl E K V rs Fs k fl' H c (g k)) : ∀ (m : Nat) (s : List Int32 × Nat) (H : List Nat) (c : List Int32) (k0 : Nat) (fl0 : Bool) (Q : List Nat) (c' : List Int32), E - s.2 < m → s.2 ≤ E → k0 < s.2 → (∀ g, yg K V (g + (s.2 - k0)) k0 (some fl0, H, c) = yg K V g s.2 (none, Q ++ H, c')) → c' ++ pcs Q = c ++ s.1 → (∀ q, q ∈ Q → r ≤ rkS q) → (op (K s.2) = none → F (K s.2) Q) → topLe (r - 1) H → opn H = d → Yl E K V r F k0 fl0 H c (lpS K g op m s) := by
  intro m
  induction m with
  | zero => intro s H c k0 fl0 Q c' hm; omega
  | succ m ih =>
    intro s H c k0 fl0 Q c' hm hsE hk0 hrun hcode hQ hFQ hH ho
    rw [lpS_s]
    cases hopv : op (K s.2) with
    | none => exact Yl.ok (w := s.1) (k' := s.2) hk0 hsE hrun hcode hQ (hFQ hopv)
    | some o =>
      dsimp only
      obtain ⟨v0, v1, v59, v41, vs, vo, vr, vf, vn⟩ := hop _ _ hopv
      have hlt := hE.lt hsE v0 v1
      have st : yst K V s.2 (none, Q ++ H, c') = .ok (some fl', sgS (K s.2) :: H, c ++ s.1) := by
        show yN K s.2 (Q ++ H) c' = _
        unfold yN
        rw [if_neg v59, if_neg v41, if_neg vs, if_neg (fun q => hr4 (vr.symm.trans q.1)), vr, show lst r = r from if_neg hr4, unw_at hQ hH (by omega) hcode, vf]
      have hsb := hsub (s.2 + 1) (sgS (K s.2) :: H) (c ++ s.1) hlt (by rw [opn_n vn, ho]) (topLe.cons (Nat.le_of_eq vr))
      cases hres : g (s.2 + 1) with
      | error kf =>
        obtain ⟨a1, a2, a3⟩ := hsb.2 kf hres
        refine Yl.bad (by omega) a2 (fun g' => ?_)
        rw [show g' + 1 + (kf - k0) = (g' + 1 + (kf - (s.2 + 1))) + 1 + (s.2 - k0) from by omega, hrun, yg_ok st, a3]
      | ok p =>
        obtain ⟨a1, a2, Q', c2, a3, a4, a5, a6⟩ := hsb.1 p.1 p.2 hres
        dsimp only
        refine ih (s.1 ++ p.1 ++ [o], p.2) H c k0 fl0 (Q' ++ [sgS (K s.2)]) c2 (by show E - p.2 < m; omega) a2 (by show k0 < p.2; omega) (fun g' => ?_) ?_ ?_ (fun q => hF _ _ _ a6 q) hH ho
        · show yg K V (g' + (p.2 - k0)) k0 (some fl0, H, c) = yg K V g' p.2 (none, Q' ++ [sgS (K s.2)] ++ H, c2)
          rw [show g' + (p.2 - k0) = (g' + (p.2 - (s.2 + 1))) + 1 + (s.2 - k0) from by omega, hrun, yg_ok st, a3, List.append_assoc]
          rfl
        · show c2 ++ pcs (Q' ++ [sgS (K s.2)]) = c ++ (s.1 ++ p.1 ++ [o])
          rw [pcs_app, ← List.append_assoc, a4, vo, List.append_assoc, List.append_assoc, List.append_assoc]
          rfl
        · intro q hq
          rcases List.mem_append.mp hq with h | h
          · exact Nat.le_trans hrs (a5 q h)
          · rw [List.mem_singleton.mp h]; exact Nat.le_of_eq vr.symm
theorem y_level {E d r rs k : Nat} {K V : Nat → Int32} {Fs F : Int32 → List Nat → Prop} {op : Int32 → Option Int32} {g : Nat → Except Nat (List Int32 × Nat)} {fl' fl : Bool} {H : List Nat} {c : List Int32} (hE : tkE E K) (hr1 : 1 ≤ r) (hr4 : r ≠ 4) (hrs : r ≤ rs) (hop : ∀ v o, op v = some o → v ≠ 0 ∧ v ≠ 1 ∧ v ≠ 59 ∧ v ≠ 41 ∧ sgS v ≠ 0 ∧ o = -(nI (sgS v)) ∧ rkS (sgS v) = r ∧ decide (sgS v ≤ 12) = fl' ∧ opn [sgS v] = 0) (hF : ∀ v Q R, Fs v Q → op v = none → F v (Q ++ R)) (hsub : ∀ k H c, k ≤ E → opn H = d → topLe r H → Yl E K V rs Fs k fl' H c (g k)) (h1 : Yl E K V rs Fs k fl H c (g k)) (hH : topLe (r - 1) H) (ho : opn H = d) : Yl E K V r F k fl H c (match g k with | .error e => .error e | .ok s => lpS K g op 160 s) := by
  have hE160 := hE.1
  cases hres : g k with
  | error kf =>
    obtain ⟨a1, a2, a3⟩ := h1.2 kf hres
    exact Yl.bad a1 a2 a3
  | ok s =>
    obtain ⟨a1, a2, Q, c', a3, a4, a5, a6⟩ := h1.1 s.1 s.2 hres
    exact y_loop hE hr1 hr4 hrs hop hF hsub 160 s H c k fl Q c' (by omega) a2 a1 a3 a4 (fun q hq => Nat.le_trans hrs (a5 q hq)) (fun q => by have := hF _ _ [] a6 q; rw [List.append_nil] at this; exact this) hH ho
def HYl (E : Nat) (K V : Nat → Int32) (f : Nat) : Prop := ∀ lv d k fl H c, lv ≤ 4 → d ≤ 5 → 6 * (5 - d) + (6 - lv) ≤ f → k ≤ E → opn H = d → topLe (amax lv) H → (lv ≤ 2 → fl = true) → (3 ≤ lv → fl = true → K k = 9 → 5 ≤ d) → Yl E K V (rmin lv) (fol lv) k fl H c (prs K V f lv d k)
def HY5 (E : Nat) (K V : Nat → Int32) (f : Nat) : Prop := ∀ d k fl H c, d ≤ 5 → 6 * (5 - d) + 1 ≤ f → k ≤ E → opn H = d → (fl = true → K k = 9 → 5 ≤ d) → Y5 E K V k fl H c (prs K V f 5 d k)
theorem y_one {E f : Nat} {K V : Nat → Int32} (hE : tkE E K) (H0 : HYl E K V f) (H5 : HY5 E K V f) : HY5 E K V (f + 1) := by
  intro d k fl H c hd hf hk ho hfl
  have lit : ∀ m : Int32, K k = m → m ≠ 0 → m ≠ 1 → k < E := fun m e n0 n1 => hE.lt hk (by rw [e]; exact n0) (by rw [e]; exact n1)
  show Y5 E K V k fl H c (if K k = 2 then .ok ([V k], k + 1) else if K k = 3 then .ok ([-1 - V k], k + 1)
        else if K k = 45 ∧ d < 5 then (match prs K V f 5 (d + 1) (k + 1) with | .error e => .error e | .ok s => .ok (s.1 ++ [-19], s.2))
        else if K k = 40 ∧ d < 5 then (match prs K V f 0 (d + 1) (k + 1) with | .error e => .error e | .ok s => if K s.2 = 41 then .ok (s.1, s.2 + 1) else .error s.2)
        else .error k)
  by_cases c2 : K k = 2
  · have hlt := lit 2 c2 (by decide) (by decide)
    have st : yst K V k (some fl, H, c) = .ok (none, unw 7 H (c ++ [V k])) := by
      show yO K V k fl H c = _
      unfold yO; rw [if_pos c2]
    rw [if_pos c2]
    exact Y5.ok (by omega) hlt (fun g => by rw [show g + (k + 1 - k) = g + 1 from by omega, yg_ok st])
  rw [if_neg c2]
  by_cases c3 : K k = 3
  · have hlt := lit 3 c3 (by decide) (by decide)
    have st : yst K V k (some fl, H, c) = .ok (none, unw 7 H (c ++ [-1 - V k])) := by
      show yO K V k fl H c = _
      unfold yO; rw [if_neg c2, if_pos c3]
    rw [if_pos c3]
    exact Y5.ok (by omega) hlt (fun g => by rw [show g + (k + 1 - k) = g + 1 from by omega, yg_ok st])
  rw [if_neg c3]
  by_cases c45 : K k = 45 ∧ d < 5
  · have hlt := lit 45 c45.1 (by decide) (by decide)
    have st : yst K V k (some fl, H, c) = .ok (some false, 19 :: H, c) := by
      show yO K V k fl H c = _
      unfold yO; rw [if_neg c2, if_neg c3, if_neg (fun q => absurd (c45.1.symm.trans q.1) (by decide)), if_pos c45.1, if_neg (by omega)]
    rw [if_pos c45]
    have h1 := H5 (d + 1) (k + 1) false (19 :: H) c (by omega) (by omega) hlt (by show opn H + 1 = d + 1; rw [ho]) (fun q => by cases q)
    cases hres : prs K V f 5 (d + 1) (k + 1) with
    | error kf =>
      obtain ⟨a1, a2, a3⟩ := h1.2 kf hres
      exact Y5.bad (by omega) a2 (fun g => by rw [show g + 1 + (kf - k) = (g + 1 + (kf - (k + 1))) + 1 from by omega, yg_ok st, a3])
    | ok s =>
      obtain ⟨a1, a2, a3⟩ := h1.1 s.1 s.2 hres
      exact Y5.ok (by omega) a2 (fun g => by rw [show g + (s.2 - k) = (g + (s.2 - (k + 1))) + 1 from by omega, yg_ok st, a3, unw_c, if_neg (by decide), List.append_assoc]; rfl)
  rw [if_neg c45]
  by_cases c40 : K k = 40 ∧ d < 5
  · have hlt := lit 40 c40.1 (by decide) (by decide)
    have st : yst K V k (some fl, H, c) = .ok (some true, 0 :: H, c) := by
      show yO K V k fl H c = _
      unfold yO; rw [if_neg c2, if_neg c3, if_neg (fun q => absurd (c40.1.symm.trans q.1) (by decide)), if_neg (fun q => absurd (c40.1.symm.trans q) (by decide)), if_pos c40.1, if_neg (by omega)]
    rw [if_pos c40]
    have h1 := H0 0 (d + 1) (k + 1) true (0 :: H) c (by omega) (by omega) (by omega) hlt (by show opn H + 1 = d + 1; rw [ho]) (topLe.cons (by decide)) (fun _ => rfl) (fun q => absurd q (by omega))
    cases hres : prs K V f 0 (d + 1) (k + 1) with
    | error kf =>
      obtain ⟨a1, a2, a3⟩ := h1.2 kf hres
      exact Y5.bad (by omega) a2 (fun g => by rw [show g + 1 + (kf - k) = (g + 1 + (kf - (k + 1))) + 1 from by omega, yg_ok st, a3])
    | ok s =>
      obtain ⟨a1, a2, Q, c', a3, a4, a5, a6⟩ := h1.1 s.1 s.2 hres
      dsimp only
      by_cases c41 : K s.2 = 41
      · have hlt2 := hE.lt a2 (by rw [c41]; decide) (by rw [c41]; decide)
        have st2 : yst K V s.2 (none, Q ++ 0 :: H, c') = .ok (none, unw 7 H (c ++ s.1)) := by
          show yN K s.2 (Q ++ 0 :: H) c' = _
          unfold yN
          rw [if_neg (by rw [c41]; decide), if_pos c41, unw_at (l := 1) a5 (topLe.cons (show rkS 0 ≤ 0 from by decide)) (by decide) a4]
        rw [if_pos c41]
        exact Y5.ok (by omega) hlt2 (fun g => by rw [show g + (s.2 + 1 - k) = ((g + 1) + (s.2 - (k + 1))) + 1 from by omega, yg_ok st, a3, yg_ok st2])
      · rw [if_neg c41]
        have st2 : yst K V s.2 (none, Q ++ 0 :: H, c') = .error none := y_stuck a6 a5 (topLe.cons (by decide)) (fun q => absurd q c41) (fun _ q => by cases q)
        exact Y5.bad (by omega) a2 (fun g => by rw [show g + 1 + (s.2 - k) = ((g + 1) + (s.2 - (k + 1))) + 1 from by omega, yg_ok st, a3, yg_er st2])
  rw [if_neg c40]
  have st : yst K V k (some fl, H, c) = .error none := by
    show yO K V k fl H c = _
    unfold yO; rw [if_neg c2, if_neg c3]
    by_cases c9 : K k = 9 ∧ fl = true
    · have := hfl c9.2 c9.1
      rw [if_pos c9, if_pos (by omega)]
    rw [if_neg c9]
    by_cases d45 : K k = 45
    · rw [if_pos d45, if_pos (by have : ¬ d < 5 := fun q => c45 ⟨d45, q⟩; omega)]
    rw [if_neg d45]
    by_cases d40 : K k = 40
    · rw [if_pos d40, if_pos (by have : ¬ d < 5 := fun q => c40 ⟨d40, q⟩; omega)]
    rw [if_neg d40]
  exact Y5.bad (Nat.le_refl _) hk (fun g => by rw [show g + 1 + (k - k) = g + 1 from by omega, yg_er st])
theorem y_prs {E : Nat} {K V : Nat → Int32} (hE : tkE E K) : ∀ f, HYl E K V f ∧ HY5 E K V f := by
  intro f
  induction f with
  | zero => exact ⟨fun lv d k fl H c h1 h2 h3 => by omega, fun d k fl H c h1 h2 => by omega⟩
  | succ f ih =>
    refine ⟨?_, y_one hE ih.1 ih.2⟩
    intro lv d k fl H c hlv hd hf hk ho hH hfl hf9
    rcases (by omega : lv = 0 ∨ lv = 1 ∨ lv = 2 ∨ lv = 3 ∨ lv = 4) with rfl | rfl | rfl | rfl | rfl
    · have e := hfl (by omega)
      subst e
      show Yl E K V 1 (fol 0) k true H c (match prs K V f 1 d k with | .error e => .error e | .ok s => lpS K (prs K V f 1 d) opOr 160 s)
      refine y_level (d := d) (rs := 2) (Fs := fol 1) (fl' := true) hE (by decide) (by decide) (by decide) ?_ ?_ ?_ ?_ (hH.mono (by decide)) ho
      · intro v o e
        unfold opOr at e
        by_cases a : v = 7
        · rw [if_pos a] at e; cases e; subst a; decide
        · rw [if_neg a] at e; cases e
      · intro v Q R h e
        have h' := h.app R
        refine ⟨h'.1, fun _ => h'.2.1 (by decide), fun _ => h'.2.2.1 (by decide), fun _ => h'.2.2.2.1 (by decide), fun _ a => ?_⟩
        unfold opOr at e; rw [if_pos a] at e; cases e
      · intro k H c hk ho hH
        exact ih.1 1 d k true H c (by omega) hd (by omega) hk ho hH (fun _ => rfl) (fun q => absurd q (by omega))
      · exact ih.1 1 d k true H c (by omega) hd (by omega) hk ho (hH.mono (by decide)) (fun _ => rfl) (fun q => absurd q (by omega))
    · have e := hfl (by omega)
      subst e
      show Yl E K V 2 (fol 1) k true H c (match prs K V f 2 d k with | .error e => .error e | .ok s => lpS K (prs K V f 2 d) opAnd 160 s)
      refine y_level (d := d) (rs := 3) (Fs := fol 2) (fl' := true) hE (by decide) (by decide) (by decide) ?_ ?_ ?_ ?_ (hH.mono (by decide)) ho
      · intro v o e
        unfold opAnd at e
        by_cases a : v = 8
        · rw [if_pos a] at e; cases e; subst a; decide
        · rw [if_neg a] at e; cases e
      · intro v Q R h e
        have h' := h.app R
        refine ⟨h'.1, fun _ => h'.2.1 (by decide), fun _ => h'.2.2.1 (by decide), fun _ a => ?_, fun q => absurd q (by decide)⟩
        unfold opAnd at e; rw [if_pos a] at e; cases e
      · intro k H c hk ho hH
        exact ih.1 2 d k true H c (by omega) hd (by omega) hk ho (hH.mono (by decide)) (fun _ => rfl) (fun q => absurd q (by omega))
      · exact ih.1 2 d k true H c (by omega) hd (by omega) hk ho (hH.mono (by decide)) (fun _ => rfl) (fun q => absurd q (by omega))
    · have e := hfl (by omega)
      subst e
      show Yl E K V 3 (fol 2) k true H c (if K k = 9 ∧ d < 5 then (match prs K V f 2 (d + 1) (k + 1) with | .error e => .error e | .ok s => .ok (s.1 ++ [-13], s.2))
        else (match prs K V f 3 d k with | .error e => .error e | .ok s => lpS K (prs K V f 3 d) opCmp 1 s))
      by_cases c9 : K k = 9 ∧ d < 5
      · have hlt := hE.lt hk (by rw [c9.1]; decide) (by rw [c9.1]; decide)
        have st : yst K V k (some true, H, c) = .ok (some true, 13 :: H, c) := by
          show yO K V k true H c = _
          unfold yO; rw [if_neg (by rw [c9.1]; decide), if_neg (by rw [c9.1]; decide), if_pos ⟨c9.1, rfl⟩, if_neg (by omega)]
        rw [if_pos c9]
        have h1 := ih.1 2 (d + 1) (k + 1) true (13 :: H) c (by omega) (by omega) (by omega) hlt (by show opn H + 1 = d + 1; rw [ho]) (topLe.cons (by decide)) (fun _ => rfl) (fun q => absurd q (by omega))
        cases hres : prs K V f 2 (d + 1) (k + 1) with
        | error kf =>
          obtain ⟨a1, a2, a3⟩ := h1.2 kf hres
          exact Yl.bad (by omega) a2 (fun g => by rw [show g + 1 + (kf - k) = (g + 1 + (kf - (k + 1))) + 1 from by omega, yg_ok st, a3])
        | ok s =>
          obtain ⟨a1, a2, Q, c', a3, a4, a5, a6⟩ := h1.1 s.1 s.2 hres
          refine Yl.ok (Q := Q ++ [13]) (c' := c') (by omega) a2 (fun g => ?_) ?_ (fun q hq => ?_) (a6.app _)
          · rw [show g + (s.2 - k) = (g + (s.2 - (k + 1))) + 1 from by omega, yg_ok st, a3, List.append_assoc]; rfl
          · rw [pcs_app, ← List.append_assoc, a4, List.append_assoc]; rfl
          · rcases List.mem_append.mp hq with h | h
            · exact a5 q h
            · rw [List.mem_singleton.mp h]; decide
      · rw [if_neg c9]
        have h1 := ih.1 3 d k true H c (by omega) hd (by omega) hk ho (hH.mono (by decide)) (fun q => absurd q (by omega)) (fun _ _ q => by have : ¬ d < 5 := fun a => c9 ⟨q, a⟩; omega)
        cases hres : prs K V f 3 d k with
        | error kf =>
          obtain ⟨a1, a2, a3⟩ := h1.2 kf hres
          exact Yl.bad a1 a2 a3
        | ok s =>
          obtain ⟨a1, a2, Q, c', a3, a4, a5, a6⟩ := h1.1 s.1 s.2 hres
          dsimp only
          rw [lpS_s]
          have sub : ∀ o, K s.2 ≠ 0 → K s.2 ≠ 1 → K s.2 ≠ 59 → K s.2 ≠ 41 → sgS (K s.2) ≠ 0 → o = -(nI (sgS (K s.2))) → rkS (sgS (K s.2)) = 4 → decide (sgS (K s.2) ≤ 12) = false → opn [sgS (K s.2)] = 0 → Yl E K V 3 (fol 2) k true H c (match prs K V f 3 d (s.2 + 1) with | .error e => .error e | .ok r => lpS K (prs K V f 3 d) opCmp 0 (s.1 ++ r.1 ++ [o], r.2)) := by
            intro o v0 v1 v59 v41 vs vo vr vf vn
            have hlt := hE.lt a2 v0 v1
            have st : yst K V s.2 (none, Q ++ H, c') = .ok (some false, sgS (K s.2) :: H, c ++ s.1) := by
              show yN K s.2 (Q ++ H) c' = _
              unfold yN
              rw [if_neg v59, if_neg v41, if_neg vs, vr, show lst 4 = 5 from rfl, unw_at (l := 5) a5 hH (by decide) a4, vf, if_neg]
              rintro ⟨-, q⟩
              cases H with
              | nil => cases q
              | cons t H' =>
                have h4 := of_decide_eq_true q
                have h3 := hH t H' rfl
                have h3' : rkS t ≤ 3 := h3
                omega
            have hsb := ih.1 3 d (s.2 + 1) false (sgS (K s.2) :: H) (c ++ s.1) (by omega) hd (by omega) hlt (by rw [opn_n vn, ho]) (topLe.cons (by rw [vr]; decide)) (fun q => absurd q (by omega)) (fun _ q => by cases q)
            cases hres2 : prs K V f 3 d (s.2 + 1) with
            | error kf =>
              obtain ⟨b1, b2, b3⟩ := hsb.2 kf hres2
              refine Yl.bad (by omega) b2 (fun g' => ?_)
              rw [show g' + 1 + (kf - k) = (g' + 1 + (kf - (s.2 + 1))) + 1 + (s.2 - k) from by omega, a3, yg_ok st, b3]
            | ok p =>
              obtain ⟨b1, b2, Q', c2, b3, b4, b5, b6⟩ := hsb.1 p.1 p.2 hres2
              show Yl E K V 3 (fol 2) k true H c (.ok (s.1 ++ p.1 ++ [o], p.2))
              refine Yl.ok (Q := Q' ++ [sgS (K s.2)]) (c' := c2) (by omega) b2 (fun g' => ?_) ?_ (fun q hq => ?_) ⟨b6.1, fun _ => b6.2.1 (by decide), fun _ _ => ⟨Q', sgS (K s.2), [], rfl, b5, vr⟩, fun q => absurd q (by decide), fun q => absurd q (by decide)⟩
              · rw [show g' + (p.2 - k) = (g' + (p.2 - (s.2 + 1))) + 1 + (s.2 - k) from by omega, a3, yg_ok st, b3, List.append_assoc]; rfl
              · rw [pcs_app, ← List.append_assoc, b4, vo, List.append_assoc, List.append_assoc, List.append_assoc]; rfl
              · rcases List.mem_append.mp hq with h | h
                · exact Nat.le_trans (show 3 ≤ 5 by decide) (b5 q h)
                · rw [List.mem_singleton.mp h, vr]; decide
          unfold opCmp
          by_cases c60 : K s.2 = 60
          · simp only [if_pos c60]
            exact sub (-14) (by rw [c60]; decide) (by rw [c60]; decide) (by rw [c60]; decide) (by rw [c60]; decide) (by rw [c60]; decide) (by rw [c60]; decide) (by rw [c60]; decide) (by rw [c60]; decide) (by rw [c60]; decide)
          by_cases c61 : K s.2 = 61
          · simp only [if_neg c60, if_pos c61]
            exact sub (-15) (by rw [c61]; decide) (by rw [c61]; decide) (by rw [c61]; decide) (by rw [c61]; decide) (by rw [c61]; decide) (by rw [c61]; decide) (by rw [c61]; decide) (by rw [c61]; decide) (by rw [c61]; decide)
          simp only [if_neg c60, if_neg c61]
          exact Yl.ok (w := s.1) (k' := s.2) a1 a2 a3 a4 (fun q hq => Nat.le_trans (show 3 ≤ 5 by decide) (a5 q hq)) ⟨a6.1, fun _ => a6.2.1 (by decide), fun _ q => absurd q (fun q => q.elim c60 c61), fun q => absurd q (by decide), fun q => absurd q (by decide)⟩
    · show Yl E K V 5 (fol 3) k fl H c (match prs K V f 4 d k with | .error e => .error e | .ok s => lpS K (prs K V f 4 d) opSum 160 s)
      refine y_level (d := d) (rs := 6) (Fs := fol 4) (fl' := false) hE (by decide) (by decide) (by decide) ?_ ?_ ?_ ?_ (hH.mono (by decide)) ho
      · intro v o e
        unfold opSum at e
        by_cases a : v = 43
        · rw [if_pos a] at e; cases e; subst a; decide
        rw [if_neg a] at e
        by_cases b : v = 45
        · rw [if_pos b] at e; cases e; subst b; decide
        · rw [if_neg b] at e; cases e
      · intro v Q R h e
        refine ⟨h.1, fun _ => ⟨fun a => ?_, fun a => ?_⟩, fun q => absurd q (by decide), fun q => absurd q (by decide), fun q => absurd q (by decide)⟩
        · unfold opSum at e; rw [if_pos a] at e; cases e
        · unfold opSum at e; rw [if_neg (by rw [a]; decide), if_pos a] at e; cases e
      · intro k H c hk ho hH
        exact ih.1 4 d k false H c (by omega) hd (by omega) hk ho hH (fun q => absurd q (by omega)) (fun _ q => by cases q)
      · exact ih.1 4 d k fl H c (by omega) hd (by omega) hk ho (hH.mono (by decide)) (fun q => absurd q (by omega)) (fun _ => hf9 (by omega))
    · show Yl E K V 6 (fol 4) k fl H c (match prs K V f 5 d k with | .error e => .error e | .ok s => lpS K (prs K V f 5 d) opMul 160 s)
      refine y_level (d := d) (rs := 7) (Fs := fun _ _ => True) (fl' := false) hE (by decide) (by decide) (by decide) ?_ ?_ ?_ ?_ (hH.mono (by decide)) ho
      · intro v o e
        unfold opMul at e
        by_cases a : v = 42
        · rw [if_pos a] at e; cases e; subst a; decide
        · rw [if_neg a] at e; cases e
      · intro v Q R h e
        refine ⟨fun a => ?_, fun q => absurd q (by decide), fun q => absurd q (by decide), fun q => absurd q (by decide), fun q => absurd q (by decide)⟩
        unfold opMul at e; rw [if_pos a] at e; cases e
      · intro k H c hk ho hH
        exact (ih.2 d k false H c hd (by omega) hk ho (fun q => by cases q)).yl hH (by decide)
      · exact (ih.2 d k fl H c hd (by omega) hk ho (hf9 (by omega))).yl hH (by decide)
/-- an E up to its end: the yard's answer -/
theorem y_all {E k : Nat} {K V : Nat → Int32} {c : List Int32} (hE : tkE E K) (hk : k ≤ E) : (∀ w k', prs K V 40 0 0 k = .ok (w, k') → k < k' ∧ k' ≤ E ∧ (K k' = 59 → ∀ g, yg K V (g + 1 + (k' - k)) k (some true, [], c) = .ok (c ++ w, k' + 1)) ∧ (K k' ≠ 59 → ∀ g, yg K V (g + 1 + (k' - k)) k (some true, [], c) = .error k')) ∧ ∀ kf, prs K V 40 0 0 k = .error kf → k ≤ kf ∧ kf ≤ E ∧ ∀ g, yg K V (g + 1 + (kf - k)) k (some true, [], c) = .error kf := by
  have h := (y_prs (V := V) hE 40).1 0 0 k true [] c (by omega) (by omega) (by omega) hk rfl (fun s H' e => by cases e) (fun _ => rfl) (fun q => absurd q (by omega))
  refine ⟨fun w k' e => ?_, h.2⟩
  obtain ⟨a1, a2, Q, c', a3, a4, a5, a6⟩ := h.1 w k' e
  refine ⟨a1, a2, fun c59 g => ?_, fun c59 g => ?_⟩
  · have st : yst K V k' (none, Q ++ [], c') = .error (some (c ++ w)) := by
      show yN K k' (Q ++ []) c' = _
      unfold yN
      rw [if_pos c59, unw_at (l := 1) a5 (show topLe 0 [] from fun s H' e => by cases e) (by decide) a4, if_pos rfl]
    rw [a3, yg_en st]
  · rw [a3, yg_er (y_stuck a6 a5 (fun s H' e => by cases e) (fun _ => rfl) (fun q => absurd q c59))]
