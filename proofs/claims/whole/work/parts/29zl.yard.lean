/-! TEXT: the other one's yard, as lists -/
def rkS (s : Nat) : Nat := if s = 0 then 0 else if s = 11 then 1 else if s = 12 then 2 else if s = 13 then 3 else if s ≤ 15 then 4 else if s ≤ 17 then 5 else if s = 18 then 6 else 7
def opn : List Nat → Nat
  | [] => 0
  | s :: H => opn H + (if s = 0 ∨ s = 13 ∨ s = 19 then 1 else 0)
def unw (l : Nat) : List Nat → List Int32 → List Nat × List Int32
  | [], c => ([], c)
  | s :: H, c => if rkS s < l then (s :: H, c) else unw l H (c ++ [-(nI s)])
theorem unw_c (l s : Nat) (H : List Nat) (c : List Int32) : unw l (s :: H) c = if rkS s < l then (s :: H, c) else unw l H (c ++ [-(nI s)]) := rfl
def pcs (Q : List Nat) : List Int32 := Q.map (fun s => -(nI s))
theorem pcs_app (Q R : List Nat) : pcs (Q ++ R) = pcs Q ++ pcs R := List.map_append
def topLe (r : Nat) (H : List Nat) : Prop := ∀ s H', H = s :: H' → rkS s ≤ r
theorem topLe.cons {r s : Nat} {H : List Nat} (h : rkS s ≤ r) : topLe r (s :: H) := fun s' H' e => by cases e; exact h
theorem topLe.mono {r q : Nat} {H : List Nat} (h : topLe r H) (hr : r ≤ q) : topLe q H := fun s H' e => Nat.le_trans (h s H' e) hr
theorem unw_top {l r : Nat} {H : List Nat} (h : topLe r H) (hr : r < l) (c : List Int32) : unw l H c = (H, c) := by
  cases H with
  | nil => rfl
  | cons s H => rw [unw_c, if_pos (Nat.lt_of_le_of_lt (h s H rfl) hr)]
theorem unw_app {l : Nat} : ∀ (Q H : List Nat) (c : List Int32), (∀ q, q ∈ Q → l ≤ rkS q) → unw l (Q ++ H) c = unw l H (c ++ pcs Q)
  | [], H, c, _ => by rw [show pcs [] = [] from rfl, List.append_nil]; rfl
  | s :: Q, H, c, h => by
    rw [List.cons_append, unw_c, if_neg (Nat.not_lt.mpr (h s (List.mem_cons.mpr (Or.inl rfl)))), unw_app Q H _ (fun q hq => h q (List.mem_cons.mpr (Or.inr hq))), show pcs (s :: Q) = [-(nI s)] ++ pcs Q from rfl, List.append_assoc]
theorem unw_at {l r : Nat} {Q H : List Nat} {c c' : List Int32} (hQ : ∀ q, q ∈ Q → l ≤ rkS q) (hH : topLe r H) (hr : r < l) (e : c' ++ pcs Q = c) : unw l (Q ++ H) c' = (H, c) := by rw [unw_app Q H c' hQ, e, unw_top hH hr]
def sgS (v : Int32) : Nat := if v = 7 then 11 else if v = 8 then 12 else if v = 60 then 14 else if v = 61 then 15 else if v = 43 then 16 else if v = 45 then 17 else if v = 42 then 18 else 0
def lst (r : Nat) : Nat := if r = 4 then 5 else r
def rk4 : List Nat → Bool
  | [] => false
  | s :: _ => decide (rkS s = 4)
/-- one token: where an operand is wanted; where none is -/
def yO (K V : Nat → Int32) (k : Nat) (fl : Bool) (H : List Nat) (c : List Int32) : Except (Option (List Int32)) (Option Bool × List Nat × List Int32) :=
  if K k = 2 then .ok (none, unw 7 H (c ++ [V k])) else if K k = 3 then .ok (none, unw 7 H (c ++ [-1 - V k]))
  else if K k = 9 ∧ fl = true then (if opn H = 5 then .error none else .ok (some fl, 13 :: H, c))
  else if K k = 45 then (if opn H = 5 then .error none else .ok (some false, 19 :: H, c))
  else if K k = 40 then (if opn H = 5 then .error none else .ok (some true, 0 :: H, c))
  else .error none
def yN (K : Nat → Int32) (k : Nat) (H : List Nat) (c : List Int32) : Except (Option (List Int32)) (Option Bool × List Nat × List Int32) :=
  if K k = 59 then (if (unw 1 H c).1 = [] then .error (some (unw 1 H c).2) else .error none)
  else if K k = 41 then (match (unw 1 H c).1 with | [] => .error none | _ :: H' => .ok (none, unw 7 H' (unw 1 H c).2))
  else if sgS (K k) = 0 then .error none
  else if rkS (sgS (K k)) = 4 ∧ rk4 (unw 5 H c).1 = true then .error none
  else .ok (some (decide (sgS (K k) ≤ 12)), sgS (K k) :: (unw (lst (rkS (sgS (K k)))) H c).1, (unw (lst (rkS (sgS (K k)))) H c).2)
def yst (K V : Nat → Int32) (k : Nat) (s : Option Bool × List Nat × List Int32) : Except (Option (List Int32)) (Option Bool × List Nat × List Int32) := match s.1 with
  | some fl => yO K V k fl s.2.1 s.2.2
  | none => yN K k s.2.1 s.2.2
def yg (K V : Nat → Int32) : Nat → Nat → Option Bool × List Nat × List Int32 → Except Nat (List Int32 × Nat)
  | 0, k, _ => .error k
  | f + 1, k, s => match yst K V k s with
    | .error none => .error k
    | .error (some c) => .ok (c, k + 1)
    | .ok s' => yg K V f (k + 1) s'
theorem yg_ok {K V : Nat → Int32} {k g : Nat} {s s' : Option Bool × List Nat × List Int32} (h : yst K V k s = .ok s') : yg K V (g + 1) k s = yg K V g (k + 1) s' := by
  show (match yst K V k s with | .error none => Except.error k | .error (some c) => .ok (c, k + 1) | .ok s' => yg K V g (k + 1) s') = _
  rw [h]
theorem yg_er {K V : Nat → Int32} {k g : Nat} {s : Option Bool × List Nat × List Int32} (h : yst K V k s = .error none) : yg K V (g + 1) k s = .error k := by
  show (match yst K V k s with | .error none => Except.error k | .error (some c) => .ok (c, k + 1) | .ok s' => yg K V g (k + 1) s') = _
  rw [h]
theorem yg_en {K V : Nat → Int32} {k g : Nat} {c : List Int32} {s : Option Bool × List Nat × List Int32} (h : yst K V k s = .error (some c)) : yg K V (g + 1) k s = .ok (c, k + 1) := by
  show (match yst K V k s with | .error none => Except.error k | .error (some c) => .ok (c, k + 1) | .ok s' => yg K V g (k + 1) s') = _
  rw [h]
def amax (lv : Nat) : Nat := if lv = 0 then 0 else if lv = 1 then 1 else if lv = 2 then 3 else if lv = 3 then 4 else 5
def rmin (lv : Nat) : Nat := if lv = 0 then 1 else if lv = 1 then 2 else if lv = 2 then 3 else if lv = 3 then 5 else 6
/-- what can't stand behind a level's reading -/
def fol (lv : Nat) (v : Int32) (Q : List Nat) : Prop := v ≠ 42 ∧ (lv ≤ 3 → v ≠ 43 ∧ v ≠ 45) ∧ (lv ≤ 2 → (v = 60 ∨ v = 61) → ∃ Q1 s Q2, Q = Q1 ++ s :: Q2 ∧ (∀ q, q ∈ Q1 → 5 ≤ rkS q) ∧ rkS s = 4) ∧ (lv ≤ 1 → v ≠ 8) ∧ (lv = 0 → v ≠ 7)
theorem fol.app {lv : Nat} {v : Int32} {Q : List Nat} (h : fol lv v Q) (R : List Nat) : fol lv v (Q ++ R) := by
  obtain ⟨h1, h2, h3, h4, h5⟩ := h
  refine ⟨h1, h2, fun a b => ?_, h4, h5⟩
  obtain ⟨Q1, s, Q2, e, q1, q2⟩ := h3 a b
  exact ⟨Q1, s, Q2 ++ R, by rw [e, List.append_assoc, List.cons_append], q1, q2⟩
def Yl (E : Nat) (K V : Nat → Int32) (rq : Nat) (F : Int32 → List Nat → Prop) (k : Nat) (fl : Bool) (H : List Nat) (c : List Int32) (res : Except Nat (List Int32 × Nat)) : Prop := (∀ w k', res = .ok (w, k') → k < k' ∧ k' ≤ E ∧ ∃ (Q : List Nat) (c' : List Int32), (∀ g, yg K V (g + (k' - k)) k (some fl, H, c) = yg K V g k' (none, Q ++ H, c')) ∧ c' ++ pcs Q = c ++ w ∧ (∀ q, q ∈ Q → rq ≤ rkS q) ∧ F (K k') Q) ∧ ∀ kf, res = .error kf → k ≤ kf ∧ kf ≤ E ∧ ∀ g, yg K V (g + 1 + (kf - k)) k (some fl, H, c) = .error kf
def Y5 (E : Nat) (K V : Nat → Int32) (k : Nat) (fl : Bool) (H : List Nat) (c : List Int32) (res : Except Nat (List Int32 × Nat)) : Prop := (∀ w k', res = .ok (w, k') → k < k' ∧ k' ≤ E ∧ ∀ g, yg K V (g + (k' - k)) k (some fl, H, c) = yg K V g k' (none, unw 7 H (c ++ w))) ∧ ∀ kf, res = .error kf → k ≤ kf ∧ kf ≤ E ∧ ∀ g, yg K V (g + 1 + (kf - k)) k (some fl, H, c) = .error kf
theorem Yl.ok {E : Nat} {K V : Nat → Int32} {rq : Nat} {F : Int32 → List Nat → Prop} {k k' : Nat} {fl : Bool} {H Q : List Nat} {c c' w : List Int32} (h1 : k < k') (h2 : k' ≤ E) (h3 : ∀ g, yg K V (g + (k' - k)) k (some fl, H, c) = yg K V g k' (none, Q ++ H, c')) (h4 : c' ++ pcs Q = c ++ w) (h5 : ∀ q, q ∈ Q → rq ≤ rkS q) (h6 : F (K k') Q) : Yl E K V rq F k fl H c (.ok (w, k')) := ⟨fun w' k'' e => (by cases e; exact ⟨h1, h2, Q, c', h3, h4, h5, h6⟩), fun kf e => (by cases e)⟩
theorem Yl.bad {E : Nat} {K V : Nat → Int32} {rq : Nat} {F : Int32 → List Nat → Prop} {k kf : Nat} {fl : Bool} {H : List Nat} {c : List Int32} (h1 : k ≤ kf) (h2 : kf ≤ E) (h3 : ∀ g, yg K V (g + 1 + (kf - k)) k (some fl, H, c) = .error kf) : Yl E K V rq F k fl H c (.error kf) := ⟨fun w' k'' e => (by cases e), fun kf e => (by cases e; exact ⟨h1, h2, h3⟩)⟩
theorem Y5.ok {E : Nat} {K V : Nat → Int32} {k k' : Nat} {fl : Bool} {H : List Nat} {c w : List Int32} (h1 : k < k') (h2 : k' ≤ E) (h3 : ∀ g, yg K V (g + (k' - k)) k (some fl, H, c) = yg K V g k' (none, unw 7 H (c ++ w))) : Y5 E K V k fl H c (.ok (w, k')) := ⟨fun w' k'' e => (by cases e; exact ⟨h1, h2, h3⟩), fun kf e => (by cases e)⟩
theorem Y5.bad {E : Nat} {K V : Nat → Int32} {k kf : Nat} {fl : Bool} {H : List Nat} {c : List Int32} (h1 : k ≤ kf) (h2 : kf ≤ E) (h3 : ∀ g, yg K V (g + 1 + (kf - k)) k (some fl, H, c) = .error kf) : Y5 E K V k fl H c (.error kf) := ⟨fun w' k'' e => (by cases e), fun kf e => (by cases e; exact ⟨h1, h2, h3⟩)⟩
theorem Y5.yl {E : Nat} {K V : Nat → Int32} {k r : Nat} {fl : Bool} {H : List Nat} {c : List Int32} {res : Except Nat (List Int32 × Nat)} (h : Y5 E K V k fl H c res) (hH : topLe r H) (hr : r < 7) : Yl E K V 7 (fun _ _ => True) k fl H c res := by
  refine ⟨fun w k' e => ?_, h.2⟩
  obtain ⟨a1, a2, a3⟩ := h.1 w k' e
  refine ⟨a1, a2, [], c ++ w, fun g => ?_, List.append_nil _, fun q hq => absurd hq (List.not_mem_nil), trivial⟩
  rw [a3 g, unw_top hH hr]
  rfl
theorem opn_n {s : Nat} (h : opn [s] = 0) (H : List Nat) : opn (s :: H) = opn H := by
  simp only [opn] at h ⊢
  omega
/-- what stands behind an E, but its own end, is a fault -/
theorem y_stuck {K V : Nat → Int32} {k : Nat} {Q H : List Nat} {c' : List Int32} (hF : fol 0 (K k) Q) (hQ : ∀ q, q ∈ Q → 1 ≤ rkS q) (hH : topLe 0 H) (h41 : K k = 41 → H = []) (h59 : K k = 59 → H ≠ []) : yst K V k (none, Q ++ H, c') = .error none := by
  obtain ⟨f1, f2, f3, f4, f5⟩ := hF
  show yN K k (Q ++ H) c' = _
  unfold yN
  rw [unw_at hQ hH (by decide) rfl]
  by_cases c59 : K k = 59
  · rw [if_pos c59, if_neg (h59 c59)]
  rw [if_neg c59]
  by_cases c41 : K k = 41
  · rw [if_pos c41, h41 c41]
  rw [if_neg c41]
  by_cases c0 : sgS (K k) = 0
  · rw [if_pos c0]
  rw [if_neg c0]
  have h4 : K k = 60 ∨ K k = 61 := by
    unfold sgS at c0
    rw [if_neg (f5 rfl), if_neg (f4 (by decide))] at c0
    by_cases a : K k = 60
    · exact Or.inl a
    by_cases b : K k = 61
    · exact Or.inr b
    rw [if_neg a, if_neg b, if_neg (f2 (by decide)).1, if_neg (f2 (by decide)).2, if_neg f1] at c0
    exact absurd rfl c0
  obtain ⟨Q1, s, Q2, e, q1, q2⟩ := f3 (by decide) h4
  rw [if_pos]
  refine ⟨?_, ?_⟩
  · rcases h4 with a | a
    · rw [a]; decide
    · rw [a]; decide
  · rw [e, List.append_assoc, List.cons_append, unw_app Q1 _ c' q1, unw_c, if_pos (by omega)]
    exact decide_eq_true q2
