/-! ORDER: the list of all orders -/
def lastL (nx : Nat → Nat → Nat → Option Nat) (ps : Nat → Nat → Nat) : List Nat → Nat → Nat → Option Nat
  | [], _, t => some t
  | i :: r, c, t => match nx i c t with | none => none | some n => lastL nx ps r (ps i n) n
def updB (B : Int32 × Option Nat) (o : Int32) (v : Option Nat) : Int32 × Option Nat := if soon v B.2 = true then (o, v) else B
def ordL : List Nat → Nat → Nat
  | [], o => o
  | i :: r, o => ordL r (10 * o + i + 1)
def prm (H : Nat) : Nat → Nat → List (List Nat)
  | 0, _ => [[]]
  | k + 1, m => (List.range H).flatMap (fun i => if m.testBit i = true then [] else (prm H k (m ||| 2 ^ i)).map (fun r => i :: r))
theorem prm_s (H k m : Nat) : prm H (k + 1) m = (List.range H).flatMap (fun i => if m.testBit i = true then [] else (prm H k (m ||| 2 ^ i)).map (fun r => i :: r)) := rfl
def cnt (H m : Nat) : Nat := ((List.range H).filter (fun i => !m.testBit i)).length
def stpB (nx : Nat → Nat → Nat → Option Nat) (ps : Nat → Nat → Nat) (o c t : Nat) (B : Int32 × Option Nat) (r : List Nat) : Int32 × Option Nat := updB B (nI (ordL r o)) (lastL nx ps r c t)
theorem fold_none {nx : Nat → Nat → Nat → Option Nat} {ps : Nat → Nat → Nat} {o c t i : Nat} (h : nx i c t = none) : ∀ (L : List (List Nat)) (B : Int32 × Option Nat), (L.map (fun r => i :: r)).foldl (stpB nx ps o c t) B = B
  | [], _ => rfl
  | r :: L, B => by
    rw [List.map_cons, List.foldl_cons, fold_none h L]
    unfold stpB updB
    have : lastL nx ps (i :: r) c t = none := by
      show (match nx i c t with | none => none | some n => lastL nx ps r (ps i n) n) = none
      rw [h]
    rw [this]
    exact if_neg (by show ¬ false = true; decide)
theorem fold_some {nx : Nat → Nat → Nat → Option Nat} {ps : Nat → Nat → Nat} {o c t i n : Nat} (h : nx i c t = some n) : ∀ (L : List (List Nat)) (B : Int32 × Option Nat), (L.map (fun r => i :: r)).foldl (stpB nx ps o c t) B = L.foldl (stpB nx ps (10 * o + i + 1) (ps i n) n) B
  | [], _ => rfl
  | r :: L, B => by
    rw [List.map_cons, List.foldl_cons, List.foldl_cons, fold_some h L]
    have : stpB nx ps o c t B (i :: r) = stpB nx ps (10 * o + i + 1) (ps i n) n B r := by
      unfold stpB
      have h2 : lastL nx ps (i :: r) c t = lastL nx ps r (ps i n) n := by
        show (match nx i c t with | none => none | some n => lastL nx ps r (ps i n) n) = _
        rw [h]
      rw [h2]
      rfl
    rw [this]
def okN (H : Nat) : Nat → Nat → Nat → Bool
  | 0, _, N => N == 0
  | k + 1, s, N => Nat.ble 1 (N % 10) && (Nat.ble (N % 10) H && (!s.testBit (N % 10) && okN H k (s ||| 2 ^ (N % 10)) (N / 10)))
theorem okN_s (H k s N : Nat) : okN H (k + 1) s N = (Nat.ble 1 (N % 10) && (Nat.ble (N % 10) H && (!s.testBit (N % 10) && okN H k (s ||| 2 ^ (N % 10)) (N / 10)))) := rfl
def digs (N : Nat) : Nat → List Nat
  | 0 => []
  | k + 1 => ((N / 10 ^ k) % 10 - 1) :: digs N k
theorem ord_all : ((List.range 5).all fun H => Nat.beq H 0 || (decide ((prm H H 0).map (fun r => ordL r 0) = (List.range 5000).filter (okN H H 0)) && (prm H H 0).all (fun r => decide (digs (ordL r 0) H = r)))) = true := by decide +kernel
theorem cnt_all : ((List.range 5).all fun H => (List.range 16).all fun m => !Nat.blt m (2 ^ H) || (decide ((cnt H m = 0) ↔ m = 2 ^ H - 1) && (List.range H).all (fun i => m.testBit i || (Nat.beq (cnt H (m ||| 2 ^ i) + 1) (cnt H m) && Nat.blt (m ||| 2 ^ i) (2 ^ H))))) = true := by decide +kernel
theorem msk_all : ((List.range 16).all fun m => (List.range 4).all fun i => decide ((h_ushr (nI m) (nI i)) &&& 1 = if m.testBit i = true then 1 else 0) && decide (nI m ||| (1 <<< (nI i &&& 31)) = nI (m ||| 2 ^ i))) = true := by decide +kernel
theorem full_all : ((List.range 5).all fun H => decide ((1 : Int32) <<< (nI H &&& 31) - 1 = nI (2 ^ H - 1))) = true := by decide +kernel
