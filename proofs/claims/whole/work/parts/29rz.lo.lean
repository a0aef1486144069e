/-! LOWEST -/
def loX (c n b : Int32) : Option Int64 := (fX9_commonDivisor c n hM0).bind fun d => if b = 0 then (if d = 0 then none else some (c / d).toInt64) else (if d = 0 then none else some (n / d).toInt64)
def loM (c n b : Int32) : Option Int64 := fX10_lowest c.toInt64 n.toInt64 b hM0
theorem lo_eq {c n b : Nat} (hc : c < 31) (hn : n < 30) (hb : b < 2) : ∃ v, loX (nI c) (nI (n + 1)) (nI b) = some v ∧ loM (nI c) (nI (n + 1)) (nI b) = some v := by
  have h := dc2 (N := 31) (K := 60) (p := fun c k => match loX (nI c) (nI (k / 2 + 1)) (nI (k % 2)), loM (nI c) (nI (k / 2 + 1)) (nI (k % 2)) with | some v, some w => decide (v = w) | _, _ => false) (by decide +kernel) hc (show 2 * n + b < 60 by omega)
  rw [show (2 * n + b) / 2 = n from by omega, show (2 * n + b) % 2 = b from by omega] at h
  revert h
  cases loX (nI c) (nI (n + 1)) (nI b) with
  | none => intro h; cases h
  | some v =>
    cases loM (nI c) (nI (n + 1)) (nI b) with
    | none => intro h; cases h
    | some w => intro h; exact ⟨v, rfl, by rw [of_decide_eq_true h]⟩
