/-! what is known as the law begins -/
def cAt : Cond → List Bool → Cond
  | .and a _, false :: p => cAt a p
  | .and _ b, true :: p => cAt b p
  | c, _ => c
theorem cAt_b {args : Array Value} {s : State} : ∀ (p : List Bool) (T : Cond), T.before args s = true → (cAt T p).before args s = true
  | [], T, h => by cases T <;> exact h
  | b :: p, T, h => by
    cases T with
    | and x y =>
      rw [Cond.before_and, Bool.and_eq_true] at h
      cases b with
      | false => exact cAt_b p x h.1
      | true => exact cAt_b p y h.2
    | _ => exact h
def tmS (i : Nat) : Term := .string (h_txts.getD i ("", 0, "")).1 (h_txts.getD i ("", 0, "")).2.1
def cNG : Cond := Jvm.Cond.and given_1 narrow_1
def flHas (p : List Bool) (w : Cond) : Bool := decide (cAt cNG p = w)
def pEX : List (List Bool) := [[true, false, false, true, true, false, true, false, false], [true, false, true, true, false, false, false, false, false], [true, false, true, true, false, true, true, false, false], [true, false, true, true, true, false, true, false, false], [true, false, true, true, true, true, true, true, false], [true, true, false, false, false, true, false, true, true], [true, true, false, false, true, false, true, true, true, false], [true, true, false, true, false, false, false, true, true], [true, true, false, true, true, false, false, false, false], [true, true, false, true, true, true, true, true, true, true], [true, true, true, false, true, false, false, false, false], [true, true, true, false, true, true, true, true, true, false], [true, true, true, true, false, true, true, true, true, false]]
def pCO : List (List Bool) := [[true, false, false, true, true, false, true, false, true], [true, false, true, true, false, false, false, false, true], [true, false, true, true, false, true, true, false, true], [true, false, true, true, true, false, true, false, true], [true, false, true, true, true, true, true, true, true, false], [true, true, false, false, false, true, true, false, false], [true, true, false, false, true, false, true, true, true, true], [true, true, false, true, false, false, true, false, false], [true, true, false, true, true, false, false, false, true], [true, true, true, false, false, false, false, false, false], [true, true, true, false, true, false, false, false, true], [true, true, true, false, true, true, true, true, true, true], [true, true, true, true, false, true, true, true, true, true]]
def pAR : List (List Bool) := [[true, false, false, true, true, false, true, true, false], [true, false, true, true, false, false, false, true, false], [true, false, true, true, false, true, true, true, false], [true, false, true, true, true, false, true, true, false], [true, false, true, true, true, true, true, true, true, true], [true, true, false, false, false, true, true, false, true], [true, true, false, false, true, true, false, false, false], [true, true, false, true, false, false, true, false, true], [true, true, false, true, true, false, false, true, false], [true, true, true, false, false, false, false, false, true], [true, true, true, false, true, false, false, true, false], [true, true, true, true, false, false, false, false, false], [true, true, true, true, true, false, false, false, false]]
def pLE : List (List Bool) := [[true, false, false, true, true, false, true, true, true, false], [true, false, true, true, false, false, false, true, true], [true, false, true, true, false, true, true, true, true, false], [true, false, true, true, true, false, true, true, true, false], [true, true, false, false, false, false, false, false, false], [true, true, false, false, false, true, true, true, false], [true, true, false, false, true, true, false, false, true], [true, true, false, true, false, false, true, true, false], [true, true, false, true, true, false, false, true, true], [true, true, true, false, false, false, false, true, false], [true, true, true, false, true, false, false, true, true], [true, true, true, true, false, false, false, false, true], [true, true, true, true, true, false, false, false, true]]
def pEL : List (List (List Bool)) := [[[true, false, false, true, true, false, true, true, true, true], [true, false, false, true, true, true, false, false, false], [true, false, false, true, true, true, false, false, true], [true, false, false, true, true, true, false, true, false], [true, false, false, true, true, true, false, true, true], [true, false, false, true, true, true, true, false, false], [true, false, false, true, true, true, true, false, true], [true, false, false, true, true, true, true, true, false], [true, false, false, true, true, true, true, true, true, false], [true, false, false, true, true, true, true, true, true, true], [true, false, true, false, false, false, false, false, false], [true, false, true, false, false, false, false, false, true], [true, false, true, false, false, false, false, true, false], [true, false, true, false, false, false, false, true, true], [true, false, true, false, false, false, true, false, false], [true, false, true, false, false, false, true, false, true], [true, false, true, false, false, false, true, true, false], [true, false, true, false, false, false, true, true, true], [true, false, true, false, false, true, false, false, false], [true, false, true, false, false, true, false, false, true], [true, false, true, false, false, true, false, true, false], [true, false, true, false, false, true, false, true, true], [true, false, true, false, false, true, true, false, false], [true, false, true, false, false, true, true, false, true], [true, false, true, false, false, true, true, true, false], [true, false, true, false, false, true, true, true, true, false], [true, false, true, false, false, true, true, true, true, true], [true, false, true, false, true, false, false, false, false], [true, false, true, false, true, false, false, false, true], [true, false, true, false, true, false, false, true, false], [true, false, true, false, true, false, false, true, true], [true, false, true, false, true, false, true, false, false], [true, false, true, false, true, false, true, false, true], [true, false, true, false, true, false, true, true, false], [true, false, true, false, true, false, true, true, true, false], [true, false, true, false, true, false, true, true, true, true], [true, false, true, false, true, true, false, false, false], [true, false, true, false, true, true, false, false, true], [true, false, true, false, true, true, false, true, false], [true, false, true, false, true, true, false, true, true], [true, false, true, false, true, true, true, false, false], [true, false, true, false, true, true, true, false, true], [true, false, true, false, true, true, true, true, false], [true, false, true, false, true, true, true, true, true, false], [true, false, true, false, true, true, true, true, true, true]], [[true, false, true, true, false, false, true, false, false], [true, false, true, true, false, false, true, false, true], [true, false, true, true, false, false, true, true, false], [true, false, true, true, false, false, true, true, true, false], [true, false, true, true, false, false, true, true, true, true], [true, false, true, true, false, true, false, false, false], [true, false, true, true, false, true, false, false, true], [true, false, true, true, false, true, false, true, false]], [[true, false, true, true, false, true, true, true, true, true], [true, false, true, true, true, false, false, false, false], [true, false, true, true, true, false, false, false, true]], [[true, false, true, true, true, false, true, true, true, true], [true, false, true, true, true, true, false, false, false], [true, false, true, true, true, true, false, false, true], [true, false, true, true, true, true, false, true, false]], [[true, true, false, false, false, false, false, false, true], [true, true, false, false, false, false, false, true, false], [true, true, false, false, false, false, false, true, true], [true, true, false, false, false, false, true, false, false], [true, true, false, false, false, false, true, false, true], [true, true, false, false, false, false, true, true, false]], [[true, true, false, false, false, true, true, true, true, false], [true, true, false, false, false, true, true, true, true, true], [true, true, false, false, true, false, false, false, false], [true, true, false, false, true, false, false, false, true]], [[true, true, false, false, true, true, false, true, false], [true, true, false, false, true, true, false, true, true], [true, true, false, false, true, true, true, false, false], [true, true, false, false, true, true, true, false, true]], [[true, true, false, true, false, false, true, true, true, false], [true, true, false, true, false, false, true, true, true, true], [true, true, false, true, false, true, false, false, false], [true, true, false, true, false, true, false, false, true]], [[true, true, false, true, true, false, true, false, false], [true, true, false, true, true, false, true, false, true], [true, true, false, true, true, false, true, true, false], [true, true, false, true, true, false, true, true, true, false], [true, true, false, true, true, false, true, true, true, true]], [[true, true, true, false, false, false, false, true, true], [true, true, true, false, false, false, true, false, false], [true, true, true, false, false, false, true, false, true], [true, true, true, false, false, false, true, true, false], [true, true, true, false, false, false, true, true, true]], [[true, true, true, false, true, false, true, false, false], [true, true, true, false, true, false, true, false, true]], [[true, true, true, true, false, false, false, true, false], [true, true, true, true, false, false, false, true, true], [true, true, true, true, false, false, true, false, false]], [[true, true, true, true, true, false, false, true, false], [true, true, true, true, true, false, false, true, true], [true, true, true, true, true, false, true, false, false]]]
def pNE : List (List (List Bool)) := [[[], [true, false, true, true, false, true, false, true, true], [true, false, true, true, true, false, false, true, false], [true, false, true, true, true, true, false, true, true], [true, true, false, false, false, false, true, true, true], [true, true, false, false, true, false, false, true, false], [true, true, false, false, true, true, true, true, false], [true, true, false, true, false, true, false, true, false], [true, true, false, true, true, true, false, false, false], [true, true, true, false, false, true, false, false, false], [true, true, true, false, true, false, true, true, false], [true, true, true, true, false, false, true, false, true], [true, true, true, true, true, false, true, false, true]], [[], [], [true, false, true, true, true, false, false, true, true], [true, false, true, true, true, true, true, false, false], [true, true, false, false, false, true, false, false, false], [true, true, false, false, true, false, false, true, true], [true, true, false, false, true, true, true, true, true, false], [true, true, false, true, false, true, false, true, true], [true, true, false, true, true, true, false, false, true], [true, true, true, false, false, true, false, false, true], [true, true, true, false, true, false, true, true, true, false], [true, true, true, true, false, false, true, true, false], [true, true, true, true, true, false, true, true, false]], [[], [], [], [true, false, true, true, true, true, true, false, true], [true, true, false, false, false, true, false, false, true], [true, true, false, false, true, false, true, false, false], [true, true, false, false, true, true, true, true, true, true], [true, true, false, true, false, true, true, false, false], [true, true, false, true, true, true, false, true, false], [true, true, true, false, false, true, false, true, false], [true, true, true, false, true, false, true, true, true, true], [true, true, true, true, false, false, true, true, true, false], [true, true, true, true, true, false, true, true, true, false]], [[], [], [], [], [true, true, false, false, false, true, false, true, false], [true, true, false, false, true, false, true, false, true], [true, true, false, true, false, false, false, false, false], [true, true, false, true, false, true, true, false, true], [true, true, false, true, true, true, false, true, true], [true, true, true, false, false, true, false, true, true], [true, true, true, false, true, true, false, false, false], [true, true, true, true, false, false, true, true, true, true], [true, true, true, true, true, false, true, true, true, true]], [[], [], [], [], [], [true, true, false, false, true, false, true, true, false], [true, true, false, true, false, false, false, false, true], [true, true, false, true, false, true, true, true, false], [true, true, false, true, true, true, true, false, false], [true, true, true, false, false, true, true, false, false], [true, true, true, false, true, true, false, false, true], [true, true, true, true, false, true, false, false, false], [true, true, true, true, true, true, false, false, false]], [[], [], [], [], [], [], [true, true, false, true, false, false, false, true, false], [true, true, false, true, false, true, true, true, true, false], [true, true, false, true, true, true, true, false, true], [true, true, true, false, false, true, true, false, true], [true, true, true, false, true, true, false, true, false], [true, true, true, true, false, true, false, false, true], [true, true, true, true, true, true, false, false, true]], [[], [], [], [], [], [], [], [true, true, false, true, false, true, true, true, true, true], [true, true, false, true, true, true, true, true, false], [true, true, true, false, false, true, true, true, false], [true, true, true, false, true, true, false, true, true], [true, true, true, true, false, true, false, true, false], [true, true, true, true, true, true, false, true, false]], [[], [], [], [], [], [], [], [], [true, true, false, true, true, true, true, true, true, false], [true, true, true, false, false, true, true, true, true, false], [true, true, true, false, true, true, true, false, false], [true, true, true, true, false, true, false, true, true], [true, true, true, true, true, true, false, true, true]], [[], [], [], [], [], [], [], [], [], [true, true, true, false, false, true, true, true, true, true], [true, true, true, false, true, true, true, false, true], [true, true, true, true, false, true, true, false, false], [true, true, true, true, true, true, true, false, false]], [[], [], [], [], [], [], [], [], [], [], [true, true, true, false, true, true, true, true, false], [true, true, true, true, false, true, true, false, true], [true, true, true, true, true, true, true, false, true]], [[], [], [], [], [], [], [], [], [], [], [], [true, true, true, true, false, true, true, true, false], [true, true, true, true, true, true, true, true, false]], [[], [], [], [], [], [], [], [], [], [], [], [], [true, true, true, true, true, true, true, true, true, false]], [[], [], [], [], [], [], [], [], [], [], [], [], []]]
def pABE : List (List Bool) := [[true, false, false, false, false, true, false, true, false], [true, false, false, false, false, true, false, true, true], [true, false, false, false, false, true, true, false, false], [true, false, false, false, false, true, true, false, true], [true, false, false, false, false, true, true, true, false], [true, false, false, false, false, true, true, true, true, false]]
set_option maxRecDepth 100000 in
theorem fl_ex : (List.range 13).all (fun i => flHas (pEX.getD i []) (Cond.exactly (tmS i) "java/lang/String") && (flHas (pCO.getD i []) (Cond.eq (.field (tmS i) "java/lang/String" "coder" "B") (.int 0)) && (flHas (pAR.getD i []) (Cond.arrayOf (.field (tmS i) "java/lang/String" "value" "[B") .byte) && flHas (pLE.getD i []) (Cond.eq (.length (.field (tmS i) "java/lang/String" "value" "[B")) (.int (Int32.ofNat (h_lens.getD i 0))))))) = true := by decide +kernel
set_option maxRecDepth 100000 in
theorem fl_el : (List.range 13).all (fun i => (List.range (h_lens.getD i 0)).all (fun j => flHas ((pEL.getD i []).getD j []) (Cond.eq (.elem (.field (tmS i) "java/lang/String" "value" "[B") (.int (Int32.ofNat j))) (.int ((h_byts.getD i []).getD j 0))))) = true := by decide +kernel
set_option maxRecDepth 100000 in
theorem fl_ne : (List.range 13).all (fun i => (List.range 13).all (fun j => i == j || (flHas ((pNE.getD i []).getD j []) (Cond.not (Cond.eq (tmS i) (tmS j))) || flHas ((pNE.getD j []).getD i []) (Cond.not (Cond.eq (tmS j) (tmS i)))))) = true := by decide +kernel
set_option maxRecDepth 100000 in
theorem fl_ab : flHas [true, false, false, false, false, true, false, false, false] (Cond.arrayOf (.static "HatDownTheStreet$Kinds" "ABOVE" "[I") .int) = true ∧ flHas [true, false, false, false, false, true, false, false, true] (Cond.eq (.length (.static "HatDownTheStreet$Kinds" "ABOVE" "[I")) (.int 6)) = true ∧ (List.range 6).all (fun j => flHas (pABE.getD j []) (Cond.eq (.elem (.static "HatDownTheStreet$Kinds" "ABOVE" "[I") (.int (Int32.ofNat j))) (.int (h_abvI j)))) = true ∧ flHas [true, false, false, false, false, false, false, true, false] (Cond.eq (.static "java/lang/String" "COMPACT_STRINGS" "Z") (.int 1)) = true ∧ flHas [true, false, false, false, false, false, false, true, true] (Cond.isRef (.static "jdk/internal/util/Preconditions" "SIOOBE_FORMATTER" "Ljava/util/function/BiFunction;")) = true := by decide +kernel
theorem tl1_in {w : Cond} (j : Nat) (h : tables_1_1[j]? = some w) : w ∈ lw_tbl := by
  have h1 := List.mem_of_getElem? h
  unfold lw_tbl tables_1
  simp [h1]
theorem tl2_in {w : Cond} (j : Nat) (h : tables_1_2[j]? = some w) : w ∈ lw_tbl := by
  have h1 := List.mem_of_getElem? h
  unfold lw_tbl tables_1
  simp [h1]
theorem tl3_in {w : Cond} (j : Nat) (h : tables_1_3[j]? = some w) : w ∈ lw_tbl := by
  have h1 := List.mem_of_getElem? h
  unfold lw_tbl tables_1
  simp [h1]
theorem tl4_in {w : Cond} (j : Nat) (h : tables_1_4[j]? = some w) : w ∈ lw_tbl := by
  have h1 := List.mem_of_getElem? h
  unfold lw_tbl tables_1
  simp [h1]
theorem tl5_in {w : Cond} (j : Nat) (h : tables_1_5[j]? = some w) : w ∈ lw_tbl := by
  have h1 := List.mem_of_getElem? h
  unfold lw_tbl tables_1
  simp [h1]
theorem tl6_in {w : Cond} (j : Nat) (h : tables_1_6[j]? = some w) : w ∈ lw_tbl := by
  have h1 := List.mem_of_getElem? h
  unfold lw_tbl tables_1
  simp [h1]
theorem tl7_in {w : Cond} (j : Nat) (h : tables_1_7[j]? = some w) : w ∈ lw_tbl := by
  have h1 := List.mem_of_getElem? h
  unfold lw_tbl tables_1
  simp [h1]
theorem lw_t0 : Cond.stringRef (h_txts.getD 0 ("", 0, "")).1 (h_txts.getD 0 ("", 0, "")).2.1 (h_txts.getD 0 ("", 0, "")).2.2 ∈ lw_tbl := tl2_in 40 rfl
theorem lw_t1 : Cond.stringRef (h_txts.getD 1 ("", 0, "")).1 (h_txts.getD 1 ("", 0, "")).2.1 (h_txts.getD 1 ("", 0, "")).2.2 ∈ lw_tbl := tl2_in 130 rfl
theorem lw_t2 : Cond.stringRef (h_txts.getD 2 ("", 0, "")).1 (h_txts.getD 2 ("", 0, "")).2.1 (h_txts.getD 2 ("", 0, "")).2.2 ∈ lw_tbl := tl2_in 137 rfl
theorem lw_t3 : Cond.stringRef (h_txts.getD 3 ("", 0, "")).1 (h_txts.getD 3 ("", 0, "")).2.1 (h_txts.getD 3 ("", 0, "")).2.2 ∈ lw_tbl := tl2_in 138 rfl
theorem lw_t4 : Cond.stringRef (h_txts.getD 4 ("", 0, "")).1 (h_txts.getD 4 ("", 0, "")).2.1 (h_txts.getD 4 ("", 0, "")).2.2 ∈ lw_tbl := tl2_in 139 rfl
theorem lw_t5 : Cond.stringRef (h_txts.getD 5 ("", 0, "")).1 (h_txts.getD 5 ("", 0, "")).2.1 (h_txts.getD 5 ("", 0, "")).2.2 ∈ lw_tbl := tl2_in 140 rfl
theorem lw_t6 : Cond.stringRef (h_txts.getD 6 ("", 0, "")).1 (h_txts.getD 6 ("", 0, "")).2.1 (h_txts.getD 6 ("", 0, "")).2.2 ∈ lw_tbl := tl2_in 141 rfl
theorem lw_t7 : Cond.stringRef (h_txts.getD 7 ("", 0, "")).1 (h_txts.getD 7 ("", 0, "")).2.1 (h_txts.getD 7 ("", 0, "")).2.2 ∈ lw_tbl := tl2_in 146 rfl
theorem lw_t8 : Cond.stringRef (h_txts.getD 8 ("", 0, "")).1 (h_txts.getD 8 ("", 0, "")).2.1 (h_txts.getD 8 ("", 0, "")).2.2 ∈ lw_tbl := tl2_in 147 rfl
theorem lw_t9 : Cond.stringRef (h_txts.getD 9 ("", 0, "")).1 (h_txts.getD 9 ("", 0, "")).2.1 (h_txts.getD 9 ("", 0, "")).2.2 ∈ lw_tbl := tl2_in 148 rfl
theorem lw_t10 : Cond.stringRef (h_txts.getD 10 ("", 0, "")).1 (h_txts.getD 10 ("", 0, "")).2.1 (h_txts.getD 10 ("", 0, "")).2.2 ∈ lw_tbl := tl2_in 149 rfl
theorem lw_t11 : Cond.stringRef (h_txts.getD 11 ("", 0, "")).1 (h_txts.getD 11 ("", 0, "")).2.1 (h_txts.getD 11 ("", 0, "")).2.2 ∈ lw_tbl := tl2_in 150 rfl
theorem lw_t12 : Cond.stringRef (h_txts.getD 12 ("", 0, "")).1 (h_txts.getD 12 ("", 0, "")).2.1 (h_txts.getD 12 ("", 0, "")).2.2 ∈ lw_tbl := tl2_in 151 rfl
theorem lw_nst : ∀ q ∈ h_nest, Cond.methodLinkNest q.1 q.2.1 q.2.2.1 q.2.2.2 ∈ lw_tbl := List.forall_mem_cons.mpr ⟨tl1_in 37 rfl, List.forall_mem_cons.mpr ⟨tl1_in 60 rfl, List.forall_mem_cons.mpr ⟨tl1_in 124 rfl, List.forall_mem_cons.mpr ⟨tl1_in 130 rfl, List.forall_mem_cons.mpr ⟨tl1_in 180 rfl, List.forall_mem_cons.mpr ⟨tl1_in 185 rfl, List.forall_mem_cons.mpr ⟨tl1_in 231 rfl, List.forall_mem_cons.mpr ⟨tl2_in 19 rfl, List.forall_mem_cons.mpr ⟨tl2_in 21 rfl, List.forall_mem_cons.mpr ⟨tl3_in 19 rfl, List.forall_mem_cons.mpr ⟨tl3_in 74 rfl, List.forall_mem_cons.mpr ⟨tl3_in 77 rfl, List.forall_mem_cons.mpr ⟨tl3_in 91 rfl, List.forall_mem_cons.mpr ⟨tl3_in 166 rfl, List.forall_mem_cons.mpr ⟨tl3_in 182 rfl, List.forall_mem_cons.mpr ⟨tl3_in 197 rfl, List.forall_mem_cons.mpr ⟨tl3_in 206 rfl, List.forall_mem_cons.mpr ⟨tl4_in 66 rfl, List.forall_mem_cons.mpr ⟨tl4_in 68 rfl, fun _ h => absurd h List.not_mem_nil⟩⟩⟩⟩⟩⟩⟩⟩⟩⟩⟩⟩⟩⟩⟩⟩⟩⟩⟩
theorem lw_m1 : Cond.arrayOver (.object "HatDownTheStreet$Hat") ∈ lw_tbl := tl1_in 33 rfl
theorem lw_m2 : Cond.arrayOver (.object "HatDownTheStreet$Catcher") ∈ lw_tbl := tl1_in 35 rfl
theorem lw_m3 : Cond.arrayOver (.object "HatDownTheStreet$Law") ∈ lw_tbl := tl1_in 121 rfl
theorem lw_m4 : Cond.arrayOver (.object "HatDownTheStreet$Sheet") ∈ lw_tbl := tl1_in 177 rfl
theorem lw_m5 : Cond.arrayOver (.array .int) ∈ lw_tbl := tl1_in 236 rfl
theorem lw_m6 : Cond.laysStatic "HatDownTheStreet$Kinds" "ABOVE" "[I" ∈ lw_tbl := tl3_in 205 rfl
theorem lw_m7 : Cond.initialized "HatDownTheStreet$Kinds" ∈ lw_tbl := tl1_in 17 rfl
theorem lw_m8 : Cond.laysStatic "java/lang/String" "COMPACT_STRINGS" "Z" ∈ lw_tbl := tl2_in 50 rfl
theorem lw_m9 : Cond.initialized "java/lang/String" ∈ lw_tbl := tl1_in 10 rfl
theorem lw_m10 : Cond.laysStatic "jdk/internal/util/Preconditions" "SIOOBE_FORMATTER" "Ljava/util/function/BiFunction;" ∈ lw_tbl := tl2_in 66 rfl
theorem lw_m11 : Cond.initialized "jdk/internal/util/Preconditions" ∈ lw_tbl := tl1_in 12 rfl
theorem uw_all : ∀ (c : Nat) (q : vw_C), vwCl[c]? = some q → (∀ w ∈ u_ws q.1 q.2.1 q.2.2, w ∈ h_tbl) ∧ Cond.instantiable q.1 q.2.2 ∈ h_tbl := by
  intro c q h
  have hc : c < 10 := (List.getElem?_eq_some_iff.mp h).1
  rcases (by omega : c = 0 ∨ c = 1 ∨ c = 2 ∨ c = 3 ∨ c = 4 ∨ c = 5 ∨ c = 6 ∨ c = 7 ∨ c = 8 ∨ c = 9) with rfl | rfl | rfl | rfl | rfl | rfl | rfl | rfl | rfl | rfl
  · cases h; exact ⟨uw_X0, it_X0⟩
  · cases h; exact ⟨uw_X1, it_X1⟩
  · cases h; exact ⟨uw_X2, it_X2⟩
  · cases h; exact ⟨uw_X4, it_X4⟩
  · cases h; exact ⟨uw_X5, it_X5⟩
  · cases h; exact ⟨uw_X6, it_X6⟩
  · cases h; exact ⟨uw_X7, it_X7⟩
  · cases h; exact ⟨uw_X8, it_X8⟩
  · cases h; exact ⟨uw_X9, it_X9⟩
  · cases h; exact ⟨uw_X10, it_X10⟩
theorem arr_o {s : State} {args : Array Value} {C : String} (h : (Cond.arrayOver (.object C)).before args s = true) : ∃ cA : ClassId, ArrOfT s cA (.object C) ∧ va_RA s cA (.object C) := by
  obtain ⟨comp, cA, kA, h1, -, h2, h3, h4⟩ := Cond.arrayOver_spec h
  exact ⟨cA, fun N z => ⟨(fun k h => by cases h), kA, h2, comp, h3⟩, kA, comp, h2, h3, h1, h4⟩
theorem law_cF {s : State} {args : Array Value} (hts : ∀ w ∈ lw_tbl, w.before args s = true) (hg : (Jvm.Cond.and given_1 narrow_1).before args s = true) : ∃ dd : hDD, cF dd s.heap.size s := by
  have hA : ∀ a : Nat, a < s.heap.size → ¬ s.heap.size ≤ a := fun a h1 h2 => Nat.not_le.mpr h1 h2
  have hh : ∀ w ∈ h_tbl, w.before args s = true := fun w hw => hts w (List.mem_filter.mp hw).1
  have hfl : ∀ {p : List Bool} {w : Cond}, flHas p w = true → w.before args s = true := fun {p w} hw => by
    have e : cAt cNG p = w := of_decide_eq_true hw
    rw [← e]
    exact cAt_b p cNG hg
  -- the classes
  have h0 : ∀ c : Nat, ∃ g : ClassId × (Nat → Nat), ∀ q : vw_C, vwCl[c]? = some q → u_Kn s q.1 q.2.1 q.2.2 g.1 g.2 := by
    intro c
    cases hc : vwCl[c]? with
    | none => exact ⟨(default, fun _ => 0), fun q h => by cases h⟩
    | some q =>
      obtain ⟨u1, u2⟩ := uw_all c q hc
      obtain ⟨cC, iS, h⟩ := u_known hh u1 (hh _ u2)
      exact ⟨(cC, iS), fun q' h' => by cases h'; exact h⟩
  obtain ⟨G, hG⟩ := Classical.axiomOfChoice h0
  -- the arrays' classes
  obtain ⟨c11, a11, r11⟩ := arr_o (hts _ lw_m1)
  obtain ⟨c12, a12, r12⟩ := arr_o (hts _ lw_m2)
  obtain ⟨c13, a13, r13⟩ := arr_o (hts _ lw_m3)
  obtain ⟨c14, a14, r14⟩ := arr_o (hts _ lw_m4)
  obtain ⟨c10, kB, q10, b1, b2, b3⟩ := Cond.arrayClass_spec (hh _ ac_int)
  obtain ⟨c10', c15, kA, d1, -, d2, d3, d4⟩ := arrayOverA_spec (hts _ lw_m5)
  have e10 : c10' = c10 := Option.some.inj (d1.symm.trans b1)
  subst e10
  -- the texts
  obtain ⟨adK, adV, hS, hE⟩ := vk_Sof (args := args) (s := s) (N := 13) (tm := tmS) (len := h_lens) (byt := h_byts) (A := fun q => s.heap.size ≤ q)
    (fun i hi => by have := h_forall (N := 13) (p := fun i => Nat.blt (h_lens.getD i 0) (2 ^ 31)) (by decide +kernel) hi; exact Nat.le_of_ble_eq_true this)
    (fun i hi => by have := h_forall fl_ex hi; simp only [Bool.and_eq_true] at this; exact hfl this.1)
    (fun i hi => by have := h_forall fl_ex hi; simp only [Bool.and_eq_true] at this; exact hfl this.2.1)
    (fun i hi => by have := h_forall fl_ex hi; simp only [Bool.and_eq_true] at this; exact hfl this.2.2.1)
    (fun i hi => by have := h_forall fl_ex hi; simp only [Bool.and_eq_true] at this; exact hfl this.2.2.2)
    (fun i hi j hj => hfl (h_forall (h_forall fl_el hi) hj))
    (fun i j hi hj hij => by
      have := h_forall (h_forall fl_ne hi) hj
      simp only [Bool.or_eq_true, beq_iff_eq] at this
      rcases this with h | h | h
      · exact absurd h hij
      · exact Or.inl (hfl h)
      · exact Or.inr (hfl h)) hA
  -- ABOVE and the JDK's statics
  obtain ⟨f1, f2, f3, f4, f5⟩ := fl_ab
  obtain ⟨t, ht, hT⟩ := va_Tof (args := args) (s := s) (tm := .static "HatDownTheStreet$Kinds" "ABOVE" "[I") (ty := .int) (N := 6) (f := h_abv) (A := fun q => s.heap.size ≤ q) (by decide) (hfl f1) (va_eqt (hfl f2)) (fun j hj => va_eqt (hfl (h_forall f3 hj))) hA
  obtain ⟨v, v1, v2⟩ := Cond.isRef_spec (hfl f5)
  obtain ⟨o, rfl⟩ : ∃ o : Option Nat, v = va_rf o := by
    cases v with
    | null => exact ⟨none, rfl⟩
    | ref a => exact ⟨some a, rfl⟩
    | _ => cases v2
  let cy : Nat → ClassId := fun t => if t = 10 then c10' else if t = 11 then c11 else if t = 12 then c12 else if t = 13 then c13 else if t = 14 then c14 else c15
  refine ⟨((fun c => (G c).1, fun c => (G c).2), cy, t, adK, adV), ⟨fun c q h => hG c q h, fun k q hk => ?_⟩, fun q hq => ?_, ⟨va_Zref (hts _ lw_m6) (hts _ lw_m7) ht hA, hT, hS, va_Zof (hts _ lw_m8) (hts _ lw_m9) (va_eqt (hfl f4)) hA, o, va_Zof (hts _ lw_m10) (hts _ lw_m11) v1 hA⟩, fun i q hi => ?_, ⟨va_AO.of (hts _ lw_m1), va_AO.of (hts _ lw_m2), va_AO.of (hts _ lw_m3), va_AO.of (hts _ lw_m4)⟩, kA, kB, q10, d4, d2, d3, b2, b3⟩
  · have hk6 : k < 6 := (List.getElem?_eq_some_iff.mp hk).1
    rcases (by omega : k = 0 ∨ k = 1 ∨ k = 2 ∨ k = 3 ∨ k = 4 ∨ k = 5) with rfl | rfl | rfl | rfl | rfl | rfl
    · cases hk; exact ⟨fun N z => ⟨(fun k h => by cases h), kB, b2, q10, b3⟩, b1⟩
    · cases hk; exact ⟨a11, r11⟩
    · cases hk; exact ⟨a12, r12⟩
    · cases hk; exact ⟨a13, r13⟩
    · cases hk; exact ⟨a14, r14⟩
    · cases hk; exact ⟨fun N z => ⟨(fun k h => by cases h), kA, d2, c10', d3⟩, d4⟩
  · exact va_Nw.of rfl (hts _ (lw_nst q hq))
  · have hi13 : i < 13 := (List.getElem?_eq_some_iff.mp hi).1
    have e : h_txts.getD i ("", 0, "") = q := by rw [List.getD_eq_getElem?_getD, hi]; rfl
    have h1 : Cond.stringRef (h_txts.getD i ("", 0, "")).1 (h_txts.getD i ("", 0, "")).2.1 (h_txts.getD i ("", 0, "")).2.2 ∈ lw_tbl := by
      rcases (by omega : i = 0 ∨ i = 1 ∨ i = 2 ∨ i = 3 ∨ i = 4 ∨ i = 5 ∨ i = 6 ∨ i = 7 ∨ i = 8 ∨ i = 9 ∨ i = 10 ∨ i = 11 ∨ i = 12) with rfl | rfl | rfl | rfl | rfl | rfl | rfl | rfl | rfl | rfl | rfl | rfl | rfl
      · exact lw_t0
      · exact lw_t1
      · exact lw_t2
      · exact lw_t3
      · exact lw_t4
      · exact lw_t5
      · exact lw_t6
      · exact lw_t7
      · exact lw_t8
      · exact lw_t9
      · exact lw_t10
      · exact lw_t11
      · exact lw_t12
    have h2 := hE i hi13
    unfold tmS at h2
    rw [e] at h1 h2
    exact vk_R.of (hts _ h1) h2
