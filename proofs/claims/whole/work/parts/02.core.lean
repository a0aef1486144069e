/-! THE MEMORY OF A SYSTEM: cells by number, slots by number, an int each; a layout says what each cell is -/
abbrev hMem : Type := Nat → Nat → Int32
def h_up (M : hMem) (k j : Nat) (v : Int32) : hMem := fun a => if a = k then (fun i => if i = j then v else M k i) else M a
theorem h_up_same (M : hMem) (k j : Nat) (v : Int32) : h_up M k j v k j = v := by simp [h_up]
theorem h_up_row (M : hMem) (k j : Nat) (v : Int32) {a : Nat} (h : a ≠ k) : h_up M k j v a = M a := by simp [h_up, h]
theorem h_up_slot (M : hMem) (k j : Nat) (v : Int32) {i : Nat} (a : Nat) (h : i ≠ j) : h_up M k j v a i = M a i := by
  by_cases ha : a = k
  · subst ha; simp [h_up, h]
  · simp [h_up, ha]
/-- what each cell is (its kind, its length), to which cell each fixed reference leads, how many cells -/
abbrev hLay : Type := (Nat → Nat × Nat) × (Nat → Nat → Nat) × Nat
abbrev hDD : Type := va_G × (Nat → ClassId) × Nat × (Nat → Nat) × (Nat → Nat)
def h_nf (t : Nat) : Nat := match t with
  | 0 => 3 | 1 => 6 | 2 => 3 | 3 => 4 | 4 => 9 | 5 => 3 | 6 => 8 | 7 => 11 | 8 => 10 | 9 => 45 | _ => 0
/-- a field's sort: 0 a number, 1 a fixed reference, 2 a reference that changes -/
def h_kd (t j : Nat) : Nat := match t with
  | 1 => (match j with | 0 => 1 | _ => 0)
  | 3 => (match j with | 3 => 0 | _ => 1)
  | 4 => (match j with | 0 => 0 | 5 => 0 | 6 => 0 | 7 => 0 | 8 => 2 | _ => 1)
  | 5 => (match j with | 2 => 1 | _ => 0)
  | 6 => (match j with | 5 => 0 | 6 => 0 | 7 => 0 | _ => 1)
  | 7 => (match j with | 6 => 2 | 7 => 1 | 8 => 1 | 9 => 1 | 10 => 1 | _ => 0)
  | 8 => (match j with | 2 => 0 | 4 => 0 | _ => 1)
  | 9 => (match j with | 3 => 0 | 8 => 0 | 11 => 0 | 14 => 0 | 15 => 0 | 16 => 0 | 17 => 0 | 18 => 0 | 19 => 0 | 25 => 0 | 26 => 0 | 27 => 0 | 28 => 0 | 31 => 0 | 32 => 0 | 33 => 0 | 36 => 0 | 37 => 0 | 38 => 0 | 39 => 0 | _ => 1)
  | _ => 0
/-- a reference that leads to cell 0 is null: no cell leads there -/
def h_val (b : Nat) (rf : Nat → Nat → Nat) (t k j : Nat) (v : Int32) : Value := if h_kd t j = 0 then .int v else if h_kd t j = 1 then (if rf k j = 0 then .null else .ref (b + rf k j)) else (if v = 0 then .null else .ref (b + v.toNatClampNeg))
def h_cell (Y : hLay) (cy : Nat → ClassId) (b : Nat) (M : hMem) (k : Nat) : va_E :=
  if (Y.1 k).1 < 10 then .inr ((Y.1 k).1, (List.range (h_nf (Y.1 k).1)).map (fun j => h_val b Y.2.1 (Y.1 k).1 k j (M k j)))
  else if (Y.1 k).1 = 10 then .inl (cy 10, (Y.1 k).2, .inl (M k))
  else .inl (cy (Y.1 k).1, (Y.1 k).2, .inr (.inr (.inr (.inr (fun j => if Y.2.1 k j = 0 then none else some (b + Y.2.1 k j))))))
def h_pw (Y : hLay) (cy : Nat → ClassId) (b : Nat) (M : hMem) : va_W := (List.range Y.2.2).map fun k => (b + k, h_cell Y cy b M k)
def h_A (b : Nat) (Y : hLay) : Nat → Prop := fun q => b ≤ q ∧ q < b + Y.2.2
theorem h_pw_get (Y : hLay) (cy : Nat → ClassId) (b : Nat) (M : hMem) {k : Nat} (h : k < Y.2.2) : (h_pw Y cy b M)[k]? = some (b + k, h_cell Y cy b M k) := by
  unfold h_pw
  rw [List.getElem?_map, List.getElem?_range h]
  rfl
theorem h_pw_at {Y : hLay} {cy : Nat → ClassId} {b : Nat} {M : hMem} {i : Nat} {q : Nat × va_E} (h : (h_pw Y cy b M)[i]? = some q) : i < Y.2.2 ∧ q = (b + i, h_cell Y cy b M i) := by
  have hi : i < Y.2.2 := by
    have := (List.getElem?_eq_some_iff.mp h).1
    simpa [h_pw] using this
  rw [h_pw_get Y cy b M hi] at h
  exact ⟨hi, (Option.some.inj h).symm⟩
theorem h_pw_D (Y : hLay) (cy : Nat → ClassId) (b : Nat) (M : hMem) : va_D (h_A b Y) (h_pw Y cy b M) := by
  refine ⟨fun i j p q hi hj he => ?_, fun k q hk => ?_⟩
  · obtain ⟨-, rfl⟩ := h_pw_at hi
    obtain ⟨-, rfl⟩ := h_pw_at hj
    simp only at he
    omega
  · obtain ⟨h, rfl⟩ := h_pw_at hk
    exact ⟨Nat.le_add_right _ _, by simp only; omega⟩
theorem h_cell_row (Y : hLay) (cy : Nat → ClassId) (b : Nat) {M M' : hMem} {k : Nat} (h : M' k = M k) : h_cell Y cy b M' k = h_cell Y cy b M k := by
  unfold h_cell
  rw [h]
theorem h_pw_set (Y : hLay) (cy : Nat → ClassId) (b : Nat) (M : hMem) {M' : hMem} {k : Nat} {x : Nat × va_E} (hx : x = (b + k, h_cell Y cy b M' k)) (h : ∀ a, a ≠ k → M' a = M a) : (h_pw Y cy b M).set k x = h_pw Y cy b M' := by
  subst hx
  apply List.ext_getElem?
  intro i
  by_cases hik : i = k
  · subst hik
    by_cases hi : i < Y.2.2
    · rw [List.getElem?_set_self (by simpa [h_pw] using hi), h_pw_get Y cy b M' hi]
    · rw [List.getElem?_eq_none (by simp [h_pw]; omega), List.getElem?_eq_none (by simp [h_pw]; omega)]
  · rw [List.getElem?_set_ne (Ne.symm hik)]
    by_cases hi : i < Y.2.2
    · rw [h_pw_get Y cy b M hi, h_pw_get Y cy b M' hi, h_cell_row Y cy b (h i hik)]
    · rw [List.getElem?_eq_none (by simp [h_pw]; omega), List.getElem?_eq_none (by simp [h_pw]; omega)]
theorem h_cell_obj {Y : hLay} {cy : Nat → ClassId} {b : Nat} {M : hMem} {k t : Nat} (h : (Y.1 k).1 = t) (ht : t < 10) : h_cell Y cy b M k = .inr (t, (List.range (h_nf t)).map (fun j => h_val b Y.2.1 t k j (M k j))) := by
  subst h
  unfold h_cell
  rw [if_pos ht]
theorem h_cell_int {Y : hLay} {cy : Nat → ClassId} {b : Nat} {M : hMem} {k n : Nat} (h : Y.1 k = (10, n)) : h_cell Y cy b M k = .inl (cy 10, n, .inl (M k)) := by
  unfold h_cell
  rw [h, if_neg (by simp), if_pos rfl]
theorem h_cell_ref {Y : hLay} {cy : Nat → ClassId} {b : Nat} {M : hMem} {k t n : Nat} (h : Y.1 k = (t, n)) (ht : 10 < t) : h_cell Y cy b M k = .inl (cy t, n, .inr (.inr (.inr (.inr (fun j => if Y.2.1 k j = 0 then none else some (b + Y.2.1 k j)))))) := by
  unfold h_cell
  rw [h, if_neg (by simp only; omega), if_neg (by simp only; omega)]
/-- the array classes -/
def h_tys (cy : Nat → ClassId) : List (ClassId × FieldType) := [(cy 10, .int), (cy 11, .object "HatDownTheStreet$Hat"), (cy 12, .object "HatDownTheStreet$Catcher"), (cy 13, .object "HatDownTheStreet$Law"), (cy 14, .object "HatDownTheStreet$Sheet"), (cy 15, .array .int)]
/-- the private names that nest mates use -/
def h_nest : List (String × Nat × MethodName × String) := [("HatDownTheStreet$Street", 33, ⟨"HatDownTheStreet$Hat", "<init>", "()V"⟩, "HatDownTheStreet"), ("HatDownTheStreet$Street", 34, ⟨"HatDownTheStreet$Catcher", "<init>", "()V"⟩, "HatDownTheStreet"), ("HatDownTheStreet", 35, ⟨"HatDownTheStreet$Reader", "<init>", "()V"⟩, "HatDownTheStreet"), ("HatDownTheStreet$Reader", 30, ⟨"HatDownTheStreet$Law", "<init>", "()V"⟩, "HatDownTheStreet"), ("HatDownTheStreet", 48, ⟨"HatDownTheStreet$Thought", "<init>", "()V"⟩, "HatDownTheStreet"), ("HatDownTheStreet$Thought", 11, ⟨"HatDownTheStreet$Law", "<init>", "()V"⟩, "HatDownTheStreet"), ("HatDownTheStreet", 55, ⟨"HatDownTheStreet$Errand", "<init>", "()V"⟩, "HatDownTheStreet"), ("HatDownTheStreet", 64, ⟨"HatDownTheStreet$Law", "<init>", "()V"⟩, "HatDownTheStreet"), ("HatDownTheStreet", 65, ⟨"HatDownTheStreet$Sheet", "<init>", "()V"⟩, "HatDownTheStreet"), ("HatDownTheStreet$Street", 61, ⟨"HatDownTheStreet", "squareOf", "(I)I"⟩, "HatDownTheStreet"), ("HatDownTheStreet$Thought", 78, ⟨"HatDownTheStreet", "lieOf", "(I)I"⟩, "HatDownTheStreet"), ("HatDownTheStreet$Thought", 82, ⟨"HatDownTheStreet", "squareOf", "(I)I"⟩, "HatDownTheStreet"), ("HatDownTheStreet$Law", 40, ⟨"HatDownTheStreet", "bounded", "(III)I"⟩, "HatDownTheStreet"), ("HatDownTheStreet$Thought", 89, ⟨"HatDownTheStreet", "isSecond", "(I)Z"⟩, "HatDownTheStreet"), ("HatDownTheStreet$Kinds", 15, ⟨"HatDownTheStreet", "bounded", "(III)I"⟩, "HatDownTheStreet"), ("HatDownTheStreet$Thought", 126, ⟨"HatDownTheStreet", "isSquare", "(I)Z"⟩, "HatDownTheStreet"), ("HatDownTheStreet$Thought", 120, ⟨"HatDownTheStreet", "stateOf", "(II)I"⟩, "HatDownTheStreet"), ("HatDownTheStreet$Errand", 43, ⟨"HatDownTheStreet", "isSooner", "(II)Z"⟩, "HatDownTheStreet"), ("HatDownTheStreet$Errand", 53, ⟨"HatDownTheStreet", "squareOf", "(I)I"⟩, "HatDownTheStreet")]
def h_Nst (U : State) : Prop := ∀ q ∈ h_nest, va_Nw (.methodLinkNest q.1 q.2.1 q.2.2.1 q.2.2.2) U
theorem h_Nst.moved {s U : State} (hW : s.WarmedH U.vm) (h : h_Nst s) : h_Nst U := fun q hq => va_Nw.warmM hW (h q hq)
def h_abvI (j : Nat) : Int32 := match j with | 0 => -1 | 1 => 0 | 2 => 0 | 3 => 1 | 4 => 2 | _ => 0
def h_abv (j : Nat) : Value := .int (h_abvI j)
def h_txts : List (String × Nat × String) := [("HatDownTheStreet", 66, "goes strength ; turns 1 ; worth 30 - second ;"), ("HatDownTheStreet$Reader", 130, "strength"), ("HatDownTheStreet$Reader", 136, "lie"), ("HatDownTheStreet$Reader", 138, "more"), ("HatDownTheStreet$Reader", 140, "second"), ("HatDownTheStreet$Reader", 142, "cell"), ("HatDownTheStreet$Reader", 144, "kind"), ("HatDownTheStreet$Reader", 146, "goes"), ("HatDownTheStreet$Reader", 148, "turns"), ("HatDownTheStreet$Reader", 150, "worth"), ("HatDownTheStreet$Reader", 152, "or"), ("HatDownTheStreet$Reader", 154, "and"), ("HatDownTheStreet$Reader", 156, "not")]
def h_lens : List Nat := [45, 8, 3, 4, 6, 4, 4, 4, 5, 5, 2, 3, 3]
def h_byts : List (List Int32) := [[103, 111, 101, 115, 32, 115, 116, 114, 101, 110, 103, 116, 104, 32, 59, 32, 116, 117, 114, 110, 115, 32, 49, 32, 59, 32, 119, 111, 114, 116, 104, 32, 51, 48, 32, 45, 32, 115, 101, 99, 111, 110, 100, 32, 59], [115, 116, 114, 101, 110, 103, 116, 104], [108, 105, 101], [109, 111, 114, 101], [115, 101, 99, 111, 110, 100], [99, 101, 108, 108], [107, 105, 110, 100], [103, 111, 101, 115], [116, 117, 114, 110, 115], [119, 111, 114, 116, 104], [111, 114], [97, 110, 100], [110, 111, 116]]
/-- what lies outside: the static row ABOVE, the constant texts, two statics of the JDK's -/
def h_Ex (dd : hDD) (A : Nat → Prop) (U : State) (H : Heap) : Prop :=
  va_Z "HatDownTheStreet$Kinds" "ABOVE" "[I" (.ref dd.2.2.1) A U H ∧ va_T .int dd.2.2.1 6 h_abv A U H ∧ vk_S 13 h_lens h_byts dd.2.2.2.1 dd.2.2.2.2 A U H ∧
  va_Z "java/lang/String" "COMPACT_STRINGS" "Z" (.int 1) A U H ∧ ∃ o : Option Nat, va_Z "jdk/internal/util/Preconditions" "SIOOBE_FORMATTER" "Ljava/util/function/BiFunction;" (va_rf o) A U H
theorem h_Ex.moved {dd : hDD} {A : Nat → Prop} {u U : State} {H : Heap} (hvm : u.vm.Alike U.vm) (h : h_Ex dd A u H) : h_Ex dd A U H := ⟨h.1.moved hvm, h.2.1.moved hvm, h.2.2.1.moved hvm, h.2.2.2.1.moved hvm, h.2.2.2.2.imp fun _ q => q.moved hvm⟩
theorem h_Ex.kept {dd : hDD} {A : Nat → Prop} {U : State} {H H1 : Heap} (h : h_Ex dd A U H) (hq : ∀ a : Nat, a < H.size → ¬ A a → H1[a]? = H[a]?) : h_Ex dd A U H1 := ⟨h.1.kept hq, h.2.1.kept hq, h.2.2.1.kept hq, h.2.2.2.1.kept hq, h.2.2.2.2.imp fun _ q => q.kept hq⟩
theorem h_Ex.narrow {dd : hDD} {A B : Nat → Prop} {U : State} {H : Heap} (h : h_Ex dd A U H) (hAB : ∀ q, B q → A q) : h_Ex dd B U H := ⟨h.1.narrow hAB, h.2.1.narrow hAB, h.2.2.1.narrow hAB, h.2.2.2.1.narrow hAB, h.2.2.2.2.imp fun _ q => q.narrow hAB⟩
def h_Tx (dd : hDD) (U : State) : Prop := ∀ (i : Nat) (q : String × Nat × String), h_txts[i]? = some q → vk_R q.1 q.2.1 q.2.2 (dd.2.2.2.1 i) U
theorem h_Tx.moved {dd : hDD} {s U : State} (hW : s.WarmedH U.vm) (h : h_Tx dd s) : h_Tx dd U := fun i q hq => vk_R.warm hW (h i q hq)
/-- the words that hold on in every state behind -/
def h_tbl : List Cond := lw_tbl.filter goodWord
theorem h_in {w : Cond} (i : Nat) (h : lw_tbl[i]? = some w) (hg : goodWord w = true) : w ∈ h_tbl := List.mem_filter.mpr ⟨List.mem_of_getElem? h, hg⟩
theorem h_goodIn {c1 c2 : Cond} (h : c2 ∈ h_tbl) : GoodIn (c1 :: h_tbl) (c2 :: h_tbl) := by
  intro w hw
  have hm : w ∈ h_tbl := by
    rcases List.mem_cons.mp hw with rfl | h1
    · exact h
    · exact h1
  exact ⟨List.mem_cons_of_mem _ hm, good_of_word (List.mem_filter.mp hm).2⟩
theorem h_goodT {c2 : Cond} (h : c2 ∈ h_tbl) : GoodIn h_tbl (c2 :: h_tbl) := by
  intro w hw
  have hm : w ∈ h_tbl := by
    rcases List.mem_cons.mp hw with rfl | h1
    · exact h
    · exact h1
  exact ⟨hm, good_of_word (List.mem_filter.mp hm).2⟩
def h_rm (d : Nat) : Room := { frames := d, cells := 0, slots := 0, locals := 64 * d }
/-- a state that holds the memory M, and the tables -/
def h_St (Y : hLay) (dd : hDD) (b : Nat) (M : hMem) (U : State) : Prop :=
  va_P dd.1 vwCl (h_pw Y dd.2.1 b M) U.heap ∧ va_K dd.1 vwCl (h_tys dd.2.1) U ∧ h_Nst U ∧ h_Ex dd (h_A b Y) U U.heap ∧ h_Tx dd U
/-- the end of a method: what it returns, and the memory then -/
def h_Q (Y : hLay) (dd : hDD) (b : Nat) (q : Option Value × hMem) : Array Value → State → Outcome → State → Prop := fun _ st o t =>
  o = .returned q.1 ∧ va_P dd.1 vwCl (h_pw Y dd.2.1 b q.2) t.heap ∧ va_F (h_A b Y) st t
/-- A CONTRACT: from memory M, with these arguments, to q -/
def hC (l : Launch) (Y : hLay) (dd : hDD) (b : Nat) (y : MethodName) (bytes : ByteArray) (maxL : Nat) (ret : Option FieldType) (d : Nat) (av : List Value) (M : hMem) (q : Option Value × hMem) : Prop :=
  Met l y (Cond.code y bytes maxL ret :: h_tbl) (h_rm d) (va_Pc av (h_St Y dd b M)) (h_Q Y dd b q) 0 0 (h_A b Y)
/-- where a method stands -/
abbrev hZ : Type := (hLay × hDD × Nat) × (Program × Launch × Env × Room × State) × (MethodId × Array Value × List Frame × Method × Code) × Nat
abbrev h_b (Z : hZ) : Nat := Z.1.2.2
abbrev h_Y (Z : hZ) : hLay := Z.1.1
abbrev h_d (Z : hZ) : hDD := Z.1.2.1
abbrev h_l (Z : hZ) : Launch := Z.2.1.2.1
def h_W (Z : hZ) {α : Type} (rt : α → Option Value × hMem) (r : α) (H : Heap) (locs : List Loc) (g : JFrame) : Prop :=
  W Z.2.1.1 Z.2.1.2.1 Z.2.1.2.2.1 Z.2.1.2.2.2.1 Z.2.1.2.2.2.2 Z.2.2.1.1 Z.2.2.1.2.1 Z.2.2.1.2.2.1 Z.2.2.1.2.2.2.1 Z.2.2.1.2.2.2.2 H locs 0 0 (MQ Z.2.2.1.2.2.1 (h_Q Z.1.1 Z.1.2.1 Z.1.2.2 (rt r)) Z.2.2.1.2.1 Z.2.1.2.2.2.2 0 0 (h_A Z.1.2.2 Z.1.1)) g
/-- THE JUDGEMENT: from here, with memory M, locals L, stack st, the method comes to its end with what F says -/
def hW (Z : hZ) {α : Type} (rt : α → Option Value × hMem) (M : hMem) (pc : Nat) (L : List (Nat × Value)) (st : List Value) (F : Option α) : Prop :=
  ∀ r : α, F = some r → ∀ (H : Heap) (locs : List Loc) (ls : Array Slot), va_P Z.1.2.1.1 vwCl (h_pw Z.1.1 Z.1.2.1.2.1 Z.1.2.2 M) H → va_S (h_A Z.1.2.2 Z.1.1) Z.2.1.2.2.2.2.heap H locs → lv_has ls Z.2.2.2 L → h_W Z rt r H locs (F0 Z.2.2.1.1 pc ls st)
def hOK (Z : hZ) (Y : hLay) (cc : ByteArray) (own : String) (nL d : Nat) (ret : Option FieldType) : Prop :=
  Z.2.1.1.tables.exec = Jvm.exec ∧ Z.2.2.1.2.2.2.2.code = cc ∧ Z.2.2.1.2.2.2.2.maxLocals = Z.2.2.2 ∧ Z.2.2.1.2.2.2.1.sig.returnType = ret ∧ Z.2.1.2.2.2.2.vm.findClass own = some Z.2.2.1.1.cls ∧ (∀ w ∈ h_tbl, w.before Z.2.2.1.2.1 Z.2.1.2.2.2.2 = true) ∧
  va_K Z.1.2.1.1 vwCl (h_tys Z.1.2.1.2.1) Z.2.1.2.2.2.2 ∧ h_Nst Z.2.1.2.2.2.2 ∧ h_Ex Z.1.2.1 (h_A Z.1.2.2 Z.1.1) Z.2.1.2.2.2.2 Z.2.1.2.2.2.2.heap ∧ h_Tx Z.1.2.1 Z.2.1.2.2.2.2 ∧ Z.2.2.1.2.2.2.1.locks = false ∧ (d ≤ Z.2.1.2.2.2.1.frames ∧ 64 * d ≤ Z.2.1.2.2.2.1.locals) ∧ Z.1.1 = Y ∧ Z.2.2.2 = nL
/-- a cell is of a kind, and so long -/
def h_is (Y : hLay) (k t n : Nat) : Prop := k < Y.2.2 ∧ Y.1 k = (t, n)
/-- an index within a row -/
abbrev h_ib (i : Int32) (n : Nat) : Prop := 0 ≤ i ∧ i.toNatClampNeg < n
theorem h_ib.vp {i : Int32} {n : Nat} (h : h_ib i n) : vp_in i n := fun q => q.elim (fun a => absurd h.1 (Int32.not_le.mpr a)) (fun a => Nat.not_le.mpr h.2 a)
/-- a field link of a class: the class's number, the field's -/
def h_FL (own : String) (idx ci j : Nat) : Prop := ∃ (C : String) (T : u_T) (ty : Nat → FieldType), vwCl[ci]? = some (C, T, h_nf ci) ∧ ci < 10 ∧ j < h_nf ci ∧ Cond.fieldLink own idx (T j).1 (T j).2.1 (T j).2.2.1 ∈ h_tbl ∧ (∀ w ∈ u_ws C T (h_nf ci), w ∈ h_tbl) ∧ (∀ k, k < h_nf ci → parseFieldDescriptor (T k).2.2.1 = some (ty k)) ∧ (∀ a, a < h_nf ci → ∀ b, b < h_nf ci → a ≠ b → (T a).2.1 ≠ (T b).2.1)
/-- one that may be written, of a type -/
def h_FP (own : String) (idx ci j : Nat) (tj : FieldType) : Prop := ∃ (C : String) (T : u_T) (ty : Nat → FieldType), vwCl[ci]? = some (C, T, h_nf ci) ∧ ci < 10 ∧ j < h_nf ci ∧ Cond.fieldLink own idx (T j).1 (T j).2.1 (T j).2.2.1 ∈ h_tbl ∧ (∀ w ∈ u_ws C T (h_nf ci), w ∈ h_tbl) ∧ (∀ k, k < h_nf ci → parseFieldDescriptor (T k).2.2.1 = some (ty k)) ∧ (∀ a, a < h_nf ci → ∀ b, b < h_nf ci → a ≠ b → (T a).2.1 ≠ (T b).2.1) ∧ (T j).2.2.2 = false ∧ parseFieldDescriptor (T j).2.2.1 = some tj
def h_M0 (y : MethodName) (bytes : ByteArray) (maxL : Nat) (ret : Option FieldType) (np : Nat) : Prop := Cond.code y bytes maxL ret ∈ h_tbl ∧ Cond.initialized y.cls ∈ h_tbl ∧ (y.cls ≠ "java/lang/invoke/MethodHandle" ∧ y.cls ≠ "java/lang/invoke/VarHandle" ∧ (parseMethodDescriptor y.desc).map (fun d => d.parameters.length) = some np) ∧ maxL ≤ 40
/-- links of methods: static; virtual; static of a nest mate -/
def h_MS (own : String) (idx : Nat) (y : MethodName) (bytes : ByteArray) (maxL : Nat) (ret : Option FieldType) (np : Nat) : Prop := h_M0 y bytes maxL ret np ∧ Cond.methodLink own idx y ∈ h_tbl ∧ Cond.static y ∈ h_tbl
def h_MV (own : String) (idx : Nat) (y : MethodName) (bytes : ByteArray) (maxL : Nat) (ret : Option FieldType) (np : Nat) : Prop := h_M0 y bytes maxL ret np ∧ Cond.methodLink own idx y ∈ h_tbl ∧ Cond.instanceMethod y ∈ h_tbl ∧ Cond.selects y.cls y y ∈ h_tbl
def h_MN (own : String) (idx : Nat) (y : MethodName) (bytes : ByteArray) (maxL : Nat) (ret : Option FieldType) (np : Nat) (host : String) : Prop := h_M0 y bytes maxL ret np ∧ (own, idx, y, host) ∈ h_nest ∧ Cond.static y ∈ h_tbl
/-- a loop: the body says what is done by how the rest goes on -/
def h_lp {σ ρ : Type} (body : (σ → Option ρ) → σ → Option ρ) : Nat → σ → Option ρ
  | 0, _ => none
  | n + 1, s => body (h_lp body n) s
def h_FU : Nat := 20000
/-- the plain judgement: whatever holds of heap and writes, from here to Q -/
def hB (Z : hZ) (Q : State → Prop) (I : Heap → List Loc → Prop) (cs ss pc : Nat) (L : List (Nat × Value)) (st : List Value) : Prop :=
  ∀ (H : Heap) (locs : List Loc) (ls : Array Slot), I H locs → lv_has ls Z.2.2.2 L → W Z.2.1.1 Z.2.1.2.1 Z.2.1.2.2.1 Z.2.1.2.2.2.1 Z.2.1.2.2.2.2 Z.2.2.1.1 Z.2.2.1.2.1 Z.2.2.1.2.2.1 Z.2.2.1.2.2.2.1 Z.2.2.1.2.2.2.2 H locs cs ss Q (F0 Z.2.2.1.1 pc ls st)
def hOKb (Z : hZ) (cc : ByteArray) (own : String) (nL d : Nat) (ret : Option FieldType) : Prop :=
  Z.2.1.1.tables.exec = Jvm.exec ∧ Z.2.2.1.2.2.2.2.code = cc ∧ Z.2.2.1.2.2.2.2.maxLocals = Z.2.2.2 ∧ Z.2.2.1.2.2.2.1.sig.returnType = ret ∧ Z.2.1.2.2.2.2.vm.findClass own = some Z.2.2.1.1.cls ∧ (∀ w ∈ h_tbl, w.before Z.2.2.1.2.1 Z.2.1.2.2.2.2 = true) ∧
  Z.2.2.1.2.2.2.1.locks = false ∧ (d ≤ Z.2.1.2.2.2.1.frames ∧ 64 * d ≤ Z.2.1.2.2.2.1.locals) ∧ Z.2.2.2 = nL
def h_rem (x y : Int32) : Int32 := x - x / y * y
def h_lrem (x y : Int64) : Int64 := x - x / y * y
def h_ushr (x y : Int32) : Int32 := (x.toUInt32 >>> (y.toUInt32 &&& Int32.toUInt32 31)).toInt32
def h_slen (w : Nat) : Int32 := Int32.ofNat (h_lens.getD w 0)
def h_sch (w j : Nat) : Int32 := (h_byts.getD w []).getD j 0
def h_cpb (sp dp n : Int32) (n0 n1 : Nat) : Bool := decide (0 ≤ sp) && (decide (0 ≤ dp) && (decide (0 ≤ n) && (Nat.ble (sp.toNatClampNeg + n.toNatClampNeg) n0 && Nat.ble (dp.toNatClampNeg + n.toNatClampNeg) n1)))
def h_cp (M : hMem) (src : Nat) (sp : Int32) (dst : Nat) (dp n : Int32) : hMem := fun a => if a = dst then va_cpy (M src) (M dst) sp.toNatClampNeg dp.toNatClampNeg n.toNatClampNeg else M a
def h_scb (w : Nat) (i : Int32) : Bool := decide (w < 13) && (decide (0 ≤ i) && Nat.blt i.toNatClampNeg (h_lens.getD w 0))
def h_isB (Y : hLay) (k t n : Nat) : Bool := Nat.blt k Y.2.2 && ((Y.1 k).1 == t && (Y.1 k).2 == n)
theorem h_forall {N : Nat} {p : Nat → Bool} (h : (List.range N).all p = true) {k : Nat} (hk : k < N) : p k = true := List.all_eq_true.mp h k (List.mem_range.mpr hk)
def hYx_sh : List (Nat × Nat) := [(8, 0), (6, 0), (10, 3), (10, 24), (10, 24), (11, 4), (12, 4), (2, 0), (2, 0), (2, 0), (2, 0), (0, 0), (0, 0), (0, 0), (0, 0), (6, 0), (10, 3), (10, 24), (10, 24), (11, 4), (12, 4), (2, 0), (2, 0), (2, 0), (2, 0), (0, 0), (0, 0), (0, 0), (0, 0), (13, 6), (4, 0), (10, 160), (10, 161), (10, 161), (10, 161), (3, 0), (10, 160), (10, 3), (10, 40), (14, 4), (7, 0), (3, 0), (10, 160), (10, 3), (10, 40), (10, 24), (10, 24), (10, 25), (10, 6), (1, 0), (15, 4), (10, 25), (10, 25), (10, 25), (10, 25), (10, 96), (3, 0), (10, 160), (10, 3), (10, 40), (3, 0), (10, 160), (10, 3), (10, 40), (3, 0), (10, 160), (10, 3), (10, 40), (3, 0), (10, 160), (10, 3), (10, 40), (3, 0), (10, 160), (10, 3), (10, 40), (3, 0), (10, 160), (10, 3), (10, 40), (5, 0), (10, 40), (5, 0), (10, 40), (5, 0), (10, 40), (5, 0), (10, 40)]
def hYx_rf (k j : Nat) : Nat := match k with
  | 0 => (match j with | 0 => 1 | 1 => 15 | 3 => 29 | 5 => 30 | 6 => 39 | 7 => 40 | 8 => 49 | 9 => 55 | _ => 0)
  | 1 => (match j with | 0 => 2 | 1 => 3 | 2 => 4 | 3 => 5 | 4 => 6 | _ => 0)
  | 5 => 7 + j
  | 6 => 11 + j
  | 15 => (match j with | 0 => 16 | 1 => 17 | 2 => 18 | 3 => 19 | 4 => 20 | _ => 0)
  | 19 => 21 + j
  | 20 => 25 + j
  | 29 => 56 + 4 * j
  | 30 => (match j with | 1 => 31 | 2 => 32 | 3 => 33 | 4 => 34 | _ => 0)
  | 35 => (match j with | 0 => 36 | 1 => 37 | 2 => 38 | _ => 0)
  | 39 => 80 + 2 * j
  | 40 => (match j with | 7 => 45 | 8 => 46 | 9 => 47 | 10 => 48 | _ => 0)
  | 41 => (match j with | 0 => 42 | 1 => 43 | 2 => 44 | _ => 0)
  | 49 => (match j with | 0 => 50 | _ => 0)
  | 50 => 51 + j
  | 56 => (match j with | 0 => 57 | 1 => 58 | 2 => 59 | _ => 0)
  | 60 => (match j with | 0 => 61 | 1 => 62 | 2 => 63 | _ => 0)
  | 64 => (match j with | 0 => 65 | 1 => 66 | 2 => 67 | _ => 0)
  | 68 => (match j with | 0 => 69 | 1 => 70 | 2 => 71 | _ => 0)
  | 72 => (match j with | 0 => 73 | 1 => 74 | 2 => 75 | _ => 0)
  | 76 => (match j with | 0 => 77 | 1 => 78 | 2 => 79 | _ => 0)
  | 80 => (match j with | 2 => 81 | _ => 0)
  | 82 => (match j with | 2 => 83 | _ => 0)
  | 84 => (match j with | 2 => 85 | _ => 0)
  | 86 => (match j with | 2 => 87 | _ => 0)
  | _ => 0
def hYx : hLay := (fun k => hYx_sh.getD k (99, 0), hYx_rf, 88)
def hYm_sh : List (Nat × Nat) := [(9, 0), (10, 3), (10, 24), (10, 24), (10, 4), (10, 4), (10, 4), (10, 4), (10, 12), (10, 160), (10, 1200), (10, 24), (10, 79), (10, 4), (10, 4), (10, 160), (10, 45), (10, 96), (10, 200), (10, 200), (10, 6), (10, 96), (10, 32), (10, 32), (10, 24), (10, 24)]
def hYm_rf (k j : Nat) : Nat := match k with
  | 0 => (match j with | 0 => 1 | 1 => 2 | 2 => 3 | 4 => 4 | 5 => 5 | 6 => 6 | 7 => 7 | 9 => 8 | 10 => 9 | 12 => 10 | 13 => 11 | 20 => 12 | 21 => 13 | 22 => 14 | 23 => 15 | 24 => 16 | 29 => 17 | 30 => 18 | 34 => 19 | 35 => 20 | 40 => 21 | 41 => 22 | 42 => 23 | 43 => 24 | 44 => 25 | _ => 0)
  | _ => 0
def hYm : hLay := (fun k => hYm_sh.getD k (99, 0), hYm_rf, 26)
