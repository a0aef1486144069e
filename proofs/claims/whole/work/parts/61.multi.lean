/-! a row of four rows of ints made at once -/
def muC (cA : ClassId) (h i : Nat) : Cell := arrV cA 4 (fun j => if j < i then .ref (h + 1 + j) else .null)
def muI (cB : ClassId) : Cell := arrV cB 25 (fun _ => .int 0)
def muS (s : State) (cA cB : ClassId) : Nat → State
  | 0 => s.pushCell (muC cA s.heap.size 0)
  | i + 1 => ((muS s cA cB i).pushCell (muI cB)).setCell s.heap.size (muC cA s.heap.size (i + 1))
theorem muC_set (cA : ClassId) (h i : Nat) : (muC cA h i).setSlot i (.ref (h + 1 + i)) = muC cA h (i + 1) := by
  unfold muC
  rw [arrV_store]
  refine congrArg (arrV cA 4) (funext fun j => ?_)
  unfold updV
  by_cases e : j = i
  · subst e; rw [if_pos rfl, if_pos (Nat.lt_succ_self _)]
  · rw [if_neg e]
    show (if j < i then Value.ref (h + 1 + j) else Value.null) = _
    by_cases h2 : j < i
    · rw [if_pos h2, if_pos (by omega)]
    · rw [if_neg h2, if_neg (by omega)]
theorem muS_f (s : State) (cA cB : ClassId) : ∀ i, (muS s cA cB i).heap.size = s.heap.size + 1 + i ∧ (muS s cA cB i).heap[s.heap.size]? = some (muC cA s.heap.size i) ∧ (muS s cA cB i).vm = s.vm ∧ (muS s cA cB i).slotsUsed = s.slotsUsed + 4 + i * 25 ∧ (∀ a, a < s.heap.size → (muS s cA cB i).heap[a]? = s.heap[a]?) ∧ ∀ j, j < i → (muS s cA cB i).heap[s.heap.size + 1 + j]? = some (muI cB)
  | 0 => by
    refine ⟨by simp [muS], by simp [muS], rfl, ?_, fun a ha => State.heap_pushCell_of_lt _ _ ha, fun j hj => absurd hj (Nat.not_lt_zero _)⟩
    have : (muC cA s.heap.size 0).slots.size = 4 := arrV_size _ _ _
    simp [muS, this]
  | i + 1 => by
    obtain ⟨h1, h2, h3, h4, h5, h6⟩ := muS_f s cA cB i
    have hlt : s.heap.size < (muS s cA cB i).heap.size := by omega
    have hb : ((muS s cA cB i).pushCell (muI cB)).heap[s.heap.size]? = some (muC cA s.heap.size i) := by rw [State.heap_pushCell_of_lt (h := hlt)]; exact h2
    have hI : (muI cB).slots.size = 25 := arrV_size _ _ _
    refine ⟨?_, State.heap_setCell_self hb, h3, ?_, fun a ha => ?_, fun j hj => ?_⟩
    · simp [muS, State.setCell, h1]; omega
    · have : (muS s cA cB (i + 1)).slotsUsed = (muS s cA cB i).slotsUsed + (muI cB).slots.size := rfl
      rw [this, h4, hI, Nat.succ_mul]; omega
    · show (((muS s cA cB i).pushCell (muI cB)).setCell s.heap.size _).heap[a]? = _
      rw [State.heap_setCell_other (Nat.ne_of_gt ha), State.heap_pushCell_of_lt (h := (by omega : a < (muS s cA cB i).heap.size))]
      exact h5 a ha
    · show (((muS s cA cB i).pushCell (muI cB)).setCell s.heap.size _).heap[s.heap.size + 1 + j]? = _
      rw [State.heap_setCell_other (show s.heap.size ≠ s.heap.size + 1 + j by omega)]
      by_cases e : j < i
      · rw [State.heap_pushCell_of_lt (h := (by omega : s.heap.size + 1 + j < (muS s cA cB i).heap.size))]; exact h6 j e
      · have ej : s.heap.size + 1 + j = (muS s cA cB i).heap.size := by omega
        rw [ej]; simp
theorem muS_top (s : State) (f : JFrame) (cA cB : ClassId) : ∀ i, muS (s.setTop f) cA cB i = (muS s cA cB i).setTop f
  | 0 => rfl
  | i + 1 => by simp only [muS, muS_top s f cA cB i, State.heap_setTop, State.pushCell_setTop, State.setCell_setTop]
section MU
variable {p : Program} {l : Launch} {e : Env} {R : Room} {s : State} {m : MethodId} {args : Array Value} {below : List Frame} {meth : Method} {c : Code} {T : State} {locs : List Loc} {cells slots : Nat}
theorem muS_stand (X : Stand p l e R s m args below meth c T locs cells slots) (cA cB : ClassId) : ∀ i, ∃ L : List Loc, (∀ q ∈ L, q.base = T.heap.size) ∧ Stand p l e R s m args below meth c (muS T cA cB i) (locs ++ L) (cells + 1 + i) (slots + 4 + i * 25)
  | 0 => by
    have h := X.pushed (muC cA T.heap.size 0)
    rw [show (muC cA T.heap.size 0).slots.size = 4 from arrV_size _ _ _] at h
    exact ⟨[], fun q hq => (by cases hq), by simpa [muS] using h⟩
  | i + 1 => by
    obtain ⟨L, hL, Xi⟩ := muS_stand X cA cB i
    obtain ⟨f1, f2, -⟩ := muS_f T cA cB i
    have hb : ((muS T cA cB i).pushCell (muI cB)).heap[T.heap.size]? = some (muC cA T.heap.size i) := by rw [State.heap_pushCell_of_lt (h := (by omega : T.heap.size < (muS T cA cB i).heap.size))]; exact f2
    have h := (Xi.pushed (muI cB)).stored hb i (.ref (T.heap.size + 1 + i))
    rw [show (muI cB).slots.size = 25 from arrV_size _ _ _, muC_set] at h
    refine ⟨L ++ [⟨T.heap.size, i⟩], fun q hq => ?_, ?_⟩
    · rcases List.mem_append.mp hq with h1 | h1
      · exact hL q h1
      · rw [List.mem_singleton.mp h1]
    · rw [← List.append_assoc, show slots + 4 + (i + 1) * 25 = slots + 4 + i * 25 + 25 from by omega]
      exact h
end MU
section MW
variable {E : CtlPost} {e : Env} {d : Bool} {acts : List Action} {s : State}
theorem mu_in {cB q : ClassId} {kB : Class} (hk : s.vm.classes[cB]? = some kB) (hkind : kB.kind = .array q .int) (hl : ¬ 25 > e.platform.arrayLengthLimit) (hh : ¬ 25 * componentBytes .int > e.platform.maxHeapBytes) (h1 : s.heap.size < e.platform.maxCells) (h2 : s.slotsUsed + 25 ≤ e.platform.maxSlots) {Q : Addr → Pre} (hq : ∀ acts', Q s.heap.size d acts' (s.pushCell (muI cB))) : wp (multianewarray.make cB [25]) Q E e d acts s := by
  rw [multianewarray.make]
  simp only [wp_bind', W.ite, show ¬ (25 : Int32) < 0 by decide, if_false, wp_pure', W.theClass, hk, hkind, Option.some.injEq, exists_eq_left']
  refine W.newArray_of hk hkind hl hh h1 h2 rfl (fun acts' => ?_)
  have e1 : ({ cls := cB, slots := Array.replicate 25 (.int 0) } : Cell) = muI cB := arrV_new cB 25 (.int 0)
  rw [show ((25 : Int32).toNatClampNeg) = 25 from rfl, show defaultValue .int = .int 0 from rfl, e1]
  exact hq acts'
theorem mu_out {cA cB q : ClassId} {kA kB : Class} (hkA : s.vm.classes[cA]? = some kA) (hkindA : kA.kind = .array cB (.array .int)) (hkB : s.vm.classes[cB]? = some kB) (hkindB : kB.kind = .array q .int) (hl : ¬ 25 > e.platform.arrayLengthLimit) (hh : ¬ 100 > e.platform.maxHeapBytes) (h1 : s.heap.size + 5 ≤ e.platform.maxCells) (h2 : s.slotsUsed + 104 ≤ e.platform.maxSlots) {Q : Addr → Pre} (hq : ∀ d' acts', Q s.heap.size d' acts' (muS s cA cB 4)) : wp (multianewarray.make cA [4, 25]) Q E e d acts s := by
  have hl4 : ¬ 4 > e.platform.arrayLengthLimit := by omega
  have hh4 : ¬ 4 * componentBytes (.array .int) > e.platform.maxHeapBytes := by show ¬ 4 * 4 > _; omega
  have hhI : ¬ 25 * componentBytes .int > e.platform.maxHeapBytes := by show ¬ 25 * 4 > _; omega
  rw [multianewarray.make]
  simp only [wp_bind', W.ite, show ¬ (4 : Int32) < 0 by decide, if_false, wp_pure', W.theClass, hkA, hkindA, Option.some.injEq, exists_eq_left']
  refine W.newArray_of (howMany := (4 : Int32).toNatClampNeg) hkA hkindA hl4 hh4 (by omega) (by show _ + 4 ≤ _; omega) rfl (fun acts' => ?_)
  have e0 : ({ cls := cA, slots := Array.replicate 4 .null } : Cell) = muC cA s.heap.size 0 := (arrV_new cA 4 .null).trans (congrArg (arrV cA 4) (funext fun j => by rw [if_neg (Nat.not_lt_zero _)]))
  rw [show ((4 : Int32).toNatClampNeg) = 4 from rfl, e0]
  rw [if_neg (show ¬ ((4 : Int32) == 0) = true by decide), wp_bind', Std.Legacy.Range.forIn_eq_forIn_range']
  rw [show ([:4] : Std.Legacy.Range).size = 4 from by simp [Std.Legacy.Range.size]]
  show wp (forIn (List.range' 0 4 1) PUnit.unit _) _ E e d acts' _
  refine wp_forIn_inv (fun r s' => ∃ i, i + r.length = 4 ∧ r = List.range' i r.length ∧ s' = muS s cA cB i) _ _ ⟨0, rfl, rfl, rfl⟩ ?_ ?_
  · rintro x r s' d' acts' Q' ⟨i, hi, hr, rfl⟩ hn
    have hlen : i + (r.length + 1) = 4 := hi
    have hr' : x :: r = List.range' i (r.length + 1) := hr
    rw [List.range'_succ] at hr'
    obtain ⟨rfl, hr2⟩ := List.cons.inj hr'
    obtain ⟨f1, f2, f3, f4, -, -⟩ := muS_f s cA cB x
    simp only [wp_bind']
    refine mu_in (q := q) (by rw [f3]; exact hkB) hkindB hl hhI (by omega) (by rw [f4]; omega) (fun acts'' => ?_)
    have hc : ((muS s cA cB x).pushCell (muI cB)).heap[s.heap.size]? = some (muC cA s.heap.size x) := by rw [State.heap_pushCell_of_lt (h := (by omega : s.heap.size < (muS s cA cB x).heap.size))]; exact f2
    simp only [wp_bind', W.writeLoc, wp_pure']
    refine ⟨muC cA s.heap.size x, hc, by simp [muC, arrV], by rw [show (muC cA s.heap.size x).slots.size = 4 from arrV_size _ _ _]; omega, ?_, hn _ _ _ ⟨x + 1, by omega, hr2, ?_⟩⟩
    · simp [muC, arrV, State.fitsSlot, State.slotType?, f3, hkA, hkindA, fits]
    · rw [f1, muC_set]; rfl
  · rintro s' d' acts' ⟨i, hi, hr, rfl⟩
    have : i = 4 := hi
    subst this
    simp only [wp_pure']
    exact hq _ _
end MW
section MX
variable {p : Program} {l : Launch} {e : Env} {R : Room} {s : State} {m : MethodId} {args : Array Value} {below : List Frame} {meth : Method} {c : Code} {H : Heap} {locs : List Loc} {cells slots : Nat} {Q : State → Prop}
theorem W_multi {cc : ByteArray} (hexec : p.tables.exec = Jvm.exec) (hb : c.code = cc) {own : String} {index pc : Nat} {ls : Array Slot} {rest : List Value} {cA cB q : ClassId} {kA kB : Class} (hown : s.vm.findClass own = some m.cls) (hclink : (Cond.classLink own index "[[I").before args s = true) (hA : s.vm.findClass "[[I" = some cA) (hkA : s.vm.classes[cA]? = some kA) (hkindA : kA.kind = .array cB (.array .int)) (hkB : s.vm.classes[cB]? = some kB) (hkindB : kB.kind = .array q .int) (hdg : decode cc pc = .ok (.multianewarray index 2, 4)) (hcells : cells + 5 ≤ R.cells) (hslots : slots + 104 ≤ R.slots) {h : Nat} (hh : H.size = h)
    (kk : ∀ (H1 : Heap) (locs1 : List Loc), (∀ a, a < h → H1[a]? = H[a]?) → H1.size = h + 5 → H1[h]? = some (arrV cA 4 (fun j => if j < 4 then .ref (h + 1 + j) else .null)) → (∀ j, j < 4 → H1[h + 1 + j]? = some (arrV cB 25 (fun _ => .int 0))) → (∀ x ∈ locs1, x.base = h) → W p l e R s m args below meth c H1 (locs ++ locs1) (cells + 5) (slots + 104) Q (F0 m (pc + 4) ls (.ref h :: rest))) : W p l e R s m args below meth c H locs cells slots Q (F0 m pc ls (.int 25 :: .int 4 :: rest)) := by
  intro T hT X
  subst hb
  subst hT
  subst hh
  have hpl : e.platform.magicAccessors = ({} : Platform).magicAccessors := by rw [X.admits.platform]
  obtain ⟨c0, hfc0, hcl⟩ := Cond.classLink_spec hown hclink e.platform hpl
  cases hA.symm.trans hfc0
  obtain ⟨hg₁, hwarm₁, hready₁⟩ := State.classEntry (e := e) X.warmed hcl
  generalize T.vm.noted m.cls index (.cls cA) = vm₁ at hg₁ hwarm₁ hready₁
  have hal : s.vm.Alike vm₁ := hwarm₁.alike
  obtain ⟨kA₁, hkA₁, heA⟩ := hal.2.2 _ _ hkA
  obtain ⟨kB₁, hkB₁, heB⟩ := hal.2.2 _ _ hkB
  have X₁ := X.noted hwarm₁
  obtain ⟨hr1, hr2⟩ := X.roomAbove (a := 5) (b := 104) hcells hslots
  obtain ⟨L, hL, X2⟩ := muS_stand X₁ cA cB 4
  obtain ⟨f1, f2, f3, f4, f5, f6⟩ := muS_f (T.setVm vm₁) cA cB 4
  obtain ⟨t, a1, b1⟩ := kk (muS (T.setVm vm₁) cA cB 4).heap L f5 (by show _ = T.heap.size + 5; rw [f1]; rfl) f2 f6 hL (muS (T.setVm vm₁) cA cB 4) rfl X2
  refine ⟨t, ?_, b1⟩
  have hl : ¬ 25 > e.platform.arrayLengthLimit := by rw [Launch.admits_arrayLengthLimit X.admits]; decide
  have hm : ¬ 100 > e.platform.maxHeapBytes := by rw [Launch.admits_maxHeapBytes X.admits]; decide
  jvm_step X.here [hexec, hdg]
  simp only [multianewarray.sem, wp_bind', W.resolveClassAt_links (State.method?_setTop (F0 m pc ls (.int 25 :: .int 4 :: rest)) X.here.top) hg₁]
  rw [W.popN, if_neg (by decide)]
  refine ⟨F0 m pc ls (.int 25 :: .int 4 :: rest), State.topJava?_setTop' (s := T.setVm vm₁) _ X.here.top, [.int 4, .int 25], rest, rfl, rfl, ?_⟩
  simp only [List.mapM_cons, List.mapM_nil, wp_bind', wp_pure']
  refine mu_out (q := q) (kA := kA₁) (kB := kB₁) (cB := cB) hkA₁ (by rw [heA]; exact hkindA) hkB₁ (by rw [heB]; exact hkindB) hl hm (by show T.heap.size + 5 ≤ _; omega) (by show T.slotsUsed + 104 ≤ _; omega) (fun d' acts' => ?_)
  have eS : ((T.setTop (F0 m pc ls (.int 25 :: .int 4 :: rest))).setVm vm₁).setTop (F0 m pc ls rest) = (T.setVm vm₁).setTop (F0 m pc ls rest) := by
    show ((T.setVm vm₁).setTop _).setTop _ = _
    rw [State.setTop_setTop]
  have eS2 : ({ F0 m pc ls (.int 25 :: .int 4 :: rest) with stack := rest } : JFrame) = F0 m pc ls rest := rfl
  rw [eS2, eS, muS_top]
  simp only [wp_bind', W.mark, W.pushRef, State.topJava?_setTop' _ X2.here.top, Option.some.injEq, exists_eq_left', State.setTop_setTop, State.heap_setTop]
  intro acts
  simp [jvm, X2.here.top]
  exact a1
end MX
