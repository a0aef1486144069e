/-! ROWS: an instruction each, over the judgement hW -/
section HRows
variable {Z : hZ} {Y : hLay} {cc : ByteArray} {own : String} {nL d : Nat} {ret : Option FieldType} {α : Type} {rt : α → Option Value × hMem} {M : hMem} {pc pc' tgt : Nat} {L L' : List (Nat × Value)} {st rest : List Value} {F A B : Option α}
theorem x_none : hW Z rt M pc L st none := fun r hr => by cases hr
theorem x_bind {β : Type} {f : Option β} {G : β → Option α} (h : ∀ r, f = some r → hW Z rt M pc L st (G r)) : hW Z rt M pc L st (f.bind G) := by
  intro r hr
  cases hf : f with
  | none => rw [hf] at hr; cases hr
  | some q => rw [hf] at hr; exact h q hf r hr
theorem x_case {P : Prop} [Decidable P] (k1 : P → hW Z rt M pc L st A) (k2 : ¬ P → hW Z rt M pc L st B) : hW Z rt M pc L st (if P then A else B) := by
  by_cases h : P
  · rw [if_pos h]; exact k1 h
  · rw [if_neg h]; exact k2 h
theorem x_guard {P : Prop} [Decidable P] (k1 : P → hW Z rt M pc L st A) : hW Z rt M pc L st (if P then A else none) := x_case k1 (fun _ => x_none)
theorem x_loop {σ : Type} {Ms : σ → hMem} {Ls : σ → List (Nat × Value)} {body : (σ → Option α) → σ → Option α} (h : ∀ k : σ → Option α, (∀ s, hW Z rt (Ms s) pc (Ls s) [] (k s)) → ∀ s, hW Z rt (Ms s) pc (Ls s) [] (body k s)) : ∀ n s, hW Z rt (Ms s) pc (Ls s) [] (h_lp body n s) := by
  intro n
  induction n with
  | zero => intro s; exact x_none
  | succ n ih => intro s; exact h _ ih s
/-- fewer locals are known -/
theorem x_sub (ks : List Nat) (hl : lv_pick L ks = L') (k : hW Z rt M pc L' st F) : hW Z rt M pc L st F := fun r hr H locs ls hP hS h => k r hr H locs ls hP hS (lv_sub h ks hl)

theorem x_iadd (hz : hOK Z Y cc own nL d ret) {x y : Int32} (hd : hD cc pc .iadd 1 pc')  (k : hW Z rt M pc' L (.int (x + y) :: st) F) : hW Z rt M pc L (.int y :: .int x :: st) F := by
  obtain ⟨hd, rfl⟩ := hd
  exact fun r hr H locs ls hP hS hl => lv_iadd hz.1 hz.2.1 hd (k r hr H locs ls hP hS hl)
theorem x_isub (hz : hOK Z Y cc own nL d ret) {x y : Int32} (hd : hD cc pc .isub 1 pc')  (k : hW Z rt M pc' L (.int (x - y) :: st) F) : hW Z rt M pc L (.int y :: .int x :: st) F := by
  obtain ⟨hd, rfl⟩ := hd
  exact fun r hr H locs ls hP hS hl => lv_isub hz.1 hz.2.1 hd (k r hr H locs ls hP hS hl)
theorem x_imul (hz : hOK Z Y cc own nL d ret) {x y : Int32} (hd : hD cc pc .imul 1 pc')  (k : hW Z rt M pc' L (.int (x * y) :: st) F) : hW Z rt M pc L (.int y :: .int x :: st) F := by
  obtain ⟨hd, rfl⟩ := hd
  exact fun r hr H locs ls hP hS hl => lv_imul hz.1 hz.2.1 hd (k r hr H locs ls hP hS hl)
theorem x_iand (hz : hOK Z Y cc own nL d ret) {x y : Int32} (hd : hD cc pc .iand 1 pc')  (k : hW Z rt M pc' L (.int (x &&& y) :: st) F) : hW Z rt M pc L (.int y :: .int x :: st) F := by
  obtain ⟨hd, rfl⟩ := hd
  exact fun r hr H locs ls hP hS hl => lv_iand hz.1 hz.2.1 hd (k r hr H locs ls hP hS hl)
theorem x_ior (hz : hOK Z Y cc own nL d ret) {x y : Int32} (hd : hD cc pc .ior 1 pc')  (k : hW Z rt M pc' L (.int (x ||| y) :: st) F) : hW Z rt M pc L (.int y :: .int x :: st) F := by
  obtain ⟨hd, rfl⟩ := hd
  exact fun r hr H locs ls hP hS hl => lv_ior hz.1 hz.2.1 hd (k r hr H locs ls hP hS hl)
theorem x_ixor (hz : hOK Z Y cc own nL d ret) {x y : Int32} (hd : hD cc pc .ixor 1 pc')  (k : hW Z rt M pc' L (.int (x ^^^ y) :: st) F) : hW Z rt M pc L (.int y :: .int x :: st) F := by
  obtain ⟨hd, rfl⟩ := hd
  exact fun r hr H locs ls hP hS hl => lv_ixor hz.1 hz.2.1 hd (k r hr H locs ls hP hS hl)
theorem x_ishl (hz : hOK Z Y cc own nL d ret) {x y : Int32} (hd : hD cc pc .ishl 1 pc')  (k : hW Z rt M pc' L (.int (x <<< (y &&& 31)) :: st) F) : hW Z rt M pc L (.int y :: .int x :: st) F := by
  obtain ⟨hd, rfl⟩ := hd
  exact fun r hr H locs ls hP hS hl => lv_ishl hz.1 hz.2.1 hd (k r hr H locs ls hP hS hl)
theorem x_ishr (hz : hOK Z Y cc own nL d ret) {x y : Int32} (hd : hD cc pc .ishr 1 pc')  (k : hW Z rt M pc' L (.int (x >>> (y &&& 31)) :: st) F) : hW Z rt M pc L (.int y :: .int x :: st) F := by
  obtain ⟨hd, rfl⟩ := hd
  exact fun r hr H locs ls hP hS hl => lv_ishr hz.1 hz.2.1 hd (k r hr H locs ls hP hS hl)
theorem x_iushr (hz : hOK Z Y cc own nL d ret) {x y : Int32} (hd : hD cc pc .iushr 1 pc')  (k : hW Z rt M pc' L (.int (h_ushr x y) :: st) F) : hW Z rt M pc L (.int y :: .int x :: st) F := by
  obtain ⟨hd, rfl⟩ := hd
  exact fun r hr H locs ls hP hS hl => lv_iushr hz.1 hz.2.1 hd rfl (k r hr H locs ls hP hS hl)
theorem x_idiv (hz : hOK Z Y cc own nL d ret) {x y : Int32} (hd : hD cc pc .idiv 1 pc') (hne : ¬ y = 0) (k : hW Z rt M pc' L (.int (x / y) :: st) F) : hW Z rt M pc L (.int y :: .int x :: st) F := by
  obtain ⟨hd, rfl⟩ := hd
  exact fun r hr H locs ls hP hS hl => lv_idiv hz.1 hz.2.1 hd hne (k r hr H locs ls hP hS hl)
theorem x_irem (hz : hOK Z Y cc own nL d ret) {x y : Int32} (hd : hD cc pc .irem 1 pc') (hne : ¬ y = 0) (k : hW Z rt M pc' L (.int (h_rem x y) :: st) F) : hW Z rt M pc L (.int y :: .int x :: st) F := by
  obtain ⟨hd, rfl⟩ := hd
  exact fun r hr H locs ls hP hS hl => lv_irem hz.1 hz.2.1 hd hne (k r hr H locs ls hP hS hl)
theorem x_ineg (hz : hOK Z Y cc own nL d ret) {x : Int32} (hd : hD cc pc .ineg 1 pc')  (k : hW Z rt M pc' L (.int (-x) :: st) F) : hW Z rt M pc L (.int x :: st) F := by
  obtain ⟨hd, rfl⟩ := hd
  exact fun r hr H locs ls hP hS hl => lv_ineg hz.1 hz.2.1 hd (k r hr H locs ls hP hS hl)
theorem x_ladd (hz : hOK Z Y cc own nL d ret) {x y : Int64} (hd : hD cc pc .ladd 1 pc')  (k : hW Z rt M pc' L (.long (x + y) :: st) F) : hW Z rt M pc L (.long y :: .long x :: st) F := by
  obtain ⟨hd, rfl⟩ := hd
  exact fun r hr H locs ls hP hS hl => lv_ladd hz.1 hz.2.1 hd (k r hr H locs ls hP hS hl)
theorem x_lmul (hz : hOK Z Y cc own nL d ret) {x y : Int64} (hd : hD cc pc .lmul 1 pc')  (k : hW Z rt M pc' L (.long (x * y) :: st) F) : hW Z rt M pc L (.long y :: .long x :: st) F := by
  obtain ⟨hd, rfl⟩ := hd
  exact fun r hr H locs ls hP hS hl => lv_lmul hz.1 hz.2.1 hd (k r hr H locs ls hP hS hl)
theorem x_ldiv (hz : hOK Z Y cc own nL d ret) {x y : Int64} (hd : hD cc pc .ldiv 1 pc') (hne : ¬ y = 0) (k : hW Z rt M pc' L (.long (x / y) :: st) F) : hW Z rt M pc L (.long y :: .long x :: st) F := by
  obtain ⟨hd, rfl⟩ := hd
  exact fun r hr H locs ls hP hS hl => lv_ldiv hz.1 hz.2.1 hd hne (k r hr H locs ls hP hS hl)
theorem x_lrem (hz : hOK Z Y cc own nL d ret) {x y : Int64} (hd : hD cc pc .lrem 1 pc') (hne : ¬ y = 0) (k : hW Z rt M pc' L (.long (h_lrem x y) :: st) F) : hW Z rt M pc L (.long y :: .long x :: st) F := by
  obtain ⟨hd, rfl⟩ := hd
  exact fun r hr H locs ls hP hS hl => lv_lrem hz.1 hz.2.1 hd hne (k r hr H locs ls hP hS hl)
theorem x_lcmp (hz : hOK Z Y cc own nL d ret) {x y : Int64} (hd : hD cc pc .lcmp 1 pc')  (k : hW Z rt M pc' L (.int (lg_cmp x y) :: st) F) : hW Z rt M pc L (.long y :: .long x :: st) F := by
  obtain ⟨hd, rfl⟩ := hd
  exact fun r hr H locs ls hP hS hl => W.lcmp hz.1 hz.2.1 hd (k r hr H locs ls hP hS hl)
theorem x_i2l (hz : hOK Z Y cc own nL d ret) {x : Int32} (hd : hD cc pc .i2l 1 pc')  (k : hW Z rt M pc' L (.long x.toInt64 :: st) F) : hW Z rt M pc L (.int x :: st) F := by
  obtain ⟨hd, rfl⟩ := hd
  exact fun r hr H locs ls hP hS hl => lv_i2l hz.1 hz.2.1 hd rfl (k r hr H locs ls hP hS hl)
theorem x_l2i (hz : hOK Z Y cc own nL d ret) {x : Int64} (hd : hD cc pc .l2i 1 pc')  (k : hW Z rt M pc' L (.int x.toInt32 :: st) F) : hW Z rt M pc L (.long x :: st) F := by
  obtain ⟨hd, rfl⟩ := hd
  exact fun r hr H locs ls hP hS hl => lv_l2i hz.1 hz.2.1 hd rfl (k r hr H locs ls hP hS hl)
theorem x_i2b (hz : hOK Z Y cc own nL d ret) {x : Int32} (hd : hD cc pc .i2b 1 pc')  (k : hW Z rt M pc' L (.int x.toInt8.toInt32 :: st) F) : hW Z rt M pc L (.int x :: st) F := by
  obtain ⟨hd, rfl⟩ := hd
  exact fun r hr H locs ls hP hS hl => lv_i2b hz.1 hz.2.1 hd rfl (k r hr H locs ls hP hS hl)
theorem x_i2s (hz : hOK Z Y cc own nL d ret) {x : Int32} (hd : hD cc pc .i2s 1 pc')  (k : hW Z rt M pc' L (.int x.toInt16.toInt32 :: st) F) : hW Z rt M pc L (.int x :: st) F := by
  obtain ⟨hd, rfl⟩ := hd
  exact fun r hr H locs ls hP hS hl => lv_i2s hz.1 hz.2.1 hd rfl (k r hr H locs ls hP hS hl)
theorem x_iconst (hz : hOK Z Y cc own nL d ret) {n : Int} (v : Int32) (hd : hD cc pc (.iconst n) 1 pc') (hv : Int32.ofInt n = v) (k : hW Z rt M pc' L (.int v :: st) F) : hW Z rt M pc L st F := by
  obtain ⟨hd, rfl⟩ := hd
  exact fun r hr H locs ls hP hS hl => lv_iconst hz.1 hz.2.1 hd hv (k r hr H locs ls hP hS hl)
theorem x_bipush (hz : hOK Z Y cc own nL d ret) {n : Int} (v : Int32) (hd : hD cc pc (.bipush n) 2 pc') (hv : (Int8.ofInt n).toInt32 = v) (k : hW Z rt M pc' L (.int v :: st) F) : hW Z rt M pc L st F := by
  obtain ⟨hd, rfl⟩ := hd
  exact fun r hr H locs ls hP hS hl => lv_bipush hz.1 hz.2.1 hd hv (k r hr H locs ls hP hS hl)
theorem x_sipush (hz : hOK Z Y cc own nL d ret) {n : Int} (v : Int32) (hd : hD cc pc (.sipush n) 3 pc') (hv : (Int16.ofInt n).toInt32 = v) (k : hW Z rt M pc' L (.int v :: st) F) : hW Z rt M pc L st F := by
  obtain ⟨hd, rfl⟩ := hd
  exact fun r hr H locs ls hP hS hl => lv_sipush hz.1 hz.2.1 hd hv (k r hr H locs ls hP hS hl)
theorem x_lconst (hz : hOK Z Y cc own nL d ret) {n : Fin 2} (v : Int64) (hd : hD cc pc (.lconst n) 1 pc') (hv : Int64.ofNat (n : Nat) = v) (k : hW Z rt M pc' L (.long v :: st) F) : hW Z rt M pc L st F := by
  obtain ⟨hd, rfl⟩ := hd
  exact fun r hr H locs ls hP hS hl => lv_lconst hz.1 hz.2.1 hd hv (k r hr H locs ls hP hS hl)
theorem x_ldc (hz : hOK Z Y cc own nL d ret) {index : Nat} (v : Int32) (hd : hD cc pc (.ldc index) 2 pc') (hw : Cond.constant own index v ∈ h_tbl) (k : hW Z rt M pc' L (.int v :: st) F) : hW Z rt M pc L st F := by
  obtain ⟨hd, rfl⟩ := hd
  exact fun r hr H locs ls hP hS hl => lv_ldc hz.1 hz.2.1 hz.2.2.2.2.1 (hz.2.2.2.2.2.1 _ hw) hd (k r hr H locs ls hP hS hl)
theorem x_ldcw (hz : hOK Z Y cc own nL d ret) {index : Nat} (v : Int32) (hd : hD cc pc (.ldc_w index) 3 pc') (hw : Cond.constant own index v ∈ h_tbl) (k : hW Z rt M pc' L (.int v :: st) F) : hW Z rt M pc L st F := by
  obtain ⟨hd, rfl⟩ := hd
  exact fun r hr H locs ls hP hS hl => lv_ldcw hz.1 hz.2.1 hz.2.2.2.2.1 (hz.2.2.2.2.2.1 _ hw) hd (k r hr H locs ls hP hS hl)
theorem x_ldc2 (hz : hOK Z Y cc own nL d ret) {index : Nat} (v : Int64) (hd : hD cc pc (.ldc2_w index) 3 pc') (hw : Cond.constantLong own index v ∈ h_tbl) (k : hW Z rt M pc' L (.long v :: st) F) : hW Z rt M pc L st F := by
  obtain ⟨hd, rfl⟩ := hd
  exact fun r hr H locs ls hP hS hl => lv_ldc2 hz.1 hz.2.1 hz.2.2.2.2.1 (hz.2.2.2.2.2.1 _ hw) hd (k r hr H locs ls hP hS hl)
theorem x_iload_n (hz : hOK Z Y cc own nL d ret) {q : Fin 4} {i : Nat} {x : Int32} (hd : hD cc pc (.iload_n q) 1 pc') (hi : (q : Nat) = i) (p : Nat) (hp : L[p]? = some (i, .int x)) (k : hW Z rt M pc' L (.int x :: st) F) : hW Z rt M pc L st F := by
  obtain ⟨hd, rfl⟩ := hd
  exact fun r hr H locs ls hP hS hl => lv_iload_n hz.1 hz.2.1 hd hi (lv_at hl p hp) (k r hr H locs ls hP hS hl)
theorem x_iload (hz : hOK Z Y cc own nL d ret) {i : Nat} {x : Int32} (hd : hD cc pc (.iload i) 2 pc') (p : Nat) (hp : L[p]? = some (i, .int x)) (k : hW Z rt M pc' L (.int x :: st) F) : hW Z rt M pc L st F := by
  obtain ⟨hd, rfl⟩ := hd
  exact fun r hr H locs ls hP hS hl => lv_iload hz.1 hz.2.1 hd (lv_at hl p hp) (k r hr H locs ls hP hS hl)
theorem x_aload_n (hz : hOK Z Y cc own nL d ret) {q : Fin 4} {i : Nat} {x : Nat} (hd : hD cc pc (.aload_n q) 1 pc') (hi : (q : Nat) = i) (p : Nat) (hp : L[p]? = some (i, .ref x)) (k : hW Z rt M pc' L (.ref x :: st) F) : hW Z rt M pc L st F := by
  obtain ⟨hd, rfl⟩ := hd
  exact fun r hr H locs ls hP hS hl => lv_aload_n hz.1 hz.2.1 hd hi (lv_at hl p hp) (k r hr H locs ls hP hS hl)
theorem x_aload (hz : hOK Z Y cc own nL d ret) {i : Nat} {x : Nat} (hd : hD cc pc (.aload i) 2 pc') (p : Nat) (hp : L[p]? = some (i, .ref x)) (k : hW Z rt M pc' L (.ref x :: st) F) : hW Z rt M pc L st F := by
  obtain ⟨hd, rfl⟩ := hd
  exact fun r hr H locs ls hP hS hl => lv_aload hz.1 hz.2.1 hd (lv_at hl p hp) (k r hr H locs ls hP hS hl)
theorem x_lload_n (hz : hOK Z Y cc own nL d ret) {q : Fin 4} {i : Nat} {x : Int64} (hd : hD cc pc (.lload_n q) 1 pc') (hi : (q : Nat) = i) (p : Nat) (hp : L[p]? = some (i, .long x)) (k : hW Z rt M pc' L (.long x :: st) F) : hW Z rt M pc L st F := by
  obtain ⟨hd, rfl⟩ := hd
  exact fun r hr H locs ls hP hS hl => lv_lload_n hz.1 hz.2.1 hd hi (lv_at hl p hp) (k r hr H locs ls hP hS hl)
theorem x_lload (hz : hOK Z Y cc own nL d ret) {i : Nat} {x : Int64} (hd : hD cc pc (.lload i) 2 pc') (p : Nat) (hp : L[p]? = some (i, .long x)) (k : hW Z rt M pc' L (.long x :: st) F) : hW Z rt M pc L st F := by
  obtain ⟨hd, rfl⟩ := hd
  exact fun r hr H locs ls hP hS hl => lv_lload hz.1 hz.2.1 hd (lv_at hl p hp) (k r hr H locs ls hP hS hl)
theorem x_istore_n (hz : hOK Z Y cc own nL d ret) {q : Fin 4} {i : Nat} {x : Int32} (L' : List (Nat × Value)) (hd : hD cc pc (.istore_n q) 1 pc') (hi : (q : Nat) = i) (hn : Nat.blt (i) nL = true) (hL : (i, .int x) :: L.filter (fun q => !(q.1 == i) && !(q.1 + 1 == i && q.2.category == 2)) = L') (k : hW Z rt M pc' L' st F) : hW Z rt M pc L (.int x :: st) F := by
  obtain ⟨hd, rfl⟩ := hd
  exact fun r hr H locs ls hP hS hl => lv_istore_n hz.1 hz.2.1 hd hi hl (by rw [hz.2.2.2.2.2.2.2.2.2.2.2.2.2]; exact Nat.le_of_ble_eq_true hn) hL (fun ls hl => k r hr H locs ls hP hS hl)
theorem x_istore (hz : hOK Z Y cc own nL d ret) {i : Nat} {x : Int32} (L' : List (Nat × Value)) (hd : hD cc pc (.istore i) 2 pc') (hn : Nat.blt (i) nL = true) (hL : (i, .int x) :: L.filter (fun q => !(q.1 == i) && !(q.1 + 1 == i && q.2.category == 2)) = L') (k : hW Z rt M pc' L' st F) : hW Z rt M pc L (.int x :: st) F := by
  obtain ⟨hd, rfl⟩ := hd
  exact fun r hr H locs ls hP hS hl => lv_istore hz.1 hz.2.1 hd hl (by rw [hz.2.2.2.2.2.2.2.2.2.2.2.2.2]; exact Nat.le_of_ble_eq_true hn) hL (fun ls hl => k r hr H locs ls hP hS hl)
theorem x_astore_n (hz : hOK Z Y cc own nL d ret) {q : Fin 4} {i : Nat} {x : Nat} (L' : List (Nat × Value)) (hd : hD cc pc (.astore_n q) 1 pc') (hi : (q : Nat) = i) (hn : Nat.blt (i) nL = true) (hL : (i, .ref x) :: L.filter (fun q => !(q.1 == i) && !(q.1 + 1 == i && q.2.category == 2)) = L') (k : hW Z rt M pc' L' st F) : hW Z rt M pc L (.ref x :: st) F := by
  obtain ⟨hd, rfl⟩ := hd
  exact fun r hr H locs ls hP hS hl => lv_astore_n hz.1 hz.2.1 hd hi hl (by rw [hz.2.2.2.2.2.2.2.2.2.2.2.2.2]; exact Nat.le_of_ble_eq_true hn) hL (fun ls hl => k r hr H locs ls hP hS hl)
theorem x_astore (hz : hOK Z Y cc own nL d ret) {i : Nat} {x : Nat} (L' : List (Nat × Value)) (hd : hD cc pc (.astore i) 2 pc') (hn : Nat.blt (i) nL = true) (hL : (i, .ref x) :: L.filter (fun q => !(q.1 == i) && !(q.1 + 1 == i && q.2.category == 2)) = L') (k : hW Z rt M pc' L' st F) : hW Z rt M pc L (.ref x :: st) F := by
  obtain ⟨hd, rfl⟩ := hd
  exact fun r hr H locs ls hP hS hl => lv_astore hz.1 hz.2.1 hd hl (by rw [hz.2.2.2.2.2.2.2.2.2.2.2.2.2]; exact Nat.le_of_ble_eq_true hn) hL (fun ls hl => k r hr H locs ls hP hS hl)
theorem x_lstore_n (hz : hOK Z Y cc own nL d ret) {q : Fin 4} {i : Nat} {x : Int64} (L' : List (Nat × Value)) (hd : hD cc pc (.lstore_n q) 1 pc') (hi : (q : Nat) = i) (hn : Nat.blt (i + 1) nL = true) (hL : (i, .long x) :: L.filter (fun q => !(q.1 == i) && (!(q.1 == i + 1) && !(q.1 + 1 == i && q.2.category == 2))) = L') (k : hW Z rt M pc' L' st F) : hW Z rt M pc L (.long x :: st) F := by
  obtain ⟨hd, rfl⟩ := hd
  exact fun r hr H locs ls hP hS hl => lv_lstore_n hz.1 hz.2.1 hd hi hl (by rw [hz.2.2.2.2.2.2.2.2.2.2.2.2.2]; exact Nat.le_of_ble_eq_true hn) hL (fun ls hl => k r hr H locs ls hP hS hl)
theorem x_lstore (hz : hOK Z Y cc own nL d ret) {i : Nat} {x : Int64} (L' : List (Nat × Value)) (hd : hD cc pc (.lstore i) 2 pc') (hn : Nat.blt (i + 1) nL = true) (hL : (i, .long x) :: L.filter (fun q => !(q.1 == i) && (!(q.1 == i + 1) && !(q.1 + 1 == i && q.2.category == 2))) = L') (k : hW Z rt M pc' L' st F) : hW Z rt M pc L (.long x :: st) F := by
  obtain ⟨hd, rfl⟩ := hd
  exact fun r hr H locs ls hP hS hl => lv_lstore hz.1 hz.2.1 hd hl (by rw [hz.2.2.2.2.2.2.2.2.2.2.2.2.2]; exact Nat.le_of_ble_eq_true hn) hL (fun ls hl => k r hr H locs ls hP hS hl)
theorem x_iinc (hz : hOK Z Y cc own nL d ret) {i : Nat} {n : Int} {x : Int32} (v : Int32) (L' : List (Nat × Value)) (hd : hD cc pc (.iinc i n) 3 pc') (p : Nat) (hp : L[p]? = some (i, .int x)) (hv : x + Int32.ofInt n = v) (hn : Nat.blt i nL = true) (hL : (i, Value.int v) :: L.filter (fun q => !(q.1 == i) && !(q.1 + 1 == i && q.2.category == 2)) = L') (k : hW Z rt M pc' L' st F) : hW Z rt M pc L st F := by
  obtain ⟨hd, rfl⟩ := hd
  exact fun r hr H locs ls hP hS hl => lv_iinc hz.1 hz.2.1 hd hl hp hv (by rw [hz.2.2.2.2.2.2.2.2.2.2.2.2.2]; exact Nat.le_of_ble_eq_true hn) hL (fun ls hl => k r hr H locs ls hP hS hl)
theorem x_dup (hz : hOK Z Y cc own nL d ret) {va : Value} (hd : hD cc pc .dup 1 pc') (hva : va.category = 1) (k : hW Z rt M pc' L (va :: va :: st) F) : hW Z rt M pc L (va :: st) F := by
  obtain ⟨hd, rfl⟩ := hd
  exact fun r hr H locs ls hP hS hl => lv_dup hz.1 hz.2.1 hd hva (k r hr H locs ls hP hS hl)
theorem x_dup2 (hz : hOK Z Y cc own nL d ret) {va vb : Value} (hd : hD cc pc .dup2 1 pc') (hva : va.category = 1) (hvb : vb.category = 1) (k : hW Z rt M pc' L (va :: vb :: va :: vb :: st) F) : hW Z rt M pc L (va :: vb :: st) F := by
  obtain ⟨hd, rfl⟩ := hd
  exact fun r hr H locs ls hP hS hl => lv_dup2_11 hz.1 hz.2.1 hd hva hvb (k r hr H locs ls hP hS hl)
theorem x_pop (hz : hOK Z Y cc own nL d ret) {va : Value} (hd : hD cc pc .pop 1 pc') (hva : va.category = 1) (k : hW Z rt M pc' L st F) : hW Z rt M pc L (va :: st) F := by
  obtain ⟨hd, rfl⟩ := hd
  exact fun r hr H locs ls hP hS hl => lv_pop hz.1 hz.2.1 hd hva (k r hr H locs ls hP hS hl)
theorem x_if_eq (hz : hOK Z Y cc own nL d ret) {x : Int32} {off : Int} (hd : hJ cc pc (.ifCond .eq off) 3 pc' off tgt) (kA : hW Z rt M tgt L st A) (kB : hW Z rt M pc' L st B) : hW Z rt M pc L (.int x :: st) (if x = 0 then A else B) := by
  obtain ⟨hd, rfl, ht⟩ := hd
  exact fun r hr H locs ls hP hS hl => lv_if_eq hz.1 hz.2.1 hd ht (fun h => kA r ((if_pos h).symm.trans hr) H locs ls hP hS hl) (fun h => kB r ((if_neg h).symm.trans hr) H locs ls hP hS hl)
theorem x_if_ne (hz : hOK Z Y cc own nL d ret) {x : Int32} {off : Int} (hd : hJ cc pc (.ifCond .ne off) 3 pc' off tgt) (kA : hW Z rt M tgt L st A) (kB : hW Z rt M pc' L st B) : hW Z rt M pc L (.int x :: st) (if x = 0 then B else A) := by
  obtain ⟨hd, rfl, ht⟩ := hd
  exact fun r hr H locs ls hP hS hl => lv_if_ne hz.1 hz.2.1 hd ht (fun h => kA r ((if_neg h).symm.trans hr) H locs ls hP hS hl) (fun h => kB r ((if_pos h).symm.trans hr) H locs ls hP hS hl)
theorem x_if_lt (hz : hOK Z Y cc own nL d ret) {x : Int32} {off : Int} (hd : hJ cc pc (.ifCond .lt off) 3 pc' off tgt) (kA : hW Z rt M tgt L st A) (kB : hW Z rt M pc' L st B) : hW Z rt M pc L (.int x :: st) (if x < 0 then A else B) := by
  obtain ⟨hd, rfl, ht⟩ := hd
  exact fun r hr H locs ls hP hS hl => lv_if_lt hz.1 hz.2.1 hd ht (fun h => kA r ((if_pos h).symm.trans hr) H locs ls hP hS hl) (fun h => kB r ((if_neg h).symm.trans hr) H locs ls hP hS hl)
theorem x_if_ge (hz : hOK Z Y cc own nL d ret) {x : Int32} {off : Int} (hd : hJ cc pc (.ifCond .ge off) 3 pc' off tgt) (kA : hW Z rt M tgt L st A) (kB : hW Z rt M pc' L st B) : hW Z rt M pc L (.int x :: st) (if 0 ≤ x then A else B) := by
  obtain ⟨hd, rfl, ht⟩ := hd
  exact fun r hr H locs ls hP hS hl => lv_if_ge hz.1 hz.2.1 hd ht (fun h => kA r ((if_pos h).symm.trans hr) H locs ls hP hS hl) (fun h => kB r ((if_neg h).symm.trans hr) H locs ls hP hS hl)
theorem x_if_gt (hz : hOK Z Y cc own nL d ret) {x : Int32} {off : Int} (hd : hJ cc pc (.ifCond .gt off) 3 pc' off tgt) (kA : hW Z rt M tgt L st A) (kB : hW Z rt M pc' L st B) : hW Z rt M pc L (.int x :: st) (if 0 < x then A else B) := by
  obtain ⟨hd, rfl, ht⟩ := hd
  exact fun r hr H locs ls hP hS hl => lv_if_gt hz.1 hz.2.1 hd ht (fun h => kA r ((if_pos h).symm.trans hr) H locs ls hP hS hl) (fun h => kB r ((if_neg h).symm.trans hr) H locs ls hP hS hl)
theorem x_if_le (hz : hOK Z Y cc own nL d ret) {x : Int32} {off : Int} (hd : hJ cc pc (.ifCond .le off) 3 pc' off tgt) (kA : hW Z rt M tgt L st A) (kB : hW Z rt M pc' L st B) : hW Z rt M pc L (.int x :: st) (if x ≤ 0 then A else B) := by
  obtain ⟨hd, rfl, ht⟩ := hd
  exact fun r hr H locs ls hP hS hl => lv_if_le hz.1 hz.2.1 hd ht (fun h => kA r ((if_pos h).symm.trans hr) H locs ls hP hS hl) (fun h => kB r ((if_neg h).symm.trans hr) H locs ls hP hS hl)
theorem x_icmp_eq (hz : hOK Z Y cc own nL d ret) {x y : Int32} {off : Int} (hd : hJ cc pc (.if_icmp .eq off) 3 pc' off tgt) (kA : hW Z rt M tgt L st A) (kB : hW Z rt M pc' L st B) : hW Z rt M pc L (.int y :: .int x :: st) (if x = y then A else B) := by
  obtain ⟨hd, rfl, ht⟩ := hd
  exact fun r hr H locs ls hP hS hl => lv_icmp_eq hz.1 hz.2.1 hd ht (fun h => kA r ((if_pos h).symm.trans hr) H locs ls hP hS hl) (fun h => kB r ((if_neg h).symm.trans hr) H locs ls hP hS hl)
theorem x_icmp_ne (hz : hOK Z Y cc own nL d ret) {x y : Int32} {off : Int} (hd : hJ cc pc (.if_icmp .ne off) 3 pc' off tgt) (kA : hW Z rt M tgt L st A) (kB : hW Z rt M pc' L st B) : hW Z rt M pc L (.int y :: .int x :: st) (if x = y then B else A) := by
  obtain ⟨hd, rfl, ht⟩ := hd
  exact fun r hr H locs ls hP hS hl => lv_icmp_ne hz.1 hz.2.1 hd ht (fun h => kA r ((if_neg h).symm.trans hr) H locs ls hP hS hl) (fun h => kB r ((if_pos h).symm.trans hr) H locs ls hP hS hl)
theorem x_icmp_lt (hz : hOK Z Y cc own nL d ret) {x y : Int32} {off : Int} (hd : hJ cc pc (.if_icmp .lt off) 3 pc' off tgt) (kA : hW Z rt M tgt L st A) (kB : hW Z rt M pc' L st B) : hW Z rt M pc L (.int y :: .int x :: st) (if x < y then A else B) := by
  obtain ⟨hd, rfl, ht⟩ := hd
  exact fun r hr H locs ls hP hS hl => lv_icmp_lt hz.1 hz.2.1 hd ht (fun h => kA r ((if_pos h).symm.trans hr) H locs ls hP hS hl) (fun h => kB r ((if_neg h).symm.trans hr) H locs ls hP hS hl)
theorem x_icmp_ge (hz : hOK Z Y cc own nL d ret) {x y : Int32} {off : Int} (hd : hJ cc pc (.if_icmp .ge off) 3 pc' off tgt) (kA : hW Z rt M tgt L st A) (kB : hW Z rt M pc' L st B) : hW Z rt M pc L (.int y :: .int x :: st) (if y ≤ x then A else B) := by
  obtain ⟨hd, rfl, ht⟩ := hd
  exact fun r hr H locs ls hP hS hl => lv_icmp_ge hz.1 hz.2.1 hd ht (fun h => kA r ((if_pos h).symm.trans hr) H locs ls hP hS hl) (fun h => kB r ((if_neg h).symm.trans hr) H locs ls hP hS hl)
theorem x_icmp_gt (hz : hOK Z Y cc own nL d ret) {x y : Int32} {off : Int} (hd : hJ cc pc (.if_icmp .gt off) 3 pc' off tgt) (kA : hW Z rt M tgt L st A) (kB : hW Z rt M pc' L st B) : hW Z rt M pc L (.int y :: .int x :: st) (if y < x then A else B) := by
  obtain ⟨hd, rfl, ht⟩ := hd
  exact fun r hr H locs ls hP hS hl => lv_icmp_gt hz.1 hz.2.1 hd ht (fun h => kA r ((if_pos h).symm.trans hr) H locs ls hP hS hl) (fun h => kB r ((if_neg h).symm.trans hr) H locs ls hP hS hl)
theorem x_icmp_le (hz : hOK Z Y cc own nL d ret) {x y : Int32} {off : Int} (hd : hJ cc pc (.if_icmp .le off) 3 pc' off tgt) (kA : hW Z rt M tgt L st A) (kB : hW Z rt M pc' L st B) : hW Z rt M pc L (.int y :: .int x :: st) (if x ≤ y then A else B) := by
  obtain ⟨hd, rfl, ht⟩ := hd
  exact fun r hr H locs ls hP hS hl => lv_icmp_le hz.1 hz.2.1 hd ht (fun h => kA r ((if_pos h).symm.trans hr) H locs ls hP hS hl) (fun h => kB r ((if_neg h).symm.trans hr) H locs ls hP hS hl)
theorem x_goto (hz : hOK Z Y cc own nL d ret) {off : Int} (hd : hJ cc pc (.goto off) 3 pc' off tgt) (k : hW Z rt M tgt L st F) : hW Z rt M pc L st F := by
  obtain ⟨hd, rfl, ht⟩ := hd
  exact fun r hr H locs ls hP hS hl => lv_goto hz.1 hz.2.1 hd ht (k r hr H locs ls hP hS hl)
theorem x_tabIn (hz : hOK Z Y cc own nL d ret) {dflt lo hi : Int} {offs : Array Int} {len : Nat} {x : Int32} {off : Int} (hd : hD cc pc (.tableswitch dflt lo hi offs) len pc') (z : Int) (hx : x.toInt = z) (h1 : ¬ z < lo) (h2 : ¬ hi < z) (ho : offs[(z - lo).toNat]? = some off) (ht : (pc : Int) + off = (tgt : Int)) (k : hW Z rt M tgt L st F) : hW Z rt M pc L (.int x :: st) F := by
  obtain ⟨hd, rfl⟩ := hd
  subst hx
  exact fun r hr H locs ls hP hS hl => lv_tableIn hz.1 hz.2.1 hd h1 h2 ho ht (k r hr H locs ls hP hS hl)
theorem x_tabOut (hz : hOK Z Y cc own nL d ret) {dflt lo hi : Int} {offs : Array Int} {len : Nat} {x : Int32} (hd : hD cc pc (.tableswitch dflt lo hi offs) len pc') (h : x.toInt < lo ∨ hi < x.toInt) (ht : (pc : Int) + dflt = (tgt : Int)) (k : hW Z rt M tgt L st F) : hW Z rt M pc L (.int x :: st) F := by
  obtain ⟨hd, rfl⟩ := hd
  exact fun r hr H locs ls hP hS hl => lv_tableOut hz.1 hz.2.1 hd h ht (k r hr H locs ls hP hS hl)
theorem x_look (hz : hOK Z Y cc own nL d ret) {dflt : Int} {ps : Array (Int × Int)} {len : Nat} {x : Int32} {off : Int} (hd : hD cc pc (.lookupswitch dflt ps) len pc') (hp : (ps.toList.zip (ps.toList.drop 1)).all (fun (a, next) => a.1 < next.1) = true) (ho : Op.lookupswitch.offset ps.toList dflt x.toInt = off) (ht : (pc : Int) + off = (tgt : Int)) (k : hW Z rt M tgt L st F) : hW Z rt M pc L (.int x :: st) F := by
  obtain ⟨hd, rfl⟩ := hd
  exact fun r hr H locs ls hP hS hl => lv_lookup hz.1 hz.2.1 hd hp ho ht (k r hr H locs ls hP hS hl)
theorem h_isB_is {Y : hLay} {k t n : Nat} (h : h_isB Y k t n = true) : h_is Y k t n := by
  simp only [h_isB, Bool.and_eq_true, beq_iff_eq] at h
  exact ⟨Nat.le_of_ble_eq_true h.1, Prod.ext h.2.1 h.2.2⟩
theorem h_objAt {b k ci n : Nat} {cy : Nat → ClassId} (hs : h_is Y k ci n) (hc : ci < 10) : (h_pw Y cy b M)[k]? = some (b + k, .inr (ci, (List.range (h_nf ci)).map (fun j => h_val b Y.2.1 ci k j (M k j)))) := by
  rw [h_pw_get Y cy b M hs.1, h_cell_obj (t := ci) (by rw [hs.2]) hc]
theorem h_fldAt {b k ci j : Nat} {rf : Nat → Nat → Nat} (hj : j < h_nf ci) : ((List.range (h_nf ci)).map (fun j => h_val b rf ci k j (M k j)))[j]? = some (h_val b rf ci k j (M k j)) := by
  rw [List.getElem?_map, List.getElem?_range hj]
  rfl
theorem h_val0 {b : Nat} {rf : Nat → Nat → Nat} {t k j : Nat} {v : Int32} (h : h_kd t j = 0) : h_val b rf t k j v = .int v := by
  unfold h_val
  rw [if_pos h]
theorem h_val1 {b : Nat} {rf : Nat → Nat → Nat} {t k j : Nat} {v : Int32} (h : h_kd t j = 1) (h0 : rf k j ≠ 0) : h_val b rf t k j v = .ref (b + rf k j) := by
  unfold h_val
  rw [if_neg (by rw [h]; decide), if_pos h, if_neg h0]
theorem h_val2 {b : Nat} {rf : Nat → Nat → Nat} {t k j : Nat} {v : Int32} (h : h_kd t j = 2) (h0 : v ≠ 0) : h_val b rf t k j v = .ref (b + v.toNatClampNeg) := by
  unfold h_val
  rw [if_neg (by rw [h]; decide), if_neg (by rw [h]; decide), if_neg h0]
/-- getfield, whatever it is -/
theorem x_get0 (hz : hOK Z Y cc own nL d ret) {k ci n j idx : Nat} {v : Value} (hs : h_is Y k ci n) (fl : h_FL own idx ci j) (hv : h_val (h_b Z) Y.2.1 ci k j (M k j) = v) (hd : hD cc pc (.getfield idx) 3 pc') (kk : hW Z rt M pc' L (v :: st) F) : hW Z rt M pc L (.ref (h_b Z + k) :: st) F := by
  obtain ⟨hd, rfl⟩ := hd
  obtain ⟨hx, hb, hml, hr0, hown, hts, hK, hN, hE, hT, hlk, hR, hY, hnL⟩ := hz
  obtain ⟨C, T, ty, h1, h2, h3, h4, h5, h6, h7⟩ := fl
  intro r hr H locs ls hP hS hl
  refine va_get (D := (h_d Z).1) (cl := vwCl) (ci := ci) (C := C) (T := T) (N := h_nf ci) hx hb hts h5 hown hK hP k (by rw [hY]; exact h_objAt hs h2) h1 j h3 (hts _ h4) (fun _ h9 => h9) (v := v) ?_ hd (kk r hr H locs ls hP hS hl)
  rw [h_fldAt h3, ← hv]
theorem x_geti (hz : hOK Z Y cc own nL d ret) {k ci n j idx : Nat} (hs : h_is Y k ci n) (fl : h_FL own idx ci j) (hkd : h_kd ci j = 0) (hd : hD cc pc (.getfield idx) 3 pc') (kk : hW Z rt M pc' L (.int (M k j) :: st) F) : hW Z rt M pc L (.ref (h_b Z + k) :: st) F :=
  x_get0 hz hs fl (h_val0 hkd) hd kk
theorem x_getr (hz : hOK Z Y cc own nL d ret) {k ci n j idx q : Nat} (hs : h_is Y k ci n) (fl : h_FL own idx ci j) (hkd : h_kd ci j = 1) (hq : Y.2.1 k j = q) (h0 : q ≠ 0) (hd : hD cc pc (.getfield idx) 3 pc') (kk : hW Z rt M pc' L (.ref (h_b Z + q) :: st) F) : hW Z rt M pc L (.ref (h_b Z + k) :: st) F :=
  x_get0 hz hs fl ((h_val1 hkd (by rw [hq]; exact h0)).trans (by rw [hq])) hd kk
theorem x_getd (hz : hOK Z Y cc own nL d ret) {k ci n j idx t n2 : Nat} (hs : h_is Y k ci n) (fl : h_FL own idx ci j) (hkd : h_kd ci j = 2) (hno : h_isB Y 0 t n2 = false) (hd : hD cc pc (.getfield idx) 3 pc') (kk : h_isB Y (M k j).toNatClampNeg t n2 = true → hW Z rt M pc' L (.ref (h_b Z + (M k j).toNatClampNeg) :: st) F) : hW Z rt M pc L (.ref (h_b Z + k) :: st) (if h_isB Y (M k j).toNatClampNeg t n2 = true then F else none) :=
  x_guard (fun hg => x_get0 hz hs fl (h_val2 hkd (fun h0 => by rw [h0] at hg; exact absurd (hg.symm.trans hno) (by decide))) hd (kk hg))
theorem h_listset0 {k j N : Nat} (g : Nat → Int32 → Value) (v : Int32) (hj : j < N) : ((List.range N).map (fun i => g i (M k i))).set j (g j v) = (List.range N).map (fun i => g i (h_up M k j v k i)) := by
  apply List.ext_getElem?
  intro i
  by_cases hij : i = j
  · subst hij
    rw [List.getElem?_set_self (by rw [List.length_map, List.length_range]; exact hj), List.getElem?_map, List.getElem?_range hj, Option.map_some, h_up_same]
  · rw [List.getElem?_set_ne (Ne.symm hij), List.getElem?_map, List.getElem?_map]
    by_cases ha : i < N
    · rw [List.getElem?_range ha, Option.map_some, Option.map_some, h_up_slot M k j v k hij]
    · rw [List.getElem?_eq_none (by rw [List.length_range]; omega)]
      rfl
theorem h_listset {b k ci j N : Nat} {rf : Nat → Nat → Nat} {v : Int32} (hj : j < N) : ((List.range N).map (fun i => h_val b rf ci k i (M k i))).set j (h_val b rf ci k j v) = (List.range N).map (fun i => h_val b rf ci k i (h_up M k j v k i)) := h_listset0 (fun i x => h_val b rf ci k i x) v hj
theorem x_put0 (hz : hOK Z Y cc own nL d ret) {k ci n j idx : Nat} {tj : FieldType} {x : Int32} {v : Value} (hs : h_is Y k ci n) (fp : h_FP own idx ci j tj) (hv : h_val (h_b Z) Y.2.1 ci k j x = v) (hna : narrow tj v = v) (hfi : fits tj v = true) (hd : hD cc pc (.putfield idx) 3 pc') (kk : hW Z rt (h_up M k j x) pc' L st F) : hW Z rt M pc L (v :: .ref (h_b Z + k) :: st) F := by
  obtain ⟨hd, rfl⟩ := hd
  obtain ⟨hx, hb, hml, hr0, hown, hts, hK, hN, hE, hT, hlk, hR, hY, hnL⟩ := hz
  obtain ⟨C, T, ty, h1, h2, h3, h4, h5, h6, h7, h8, h9⟩ := fp
  subst hY
  subst hv
  intro r hr H locs ls hP hS hl
  refine va_put (D := (h_d Z).1) (cl := vwCl) (ci := ci) (C := C) (T := T) (N := h_nf ci) hx hb hts h5 ty h6 h7 hown hK hP (h_pw_D _ _ _ _) hS k (h_objAt hs h2) h1 j h3 (hts _ h4) (fun _ h9 => h9) h8 h9 hna hfi (by rw [List.length_map, List.length_range]; exact h3) hd (fun H1 locs1 hP1 hD1 hS1 => ?_)
  refine kk r hr H1 locs1 ls ?_ hS1 hl
  rw [← h_pw_set (h_Y Z) (h_d Z).2.1 (h_b Z) M (k := k) (M' := h_up M k j x) (x := (h_b Z + k, .inr (ci, ((List.range (h_nf ci)).map (fun j => h_val (h_b Z) (h_Y Z).2.1 ci k j (M k j))).set j (h_val (h_b Z) (h_Y Z).2.1 ci k j x)))) ?_ (fun a ha => h_up_row M k j x ha)]
  · exact hP1
  · rw [h_listset h3, h_cell_obj (t := ci) (by rw [hs.2]) h2]
theorem x_puti (hz : hOK Z Y cc own nL d ret) {k ci n j idx : Nat} {x : Int32} (hs : h_is Y k ci n) (fp : h_FP own idx ci j .int) (hkd : h_kd ci j = 0) (hd : hD cc pc (.putfield idx) 3 pc') (kk : hW Z rt (h_up M k j x) pc' L st F) : hW Z rt M pc L (.int x :: .ref (h_b Z + k) :: st) F :=
  x_put0 hz hs fp (h_val0 hkd) (vp_nar_int x) rfl hd kk
theorem x_putz (hz : hOK Z Y cc own nL d ret) {k ci n j idx : Nat} {x : Int32} (hs : h_is Y k ci n) (fp : h_FP own idx ci j .boolean) (hkd : h_kd ci j = 0) (hx : narrow .boolean (.int x) = .int x) (hf : fits .boolean (.int x) = true) (hd : hD cc pc (.putfield idx) 3 pc') (kk : hW Z rt (h_up M k j x) pc' L st F) : hW Z rt M pc L (.int x :: .ref (h_b Z + k) :: st) F :=
  x_put0 hz hs fp (h_val0 hkd) hx hf hd kk
theorem x_putd (hz : hOK Z Y cc own nL d ret) {k ci n j idx q : Nat} {C : String} (hs : h_is Y k ci n) (fp : h_FP own idx ci j (.object C)) (hkd : h_kd ci j = 2) (hq : q ≠ 0 ∧ q < 2 ^ 31) (hd : hD cc pc (.putfield idx) 3 pc') (kk : hW Z rt (h_up M k j (nI q)) pc' L st F) : hW Z rt M pc L (.ref (h_b Z + q) :: .ref (h_b Z + k) :: st) F :=
  x_put0 hz hs fp ((h_val2 hkd (nI_ne0 (Nat.pos_of_ne_zero hq.1) hq.2)).trans (by rw [nI_clamp hq.2])) rfl rfl hd kk
theorem h_intAt {b k n : Nat} {cy : Nat → ClassId} (hs : h_is Y k 10 n) : (h_pw Y cy b M)[k]? = some (b + k, .inl (cy 10, n, .inl (M k))) := by
  rw [h_pw_get Y cy b M hs.1, h_cell_int hs.2]
/-- iaload, the index being within -/
theorem x_iald0 (hz : hOK Z Y cc own nL d ret) {k n : Nat} {i : Int32} {v : Int32} (hs : h_is Y k 10 n) (hi : h_ib i n) (hv : M k i.toNatClampNeg = v) (hd : hD cc pc .iaload 1 pc') (kk : hW Z rt M pc' L (.int v :: st) F) : hW Z rt M pc L (.int i :: .ref (h_b Z + k) :: st) F := by
  obtain ⟨hd, rfl⟩ := hd
  obtain ⟨hx, hb, hml, hr0, hown, hts, hK, hN, hE, hT, hlk, hR, hY, hnL⟩ := hz
  subst hY
  subst hv
  intro r hr H locs ls hP hS hl
  exact va_iald (D := (h_d Z).1) (cl := vwCl) hx hb hK hP k 0 (h_intAt hs) rfl hi.vp hd (kk r hr H locs ls hP hS hl)
theorem x_iald (hz : hOK Z Y cc own nL d ret) {k n : Nat} {i : Int32} (hs : h_is Y k 10 n) (hd : hD cc pc .iaload 1 pc') (kk : h_ib i n → hW Z rt M pc' L (.int (M k i.toNatClampNeg) :: st) F) : hW Z rt M pc L (.int i :: .ref (h_b Z + k) :: st) (if h_ib i n then F else none) :=
  x_guard (fun h => x_iald0 hz hs h rfl hd (kk h))
theorem x_iast0 (hz : hOK Z Y cc own nL d ret) {k n j : Nat} {i x : Int32} (hs : h_is Y k 10 n) (hi : h_ib i n) (hj : i.toNatClampNeg = j) (hd : hD cc pc .iastore 1 pc') (kk : hW Z rt (h_up M k j x) pc' L st F) : hW Z rt M pc L (.int x :: .int i :: .ref (h_b Z + k) :: st) F := by
  obtain ⟨hd, rfl⟩ := hd
  obtain ⟨hx, hb, hml, hr0, hown, hts, hK, hN, hE, hT, hlk, hR, hY, hnL⟩ := hz
  subst hY
  subst hj
  intro r hr H locs ls hP hS hl
  refine va_iast (D := (h_d Z).1) (cl := vwCl) hx hb hK hP (h_pw_D _ _ _ _) hS k 0 (h_intAt hs) rfl hi.vp hd (fun H1 locs1 hP1 hD1 hS1 => ?_)
  refine kk r hr H1 locs1 ls ?_ hS1 hl
  rw [← h_pw_set (h_Y Z) (h_d Z).2.1 (h_b Z) M (k := k) (M' := h_up M k i.toNatClampNeg x) (x := (h_b Z + k, .inl ((h_d Z).2.1 10, n, .inl (upd (M k) i.toNatClampNeg x)))) ?_ (fun a ha => h_up_row M k _ x ha)]
  · exact hP1
  · rw [h_cell_int hs.2]
    rw [show h_up M k i.toNatClampNeg x k = upd (M k) i.toNatClampNeg x from by funext q; simp [h_up, upd]]
theorem x_iast (hz : hOK Z Y cc own nL d ret) {k n : Nat} {i x : Int32} (hs : h_is Y k 10 n) (hd : hD cc pc .iastore 1 pc') (kk : h_ib i n → hW Z rt (h_up M k i.toNatClampNeg x) pc' L st F) : hW Z rt M pc L (.int x :: .int i :: .ref (h_b Z + k) :: st) (if h_ib i n then F else none) :=
  x_guard (fun h => x_iast0 hz hs h rfl hd (kk h))
theorem h_refAt {b k t n : Nat} {cy : Nat → ClassId} (hs : h_is Y k t n) (ht : 10 < t) : (h_pw Y cy b M)[k]? = some (b + k, .inl (cy t, n, .inr (.inr (.inr (.inr (fun j => if Y.2.1 k j = 0 then none else some (b + Y.2.1 k j))))))) := by
  rw [h_pw_get Y cy b M hs.1, h_cell_ref hs.2 ht]
/-- aaload; p: the place of its class among h_tys -/
theorem x_aald0 (hz : hOK Z Y cc own nL d ret) {k t n q : Nat} {i : Int32} {C : String} (p : Nat) (hp : ∀ cy, (h_tys cy)[p]? = some (cy t, .object C)) (hs : h_is Y k t n) (ht : 10 < t) (hi : h_ib i n) (hq : Y.2.1 k i.toNatClampNeg = q) (h0 : q ≠ 0) (hd : hD cc pc .aaload 1 pc') (kk : hW Z rt M pc' L (.ref (h_b Z + q) :: st) F) : hW Z rt M pc L (.int i :: .ref (h_b Z + k) :: st) F := by
  obtain ⟨hd, rfl⟩ := hd
  obtain ⟨hx, hb, hml, hr0, hown, hts, hK, hN, hE, hT, hlk, hR, hY, hnL⟩ := hz
  subst hY
  subst hq
  intro r hr H locs ls hP hS hl
  refine va_aldq (D := (h_d Z).1) (cl := vwCl) hx hb hK hP k p (h_refAt hs ht) (hp _) hi.vp hd ?_
  rw [if_neg h0]
  exact kk r hr H locs ls hP hS hl
theorem x_aalda0 (hz : hOK Z Y cc own nL d ret) {k n q : Nat} {i : Int32} (hs : h_is Y k 15 n) (hi : h_ib i n) (hq : Y.2.1 k i.toNatClampNeg = q) (h0 : q ≠ 0) (hd : hD cc pc .aaload 1 pc') (kk : hW Z rt M pc' L (.ref (h_b Z + q) :: st) F) : hW Z rt M pc L (.int i :: .ref (h_b Z + k) :: st) F := by
  obtain ⟨hd, rfl⟩ := hd
  obtain ⟨hx, hb, hml, hr0, hown, hts, hK, hN, hE, hT, hlk, hR, hY, hnL⟩ := hz
  subst hY
  subst hq
  intro r hr H locs ls hP hS hl
  have hin := hi.vp
  have hlt : i.toNatClampNeg < n := hi.2
  exact W.aald (v := va_rf (some (h_b Z + (h_Y Z).2.1 k i.toNatClampNeg))) (ty := .array .int) hx hb (hP k _ (h_refAt hs (by decide))) ((hK.2 5 _ rfl).1 n (fun j => va_rf (if (h_Y Z).2.1 k j = 0 then none else some (h_b Z + (h_Y Z).2.1 k j)))) rfl (fun q => by cases q) (by show ¬ (i < 0 ∨ (arrV _ _ _).slots.size ≤ _); rw [arrV_size]; exact hin) (by show (arrV _ _ _).slots[_]? = _; rw [arrV_read _ _ hlt]; exact congrArg some (congrArg va_rf (if_neg h0))) rfl rfl hd (kk r hr H locs ls hP hS hl)
/-! returns -/
theorem x_iret (hz : hOK Z Y cc own nL d (some .int)) {v : Int32} {r0 : α} (hv : rt r0 = (some (.int v), M)) (hd : hD cc pc .ireturn 1 pc') : hW Z rt M pc L [.int v] (some r0) := by
  obtain ⟨hd, rfl⟩ := hd
  obtain ⟨hx, hb, hml, hr0, hown, hts, hK, hN, hE, hT, hlk, hR, hY, hnL⟩ := hz
  intro r hr H locs ls hP hS hl
  cases hr
  exact W.iret hx hb hr0 (fun t ht hW => ⟨by rw [hv], by rw [hv, ht]; exact hP, hS.F ht⟩) hS.2.2 hd hlk
theorem x_zret (hz : hOK Z Y cc own nL d (some .boolean)) {v : Int32} {r0 : α} (hn : narrow .boolean (.int v) = .int v) (hv : rt r0 = (some (.int v), M)) (hd : hD cc pc .ireturn 1 pc') : hW Z rt M pc L [.int v] (some r0) := by
  obtain ⟨hd, rfl⟩ := hd
  obtain ⟨hx, hb, hml, hr0, hown, hts, hK, hN, hE, hT, hlk, hR, hY, hnL⟩ := hz
  intro r hr H locs ls hP hS hl
  cases hr
  exact W.zret hx hb hr0 hn (fun t ht hW => ⟨by rw [hv], by rw [hv, ht]; exact hP, hS.F ht⟩) hS.2.2 hd hlk
theorem x_vret (hz : hOK Z Y cc own nL d none) {r0 : α} (hv : rt r0 = (none, M)) (hd : hD cc pc .return_ 1 pc') : hW Z rt M pc L [] (some r0) := by
  obtain ⟨hd, rfl⟩ := hd
  obtain ⟨hx, hb, hml, hr0, hown, hts, hK, hN, hE, hT, hlk, hR, hY, hnL⟩ := hz
  intro r hr H locs ls hP hS hl
  cases hr
  exact W.vret hx hb hr0 (fun t ht hW => ⟨by rw [hv], by rw [hv, ht]; exact hP, hS.F ht⟩) hS.2.2 hd hlk
theorem x_lret (hz : hOK Z Y cc own nL d (some .long)) {v : Int64} {r0 : α} (hv : rt r0 = (some (.long v), M)) (hd : hD cc pc .lreturn 1 pc') : hW Z rt M pc L [.long v] (some r0) := by
  obtain ⟨hd, rfl⟩ := hd
  obtain ⟨hx, hb, hml, hr0, hown, hts, hK, hN, hE, hT, hlk, hR, hY, hnL⟩ := hz
  intro r hr H locs ls hP hS hl
  cases hr
  exact W.lret hx hb hr0 (fun t ht hW => ⟨by rw [hv], by rw [hv, ht]; exact hP, hS.F ht⟩) hS.2.2 hd hlk
/-! calls -/
theorem h_St_blind (Y : hLay) (dd : hDD) (b : Nat) (M : hMem) (av : List Value) : FrameBlind (va_Pc av (h_St Y dd b M)) := by
  intro a U g mk q
  obtain ⟨q0, qP, qK, qN, qE, qT⟩ := q
  exact ⟨q0, qP, va_K.moved (u := U) (U := U.calling g mk a) (Vm.Alike.refl U.vm) qK, fun x hx => va_Nw.same rfl rfl (qN x hx), h_Ex.moved (u := U) (U := U.calling g mk a) (Vm.Alike.refl U.vm) qE, fun i x hx => vk_R.same rfl (qT i x hx)⟩
theorem h_St_at (hz : hOK Z Y cc own nL d ret) {H : Heap} {locs : List Loc} (hP : va_P (h_d Z).1 vwCl (h_pw (h_Y Z) (h_d Z).2.1 (h_b Z) M) H) (hS : va_S (h_A (h_b Z) (h_Y Z)) Z.2.1.2.2.2.2.heap H locs) : ∀ U : State, U.heap = H → Z.2.1.2.2.2.2.WarmedH U.vm → h_St (h_Y Z) (h_d Z) (h_b Z) M U := by
  obtain ⟨hx, hb, hml, hr0, hown, hts, hK, hN, hE, hT, hlk, hR, hY, hnL⟩ := hz
  intro U hU hW
  refine ⟨by rw [hU]; exact hP, va_K.moved hW.alike hK, h_Nst.moved hW hN, ?_, h_Tx.moved hW hT⟩
  rw [hU]
  exact h_Ex.kept (h_Ex.moved hW.alike hE) hS.2.1
/-- behind a call -/
theorem x_after {v : Option Value} {M' : hMem} {r : α} {H : Heap} {locs : List Loc} {ls : Array Slot} {rest st : List Value}
    (hr : va_Run Z.2.1.1 Z.2.1.2.1 Z.2.1.2.2.1 Z.2.1.2.2.2.1 Z.2.1.2.2.2.2 Z.2.2.1.1 Z.2.2.1.2.1 Z.2.2.1.2.2.1 Z.2.2.1.2.2.2.1 Z.2.2.1.2.2.2.2 H locs 0 0 0 0 (F0 Z.2.2.1.1 pc ls st) rest (fun a => h_Q (h_Y Z) (h_d Z) (h_b Z) (v, M') #[] a) (h_A (h_b Z) (h_Y Z)))
    (hS : va_S (h_A (h_b Z) (h_Y Z)) Z.2.1.2.2.2.2.heap H locs)
    (kk : ∀ (H1 : Heap) (locs1 : List Loc), va_P (h_d Z).1 vwCl (h_pw (h_Y Z) (h_d Z).2.1 (h_b Z) M') H1 → va_S (h_A (h_b Z) (h_Y Z)) Z.2.1.2.2.2.2.heap H1 locs1 → h_W Z rt r H1 locs1 (F0 Z.2.2.1.1 (pc + 3) ls (v.toList ++ rest))) : h_W Z rt r H locs (F0 Z.2.2.1.1 pc ls st) := by
  intro T hT X
  obtain ⟨w, st₀, t, T', L, h0, X', hL, e1, e2, ⟨hv, hp, hz, hk⟩, sx⟩ := hr T hT X
  cases hv
  rw [h0] at hz hk
  obtain ⟨t2, a1, b1⟩ := kk T'.heap (locs ++ L) (by rw [e1]; exact hp)
    ⟨Nat.le_trans hS.1 (by rw [e1]; exact hz), fun q h1 h2 => by rw [e1, hk q (Nat.lt_of_lt_of_le h1 hS.1) h2]; exact hS.2.1 q h1 h2, fun q hq => by
      rcases List.mem_append.mp hq with h | h
      · exact hS.2.2 q h
      · exact hL q h⟩ T' rfl X'
  exact ⟨t2, sx t2 a1, b1⟩
theorem h_fit {dc d maxL : Nat} {R : Room} (hd : dc + 1 = d) (hm : maxL ≤ 40) (hR : d ≤ R.frames ∧ 64 * d ≤ R.locals) : (h_rm dc).frames + 1 ≤ R.frames ∧ 8 + (maxL + 11) + (h_rm dc).locals ≤ R.locals := by
  subst hd
  simp only [h_rm]
  omega
theorem x_callS (hz : hOK Z Y cc own nL d ret) {y : MethodName} {bytes : ByteArray} {maxL idx np dc : Nat} {ry : Option FieldType} {av rest : List Value} {v : Option Value} {M' : hMem} (ms : h_MS own idx y bytes maxL ry np) (hc : hC (h_l Z) Y (h_d Z) (h_b Z) y bytes maxL ry dc av M (v, M')) (hdd : dc + 1 = d) (hst : st = av.reverse ++ rest) (hn : av.length = np) (hw : (rest.map fun v => v.category).sum ≤ 8) (hd : hD cc pc (.invokestatic idx) 3 pc') (k : hW Z rt M' pc' L (v.toList ++ rest) F) : hW Z rt M pc L st F := by
  obtain ⟨hd, rfl⟩ := hd
  have hz0 := hz
  obtain ⟨hx, hb, hml, hr0, hown, hts, hK, hN, hE, hT, hlk, hR, hY, hnL⟩ := hz
  subst hY
  obtain ⟨⟨m1, m2, m3, m4⟩, m5, m6⟩ := ms
  intro r hr H locs ls hP hS hl
  have hfit := h_fit (maxL := maxL) hdd m4 hR
  refine x_after (v := v) (M' := M') (va_runS (As := av) (rest := rest) (cc := cc) (nL := Z.2.2.2) (Ts := h_tbl) ⟨hx, hb, hml, hown, hts⟩ hc ⟨callB_of np hts (h_goodT m1) rfl rfl rfl (hts _ m2) (hts _ m5) m3 hfit, hts _ m6⟩ ⟨h_St_blind _ _ _ _ _, fun U hU hW => ⟨rfl, h_St_at hz0 hP hS U hU hW⟩⟩ rfl hn hl.1 hst (lv_room hw) hd ⟨Nat.zero_le _, Nat.zero_le _⟩) hS (fun H1 locs1 hP1 hS1 => k r hr H1 locs1 ls hP1 hS1 hl)
theorem x_callN (hz : hOK Z Y cc own nL d ret) {y : MethodName} {bytes : ByteArray} {maxL idx np dc : Nat} {ry : Option FieldType} {host : String} {av rest : List Value} {v : Option Value} {M' : hMem} (ms : h_MN own idx y bytes maxL ry np host) (hc : hC (h_l Z) Y (h_d Z) (h_b Z) y bytes maxL ry dc av M (v, M')) (hdd : dc + 1 = d) (hst : st = av.reverse ++ rest) (hn : av.length = np) (hw : (rest.map fun v => v.category).sum ≤ 8) (hd : hD cc pc (.invokestatic idx) 3 pc') (k : hW Z rt M' pc' L (v.toList ++ rest) F) : hW Z rt M pc L st F := by
  obtain ⟨hd, rfl⟩ := hd
  have hz0 := hz
  obtain ⟨hx, hb, hml, hr0, hown, hts, hK, hN, hE, hT, hlk, hR, hY, hnL⟩ := hz
  subst hY
  obtain ⟨⟨m1, m2, m3, m4⟩, m5, m6⟩ := ms
  intro r hr H locs ls hP hS hl
  have hfit := h_fit (maxL := maxL) hdd m4 hR
  refine x_after (v := v) (M' := M') (va_runSN (As := av) (rest := rest) (cc := cc) (nL := Z.2.2.2) (Ts := h_tbl) (host := host) ⟨hx, hb, hml, hown, hts⟩ hc ⟨va_cnB np hts (h_goodT m1) rfl rfl rfl (hN _ m5) (hts _ m2) m3 hfit, hts _ m6, trivial⟩ ⟨h_St_blind _ _ _ _ _, fun U hU hW => ⟨rfl, h_St_at hz0 hP hS U hU hW⟩⟩ rfl hn hl.1 hst (lv_room hw) hd ⟨Nat.zero_le _, Nat.zero_le _⟩) hS (fun H1 locs1 hP1 hS1 => k r hr H1 locs1 ls hP1 hS1 hl)
/-- the receiver's class -/
theorem h_recv (hz : hOK Z Y cc own nL d ret) {k ci n : Nat} {r : vw_C} {H : Heap} (hs : h_is Y k ci n) (hci : ci < 10) (hc : vwCl[ci]? = some r) (hP : va_P (h_d Z).1 vwCl (h_pw Y (h_d Z).2.1 (h_b Z) M) H) : ∃ cell : Cell, H[h_b Z + k]? = some cell ∧ cell.vm.isStatics = false ∧ Z.2.1.2.2.2.2.vm.findClass r.1 = some cell.cls := by
  obtain ⟨r', h1, cell, q1, q2, q3, q4⟩ := hP k _ (h_objAt hs hci)
  have hr : r' = r := Option.some.inj (h1.symm.trans hc)
  subst hr
  refine ⟨cell, q1, by rw [q3]; rfl, ?_⟩
  rw [q2]
  exact (hz.2.2.2.2.2.2.1.1 ci _ hc).2.1
theorem x_callV (hz : hOK Z Y cc own nL d ret) {y : MethodName} {bytes : ByteArray} {maxL idx np dc k0 ci n0 : Nat} {ry : Option FieldType} {r0 : vw_C} {av rest : List Value} {v : Option Value} {M' : hMem} (ms : h_MV own idx y bytes maxL ry np) (hs : h_is Y k0 ci n0) (hci : ci < 10) (hcl : vwCl[ci]? = some r0) (hyc : y.cls = r0.1) (hc : hC (h_l Z) Y (h_d Z) (h_b Z) y bytes maxL ry dc (.ref (h_b Z + k0) :: av) M (v, M')) (hdd : dc + 1 = d) (hst : st = av.reverse ++ .ref (h_b Z + k0) :: rest) (hn : av.length = np) (hw : (rest.map fun v => v.category).sum ≤ 8) (hd : hD cc pc (.invokevirtual idx) 3 pc') (k : hW Z rt M' pc' L (v.toList ++ rest) F) : hW Z rt M pc L st F := by
  obtain ⟨hd, rfl⟩ := hd
  have hz0 := hz
  obtain ⟨hx, hb, hml, hr0, hown, hts, hK, hN, hE, hT, hlk, hR, hY, hnL⟩ := hz
  subst hY
  obtain ⟨⟨m1, m2, m3, m4⟩, m5, m6, m7⟩ := ms
  intro r hr H locs ls hP hS hl
  have hfit := h_fit (maxL := maxL) hdd m4 hR
  refine x_after (v := v) (M' := M') (va_runV (As := av) (rest := rest) (cc := cc) (nL := Z.2.2.2) (Ts := h_tbl) (C := y.cls) ⟨hx, hb, hml, hown, hts⟩ hc ⟨callB_of np hts (h_goodT m1) rfl rfl rfl (hts _ m2) (hts _ m5) m3 hfit, hts _ m6, hts _ m7⟩ ⟨h_St_blind _ _ _ _ _, by rw [hyc]; exact h_recv hz0 hs hci hcl hP, fun U hU hW => ⟨rfl, h_St_at hz0 hP hS U hU hW⟩⟩ rfl hn hl.1 hst (lv_room hw) hd ⟨Nat.zero_le _, Nat.zero_le _⟩) hS (fun H1 locs1 hP1 hS1 => k r hr H1 locs1 ls hP1 hS1 hl)
theorem h_ofW {l : Launch} {y : MethodName} {ws ws' : List Cond} {rm : Room} {Pc : Array Value → State → Prop} {Qc : Array Value → State → Outcome → State → Prop} {mc ms : Nat} {free : Addr → Prop} {cc : ByteArray} {maxL : Nat} {ret : Option FieldType}
    (hy : plainFor y = true) (hw : ws = Cond.code y cc maxL ret :: ws')
    (body : ∀ p e s m args below meth c s₁, BodyLoose p l y (headSpec ws rm) cc maxL ret e s m args below meth c s₁ → c.maxLocals = maxL → Pc args s →
      W p l e (headSpec ws rm).room s m args below meth c s.heap [] 0 0 (MQ below Qc args s mc ms free) (entryFrame m args maxL)) : Met l y ws rm Pc Qc mc ms free := by
  refine MetFree.of_bodySF (code := cc) (maxLocals := maxL) (ret := ret) hy ?_ ?_
  · intro args s m h hn
    obtain ⟨meth, c, h1, h2, h3, h4, h5, h6, -, -⟩ := Cond.code_spec hn (atoms_spec (ws := ws) h _ (by rw [hw]; exact List.mem_cons_self))
    exact ⟨meth, c, h1, h2, h3, h4, h5, h6⟩
  · intro p e s m args below meth c s₁ B hml hP _
    have hh0 : s₁.heap = s.heap := by rw [B.state]; rfl
    obtain ⟨t, a1, o, b1, b2, b3⟩ := body p e s m args below meth c s₁ B hml hP s₁ hh0 (Stand.of_body B)
    exact ⟨t, o, a1, b1, b2, ⟨b3.1, b3.2⟩⟩
/-- A CONTRACT out of the walk of its body -/
theorem h_met {l : Launch} {Y : hLay} {dd : hDD} {b : Nat} {y : MethodName} {bytes : ByteArray} {maxL d : Nat} {ret : Option FieldType} {av : Nat → List Value} {M : hMem} {α : Type} {rt : α → Option Value × hMem} {F : Option α} (hy : plainFor y = true) (hlen : (lg_sl (av b)).length ≤ maxL)
    (body : ∀ Z : hZ, hOK Z Y bytes y.cls maxL d ret → hW Z rt M 0 (lv_args 0 (av (h_b Z))) [] F) (r : α) (hr : F = some r) : hC l Y dd b y bytes maxL ret d (av b) M (rt r) := by
  refine h_ofW (cc := bytes) (maxL := maxL) (ret := ret) hy rfl ?_
  intro p e s m args below meth c s₁ B hml hv
  obtain ⟨rfl, hP, hK, hN, hE, hT⟩ := hv
  have hts0 := atoms_spec (ws := Cond.code y bytes maxL ret :: h_tbl) B.pre
  have hl := lv_entry (av b) (n := maxL) hlen
  rw [lg_entry_eq]
  exact body ((Y, dd, b), (p, l, e, h_rm d, s), (m, (av b).toArray, below, meth, c), maxL) ⟨B.exec, B.bytes, hml, B.returns, findClass_of_methodNamed B.named, fun w hw => hts0 w (List.mem_cons_of_mem _ hw), hK, hN, hE, hT, B.notSynchronized, ⟨Nat.le_refl _, Nat.le_refl _⟩, rfl, rfl⟩ r hr s.heap [] _ hP va_S.rf hl

end HRows
