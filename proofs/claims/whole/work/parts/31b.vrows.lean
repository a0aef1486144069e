/-! ROWS over the plain judgement hB -/
section HBRows
variable {Z : hZ} {cc : ByteArray} {own : String} {nL d : Nat} {ret : Option FieldType} {Q : State → Prop} {I : Heap → List Loc → Prop} {cs ss pc pc' tgt : Nat} {L L' : List (Nat × Value)} {st rest : List Value}
theorem v_sub (ks : List Nat) (hl : lv_pick L ks = L') (k : hB Z Q I cs ss pc L' st) : hB Z Q I cs ss pc L st := fun H locs ls hI h => k H locs ls hI (lv_sub h ks hl)
theorem v_imp {I' : Heap → List Loc → Prop} (h : ∀ H locs, I H locs → I' H locs) (k : hB Z Q I' cs ss pc L st) : hB Z Q I cs ss pc L st := fun H locs ls hI hl => k H locs ls (h H locs hI) hl
theorem v_widen {cs' ss' : Nat} (h1 : cs ≤ cs') (h2 : ss ≤ ss') (k : hB Z Q I cs' ss' pc L st) : hB Z Q I cs ss pc L st := fun H locs ls hI hl => W.widen (k := cs') (n := ss') h1 h2 (k H locs ls hI hl)
theorem v_iadd (hz : hOKb Z cc own nL d ret) {x y : Int32} (hd : hD cc pc .iadd 1 pc')  (k : hB Z Q I cs ss pc' L (.int (x + y) :: st)) : hB Z Q I cs ss pc L (.int y :: .int x :: st) := by
  obtain ⟨hd, rfl⟩ := hd
  exact fun H locs ls hI hl => lv_iadd hz.1 hz.2.1 hd (k H locs ls hI hl)
theorem v_isub (hz : hOKb Z cc own nL d ret) {x y : Int32} (hd : hD cc pc .isub 1 pc')  (k : hB Z Q I cs ss pc' L (.int (x - y) :: st)) : hB Z Q I cs ss pc L (.int y :: .int x :: st) := by
  obtain ⟨hd, rfl⟩ := hd
  exact fun H locs ls hI hl => lv_isub hz.1 hz.2.1 hd (k H locs ls hI hl)
theorem v_iand (hz : hOKb Z cc own nL d ret) {x y : Int32} (hd : hD cc pc .iand 1 pc')  (k : hB Z Q I cs ss pc' L (.int (x &&& y) :: st)) : hB Z Q I cs ss pc L (.int y :: .int x :: st) := by
  obtain ⟨hd, rfl⟩ := hd
  exact fun H locs ls hI hl => lv_iand hz.1 hz.2.1 hd (k H locs ls hI hl)
theorem v_lcmp (hz : hOKb Z cc own nL d ret) {x y : Int64} (hd : hD cc pc .lcmp 1 pc')  (k : hB Z Q I cs ss pc' L (.int (lg_cmp x y) :: st)) : hB Z Q I cs ss pc L (.long y :: .long x :: st) := by
  obtain ⟨hd, rfl⟩ := hd
  exact fun H locs ls hI hl => W.lcmp hz.1 hz.2.1 hd (k H locs ls hI hl)
theorem v_iconst (hz : hOKb Z cc own nL d ret) {n : Int} (v : Int32) (hd : hD cc pc (.iconst n) 1 pc') (hv : Int32.ofInt n = v) (k : hB Z Q I cs ss pc' L (.int v :: st)) : hB Z Q I cs ss pc L st := by
  obtain ⟨hd, rfl⟩ := hd
  exact fun H locs ls hI hl => lv_iconst hz.1 hz.2.1 hd hv (k H locs ls hI hl)
theorem v_bipush (hz : hOKb Z cc own nL d ret) {n : Int} (v : Int32) (hd : hD cc pc (.bipush n) 2 pc') (hv : (Int8.ofInt n).toInt32 = v) (k : hB Z Q I cs ss pc' L (.int v :: st)) : hB Z Q I cs ss pc L st := by
  obtain ⟨hd, rfl⟩ := hd
  exact fun H locs ls hI hl => lv_bipush hz.1 hz.2.1 hd hv (k H locs ls hI hl)
theorem v_sipush (hz : hOKb Z cc own nL d ret) {n : Int} (v : Int32) (hd : hD cc pc (.sipush n) 3 pc') (hv : (Int16.ofInt n).toInt32 = v) (k : hB Z Q I cs ss pc' L (.int v :: st)) : hB Z Q I cs ss pc L st := by
  obtain ⟨hd, rfl⟩ := hd
  exact fun H locs ls hI hl => lv_sipush hz.1 hz.2.1 hd hv (k H locs ls hI hl)
theorem v_iload_n (hz : hOKb Z cc own nL d ret) {q : Fin 4} {i : Nat} {x : Int32} (hd : hD cc pc (.iload_n q) 1 pc') (hi : (q : Nat) = i) (p : Nat) (hp : L[p]? = some (i, .int x)) (k : hB Z Q I cs ss pc' L (.int x :: st)) : hB Z Q I cs ss pc L st := by
  obtain ⟨hd, rfl⟩ := hd
  exact fun H locs ls hI hl => lv_iload_n hz.1 hz.2.1 hd hi (lv_at hl p hp) (k H locs ls hI hl)
theorem v_iload (hz : hOKb Z cc own nL d ret) {i : Nat} {x : Int32} (hd : hD cc pc (.iload i) 2 pc') (p : Nat) (hp : L[p]? = some (i, .int x)) (k : hB Z Q I cs ss pc' L (.int x :: st)) : hB Z Q I cs ss pc L st := by
  obtain ⟨hd, rfl⟩ := hd
  exact fun H locs ls hI hl => lv_iload hz.1 hz.2.1 hd (lv_at hl p hp) (k H locs ls hI hl)
theorem v_aload_n (hz : hOKb Z cc own nL d ret) {q : Fin 4} {i : Nat} {x : Nat} (hd : hD cc pc (.aload_n q) 1 pc') (hi : (q : Nat) = i) (p : Nat) (hp : L[p]? = some (i, .ref x)) (k : hB Z Q I cs ss pc' L (.ref x :: st)) : hB Z Q I cs ss pc L st := by
  obtain ⟨hd, rfl⟩ := hd
  exact fun H locs ls hI hl => lv_aload_n hz.1 hz.2.1 hd hi (lv_at hl p hp) (k H locs ls hI hl)
theorem v_aload (hz : hOKb Z cc own nL d ret) {i : Nat} {x : Nat} (hd : hD cc pc (.aload i) 2 pc') (p : Nat) (hp : L[p]? = some (i, .ref x)) (k : hB Z Q I cs ss pc' L (.ref x :: st)) : hB Z Q I cs ss pc L st := by
  obtain ⟨hd, rfl⟩ := hd
  exact fun H locs ls hI hl => lv_aload hz.1 hz.2.1 hd (lv_at hl p hp) (k H locs ls hI hl)
theorem v_istore_n (hz : hOKb Z cc own nL d ret) {q : Fin 4} {i : Nat} {x : Int32} (L' : List (Nat × Value)) (hd : hD cc pc (.istore_n q) 1 pc') (hi : (q : Nat) = i) (hn : Nat.blt i nL = true) (hL : (i, .int x) :: L.filter (fun q => !(q.1 == i) && !(q.1 + 1 == i && q.2.category == 2)) = L') (k : hB Z Q I cs ss pc' L' st) : hB Z Q I cs ss pc L (.int x :: st) := by
  obtain ⟨hd, rfl⟩ := hd
  exact fun H locs ls hI hl => lv_istore_n hz.1 hz.2.1 hd hi hl (by rw [hz.2.2.2.2.2.2.2.2]; exact Nat.le_of_ble_eq_true hn) hL (fun ls hl => k H locs ls hI hl)
theorem v_istore (hz : hOKb Z cc own nL d ret) {i : Nat} {x : Int32} (L' : List (Nat × Value)) (hd : hD cc pc (.istore i) 2 pc') (hn : Nat.blt i nL = true) (hL : (i, .int x) :: L.filter (fun q => !(q.1 == i) && !(q.1 + 1 == i && q.2.category == 2)) = L') (k : hB Z Q I cs ss pc' L' st) : hB Z Q I cs ss pc L (.int x :: st) := by
  obtain ⟨hd, rfl⟩ := hd
  exact fun H locs ls hI hl => lv_istore hz.1 hz.2.1 hd hl (by rw [hz.2.2.2.2.2.2.2.2]; exact Nat.le_of_ble_eq_true hn) hL (fun ls hl => k H locs ls hI hl)
theorem v_astore_n (hz : hOKb Z cc own nL d ret) {q : Fin 4} {i : Nat} {x : Nat} (L' : List (Nat × Value)) (hd : hD cc pc (.astore_n q) 1 pc') (hi : (q : Nat) = i) (hn : Nat.blt i nL = true) (hL : (i, .ref x) :: L.filter (fun q => !(q.1 == i) && !(q.1 + 1 == i && q.2.category == 2)) = L') (k : hB Z Q I cs ss pc' L' st) : hB Z Q I cs ss pc L (.ref x :: st) := by
  obtain ⟨hd, rfl⟩ := hd
  exact fun H locs ls hI hl => lv_astore_n hz.1 hz.2.1 hd hi hl (by rw [hz.2.2.2.2.2.2.2.2]; exact Nat.le_of_ble_eq_true hn) hL (fun ls hl => k H locs ls hI hl)
theorem v_astore (hz : hOKb Z cc own nL d ret) {i : Nat} {x : Nat} (L' : List (Nat × Value)) (hd : hD cc pc (.astore i) 2 pc') (hn : Nat.blt i nL = true) (hL : (i, .ref x) :: L.filter (fun q => !(q.1 == i) && !(q.1 + 1 == i && q.2.category == 2)) = L') (k : hB Z Q I cs ss pc' L' st) : hB Z Q I cs ss pc L (.ref x :: st) := by
  obtain ⟨hd, rfl⟩ := hd
  exact fun H locs ls hI hl => lv_astore hz.1 hz.2.1 hd hl (by rw [hz.2.2.2.2.2.2.2.2]; exact Nat.le_of_ble_eq_true hn) hL (fun ls hl => k H locs ls hI hl)
theorem v_iinc (hz : hOKb Z cc own nL d ret) {i : Nat} {n : Int} {x : Int32} (v : Int32) (L' : List (Nat × Value)) (hd : hD cc pc (.iinc i n) 3 pc') (p : Nat) (hp : L[p]? = some (i, .int x)) (hv : x + Int32.ofInt n = v) (hn : Nat.blt i nL = true) (hL : (i, Value.int v) :: L.filter (fun q => !(q.1 == i) && !(q.1 + 1 == i && q.2.category == 2)) = L') (k : hB Z Q I cs ss pc' L' st) : hB Z Q I cs ss pc L st := by
  obtain ⟨hd, rfl⟩ := hd
  exact fun H locs ls hI hl => lv_iinc hz.1 hz.2.1 hd hl hp hv (by rw [hz.2.2.2.2.2.2.2.2]; exact Nat.le_of_ble_eq_true hn) hL (fun ls hl => k H locs ls hI hl)
theorem v_dup (hz : hOKb Z cc own nL d ret) {va : Value} (hd : hD cc pc .dup 1 pc') (hva : va.category = 1) (k : hB Z Q I cs ss pc' L (va :: va :: st)) : hB Z Q I cs ss pc L (va :: st) := by
  obtain ⟨hd, rfl⟩ := hd
  exact fun H locs ls hI hl => lv_dup hz.1 hz.2.1 hd hva (k H locs ls hI hl)
theorem v_pop (hz : hOKb Z cc own nL d ret) {va : Value} (hd : hD cc pc .pop 1 pc') (hva : va.category = 1) (k : hB Z Q I cs ss pc' L st) : hB Z Q I cs ss pc L (va :: st) := by
  obtain ⟨hd, rfl⟩ := hd
  exact fun H locs ls hI hl => lv_pop hz.1 hz.2.1 hd hva (k H locs ls hI hl)
theorem v_if_eq (hz : hOKb Z cc own nL d ret) {x : Int32} {off : Int} (hd : hJ cc pc (.ifCond .eq off) 3 pc' off tgt) (kA : x = 0 → hB Z Q I cs ss tgt L st) (kB : ¬ x = 0 → hB Z Q I cs ss pc' L st) : hB Z Q I cs ss pc L (.int x :: st) := by
  obtain ⟨hd, rfl, ht⟩ := hd
  exact fun H locs ls hI hl => lv_if_eq hz.1 hz.2.1 hd ht (fun h => kA h H locs ls hI hl) (fun h => kB h H locs ls hI hl)
theorem v_if_ne (hz : hOKb Z cc own nL d ret) {x : Int32} {off : Int} (hd : hJ cc pc (.ifCond .ne off) 3 pc' off tgt) (kA : ¬ x = 0 → hB Z Q I cs ss tgt L st) (kB : x = 0 → hB Z Q I cs ss pc' L st) : hB Z Q I cs ss pc L (.int x :: st) := by
  obtain ⟨hd, rfl, ht⟩ := hd
  exact fun H locs ls hI hl => lv_if_ne hz.1 hz.2.1 hd ht (fun h => kA h H locs ls hI hl) (fun h => kB h H locs ls hI hl)
theorem v_icmp_eq (hz : hOKb Z cc own nL d ret) {x y : Int32} {off : Int} (hd : hJ cc pc (.if_icmp .eq off) 3 pc' off tgt) (kA : x = y → hB Z Q I cs ss tgt L st) (kB : ¬ x = y → hB Z Q I cs ss pc' L st) : hB Z Q I cs ss pc L (.int y :: .int x :: st) := by
  obtain ⟨hd, rfl, ht⟩ := hd
  exact fun H locs ls hI hl => lv_icmp_eq hz.1 hz.2.1 hd ht (fun h => kA h H locs ls hI hl) (fun h => kB h H locs ls hI hl)
theorem v_icmp_ne (hz : hOKb Z cc own nL d ret) {x y : Int32} {off : Int} (hd : hJ cc pc (.if_icmp .ne off) 3 pc' off tgt) (kA : ¬ x = y → hB Z Q I cs ss tgt L st) (kB : x = y → hB Z Q I cs ss pc' L st) : hB Z Q I cs ss pc L (.int y :: .int x :: st) := by
  obtain ⟨hd, rfl, ht⟩ := hd
  exact fun H locs ls hI hl => lv_icmp_ne hz.1 hz.2.1 hd ht (fun h => kA h H locs ls hI hl) (fun h => kB h H locs ls hI hl)
theorem v_icmp_ge (hz : hOKb Z cc own nL d ret) {x y : Int32} {off : Int} (hd : hJ cc pc (.if_icmp .ge off) 3 pc' off tgt) (kA : y ≤ x → hB Z Q I cs ss tgt L st) (kB : ¬ y ≤ x → hB Z Q I cs ss pc' L st) : hB Z Q I cs ss pc L (.int y :: .int x :: st) := by
  obtain ⟨hd, rfl, ht⟩ := hd
  exact fun H locs ls hI hl => lv_icmp_ge hz.1 hz.2.1 hd ht (fun h => kA h H locs ls hI hl) (fun h => kB h H locs ls hI hl)
theorem v_icmp_gt (hz : hOKb Z cc own nL d ret) {x y : Int32} {off : Int} (hd : hJ cc pc (.if_icmp .gt off) 3 pc' off tgt) (kA : y < x → hB Z Q I cs ss tgt L st) (kB : ¬ y < x → hB Z Q I cs ss pc' L st) : hB Z Q I cs ss pc L (.int y :: .int x :: st) := by
  obtain ⟨hd, rfl, ht⟩ := hd
  exact fun H locs ls hI hl => lv_icmp_gt hz.1 hz.2.1 hd ht (fun h => kA h H locs ls hI hl) (fun h => kB h H locs ls hI hl)
theorem v_goto (hz : hOKb Z cc own nL d ret) {off : Int} (hd : hJ cc pc (.goto off) 3 pc' off tgt) (k : hB Z Q I cs ss tgt L st) : hB Z Q I cs ss pc L st := by
  obtain ⟨hd, rfl, ht⟩ := hd
  exact fun H locs ls hI hl => lv_goto hz.1 hz.2.1 hd ht (k H locs ls hI hl)
theorem v_tabIn (hz : hOKb Z cc own nL d ret) {dflt lo hi : Int} {offs : Array Int} {len : Nat} {x : Int32} {off : Int} (hd : hD cc pc (.tableswitch dflt lo hi offs) len pc') (z : Int) (hx : x.toInt = z) (h1 : ¬ z < lo) (h2 : ¬ hi < z) (ho : offs[(z - lo).toNat]? = some off) (ht : (pc : Int) + off = (tgt : Int)) (k : hB Z Q I cs ss tgt L st) : hB Z Q I cs ss pc L (.int x :: st) := by
  obtain ⟨hd, rfl⟩ := hd
  subst hx
  exact fun H locs ls hI hl => lv_tableIn hz.1 hz.2.1 hd h1 h2 ho ht (k H locs ls hI hl)
theorem v_tabOut (hz : hOKb Z cc own nL d ret) {dflt lo hi : Int} {offs : Array Int} {len : Nat} {x : Int32} (hd : hD cc pc (.tableswitch dflt lo hi offs) len pc') (h : x.toInt < lo ∨ hi < x.toInt) (ht : (pc : Int) + dflt = (tgt : Int)) (k : hB Z Q I cs ss tgt L st) : hB Z Q I cs ss pc L (.int x :: st) := by
  obtain ⟨hd, rfl⟩ := hd
  exact fun H locs ls hI hl => lv_tableOut hz.1 hz.2.1 hd h ht (k H locs ls hI hl)
end HBRows
