/-! ROWS of constructors: the memory grows -/
def cAO (s : State) : Prop := va_AO "HatDownTheStreet$Hat" s ∧ va_AO "HatDownTheStreet$Catcher" s ∧ va_AO "HatDownTheStreet$Law" s ∧ va_AO "HatDownTheStreet$Sheet" s
def cM2 (cy : Nat → ClassId) (s : State) : Prop := ∃ (kA kC : Class) (q : ClassId), s.vm.findClass "[[I" = some (cy 15) ∧ s.vm.classes[cy 15]? = some kA ∧ kA.kind = .array (cy 10) (.array .int) ∧ s.vm.classes[cy 10]? = some kC ∧ kC.kind = .array q .int
theorem cAO.moved {u U : State} (hvm : u.vm.Alike U.vm) (h : cAO u) : cAO U := ⟨h.1.moved hvm, h.2.1.moved hvm, h.2.2.1.moved hvm, h.2.2.2.moved hvm⟩
theorem cM2.moved {cy : Nat → ClassId} {u U : State} (hvm : u.vm.Alike U.vm) (h : cM2 cy u) : cM2 cy U := by
  obtain ⟨kA, kC, q, h1, h2, h3, h4, h5⟩ := h
  obtain ⟨kA', a1, a2⟩ := hvm.2.2 _ _ h2
  obtain ⟨kC', c1, c2⟩ := hvm.2.2 _ _ h4
  exact ⟨kA', kC', q, by rw [hvm.findClass]; exact h1, a1, by rw [a2]; exact h3, c1, by rw [c2]; exact h5⟩
/-- what is known of a state beside its memory; cells from b on may be written -/
def cF (dd : hDD) (b : Nat) (U : State) : Prop := va_K dd.1 vwCl (h_tys dd.2.1) U ∧ h_Nst U ∧ h_Ex dd (fun q => b ≤ q) U U.heap ∧ h_Tx dd U ∧ cAO U ∧ cM2 dd.2.1 U
theorem cF.at {dd : hDD} {b : Nat} {s U : State} {H : Heap} {locs : List Loc} (h : cF dd b s) (hS : va_S (fun q => b ≤ q) s.heap H locs) (hU : U.heap = H) (hW : s.WarmedH U.vm) : cF dd b U := by
  obtain ⟨hK, hN, hE, hT, hA, h2⟩ := h
  refine ⟨va_K.moved hW.alike hK, h_Nst.moved hW hN, ?_, h_Tx.moved hW hT, hA.moved hW.alike, h2.moved hW.alike⟩
  rw [hU]
  exact h_Ex.kept (h_Ex.moved hW.alike hE) hS.2.1
theorem cF.call {dd : hDD} {b : Nat} {U : State} (g : JFrame) (mk : MethodId) (a : Array Value) (h : cF dd b U) : cF dd b (U.calling g mk a) := by
  obtain ⟨qK, qN, qE, qT, qA, q2⟩ := h
  exact ⟨va_K.moved (u := U) (U := U.calling g mk a) (Vm.Alike.refl U.vm) qK, fun x hx => va_Nw.same rfl rfl (qN x hx), h_Ex.moved (u := U) (U := U.calling g mk a) (Vm.Alike.refl U.vm) qE, fun i x hx => vk_R.same rfl (qT i x hx), qA.moved (u := U) (U := U.calling g mk a) (Vm.Alike.refl U.vm), q2.moved (u := U) (U := U.calling g mk a) (Vm.Alike.refl U.vm)⟩
abbrev h_s (Z : hZ) : State := Z.2.1.2.2.2.2
def cI (Z : hZ) (Y : hLay) (M : hMem) : Heap → List Loc → Prop := fun H locs => va_P (h_d Z).1 vwCl (h_pw Y (h_d Z).2.1 (h_b Z) M) H ∧ va_S (fun q => h_b Z ≤ q) (h_s Z).heap H locs
/-- a constructor's frame: N0 cells stood at its entry -/
def cOK (Z : hZ) (cc : ByteArray) (own : String) (nL d mc ms N0 : Nat) (ret : Option FieldType) : Prop := hOKb Z cc own nL d ret ∧ cF (h_d Z) (h_b Z) (h_s Z) ∧ Z.2.1.2.2.2.1.cells = mc ∧ Z.2.1.2.2.2.1.slots = ms ∧ (h_s Z).heap.size = h_b Z + N0
def up2 (rf : Nat → Nat → Nat) (k j q : Nat) : Nat → Nat → Nat := fun a => if a = k then (fun i => if i = j then q else rf k i) else rf a
theorem h_cell_rf {S : Nat → Nat × Nat} {rf rf' : Nat → Nat → Nat} {N N' : Nat} {cy : Nat → ClassId} {b : Nat} {M M' : hMem} {a : Nat} (h1 : rf' a = rf a) (h2 : M' a = M a) : h_cell (S, rf', N') cy b M' a = h_cell (S, rf, N) cy b M a := by
  unfold h_cell h_val
  simp only [h1, h2]
theorem pw_grow (S : Nat → Nat × Nat) (rf : Nat → Nat → Nat) (N : Nat) (cy : Nat → ClassId) (b : Nat) (M : hMem) : h_pw (S, rf, N + 1) cy b M = h_pw (S, rf, N) cy b M ++ [(b + N, h_cell (S, rf, N + 1) cy b M N)] := by
  unfold h_pw
  show (List.range (N + 1)).map _ = (List.range N).map _ ++ _
  rw [List.range_succ, List.map_append]
  rfl
theorem pw_set2 {S : Nat → Nat × Nat} {rf rf' : Nat → Nat → Nat} {N : Nat} {cy : Nat → ClassId} {b : Nat} {M M' : hMem} {k : Nat} {x : Nat × va_E} (hx : x = (b + k, h_cell (S, rf', N) cy b M' k)) (h : ∀ a, a ≠ k → rf' a = rf a ∧ M' a = M a) : (h_pw (S, rf, N) cy b M).set k x = h_pw (S, rf', N) cy b M' := by
  subst hx
  apply List.ext_getElem?
  intro i
  by_cases hik : i = k
  · subst hik
    by_cases hi : i < N
    · rw [List.getElem?_set_self (by simpa [h_pw] using hi), h_pw_get (S, rf', N) cy b M' hi]
    · rw [List.getElem?_eq_none (by simp [h_pw]; omega), List.getElem?_eq_none (by simp [h_pw]; omega)]
  · rw [List.getElem?_set_ne (Ne.symm hik)]
    by_cases hi : i < N
    · rw [h_pw_get (S, rf, N) cy b M hi, h_pw_get (S, rf', N) cy b M' hi, h_cell_rf (N := N) (h i hik).1 (h i hik).2]
    · rw [List.getElem?_eq_none (by simp [h_pw]; omega), List.getElem?_eq_none (by simp [h_pw]; omega)]
theorem va_P.one {D : va_G} {cl : List vw_C} {x : Nat × va_E} {H : Heap} (h : va_at D cl x H) : va_P D cl [x] H := fun k q hk => by
  have hz : k < 1 := (List.getElem?_eq_some_iff.mp hk).1
  rw [show k = 0 by omega] at hk
  cases hk
  exact h
theorem W_size {p : Program} {l : Launch} {e : Env} {R : Room} {s : State} {m : MethodId} {args : Array Value} {below : List Frame} {meth : Method} {c : Code} {H : Heap} {locs : List Loc} {cells slots : Nat} {Q : State → Prop} {g : JFrame} (k : H.size ≤ s.heap.size + cells → W p l e R s m args below meth c H locs cells slots Q g) : W p l e R s m args below meth c H locs cells slots Q g := fun T hT X => k (by rw [← hT]; exact X.heapSize) T hT X
section CRows
variable {Z : hZ} {cc : ByteArray} {own : String} {nL d mc ms N0 : Nat} {ret : Option FieldType} {Q : State → Prop} {cs ss pc pc' : Nat} {L : List (Nat × Value)} {st : List Value} {S : Nat → Nat × Nat} {rf : Nat → Nat → Nat} {N : Nat} {M : hMem}
theorem cI.ge {H : Heap} {locs : List Loc} (h : cI Z (S, rf, N) M H locs) (h0 : 1 ≤ N) : h_b Z + N ≤ H.size := by
  have h1 := h_pw_get (S, rf, N) (h_d Z).2.1 (h_b Z) M (k := N - 1) (by show N - 1 < N; omega)
  have h2 : h_b Z + (N - 1) < H.size := (h.1 _ _ h1).lt
  omega
/-- the walk goes on knowing how many cells there are -/
theorem c_sz (hz : cOK Z cc own nL d mc ms N0 ret) (hN : N0 + cs = N) {H : Heap} {locs : List Loc} (hI : cI Z (S, rf, N) M H locs) (h0 : 1 ≤ N ∨ h_b Z ≤ H.size ∧ N = 0) {g : JFrame} (k : H.size = h_b Z + N → W Z.2.1.1 Z.2.1.2.1 Z.2.1.2.2.1 Z.2.1.2.2.2.1 Z.2.1.2.2.2.2 Z.2.2.1.1 Z.2.2.1.2.1 Z.2.2.1.2.2.1 Z.2.2.1.2.2.2.1 Z.2.2.1.2.2.2.2 H locs cs ss Q g) : W Z.2.1.1 Z.2.1.2.1 Z.2.1.2.2.1 Z.2.1.2.2.2.1 Z.2.1.2.2.2.2 Z.2.2.1.1 Z.2.2.1.2.1 Z.2.2.1.2.2.1 Z.2.2.1.2.2.2.1 Z.2.2.1.2.2.2.2 H locs cs ss Q g := W_size (fun h => k (by
  have h3 : (h_s Z).heap.size = h_b Z + N0 := hz.2.2.2.2
  have h4 : H.size ≤ (h_s Z).heap.size + cs := h
  rcases h0 with h1 | ⟨h1, h2⟩
  · have h2 := hI.ge h1
    omega
  · omega))
theorem c_push {H H1 : Heap} {locs : List Loc} (hI : cI Z (S, rf, N) M H locs) (hsz : H.size = h_b Z + N) (hat : va_at (h_d Z).1 vwCl (h_b Z + N, h_cell (S, rf, N + 1) (h_d Z).2.1 (h_b Z) M N) H1) (z1 : H1.size = h_b Z + N + 1) (o1 : ∀ q, q < h_b Z + N → H1[q]? = H[q]?) : cI Z (S, rf, N + 1) M H1 locs := by
  obtain ⟨hP, hS⟩ := hI
  refine ⟨?_, ⟨Nat.le_trans hS.1 (by omega), fun q h1 h2 => ?_, hS.2.2⟩⟩
  · rw [pw_grow]
    exact (hP.kept (fun k x hx => o1 x.1 (by have := (hP k x hx).lt; omega))).app (va_P.one hat)
  · rw [o1 q (by have : q < (h_s Z).heap.size := h1; have := hS.1; omega)]
    exact hS.2.1 q h1 h2
theorem c_new (hz : cOK Z cc own nL d mc ms N0 ret) {C : String} {T : u_T} {ci index : Nat} (hci : ci < 10) (hc : vwCl[ci]? = some (C, T, h_nf ci)) (hws : ∀ w ∈ u_ws C T (h_nf ci), w ∈ h_tbl) (ty : Nat → FieldType) (hty : ∀ k, k < h_nf ci → parseFieldDescriptor (T k).2.2.1 = some (ty k)) (hdef : ∀ j, j < h_nf ci → defaultValue (ty j) = if h_kd ci j = 0 then .int 0 else .null) (hcl : Cond.classLink own index C ∈ h_tbl) (hin : Cond.instantiable C (h_nf ci) ∈ h_tbl) (hini : Cond.initialized C ∈ h_tbl) (hsh : (S N).1 = ci) (hM : ∀ j, M N j = 0) (hrf : ∀ j, rf N j = 0) (hN : N0 + cs = N) (h0 : 1 ≤ N ∨ N = 0) (hcs : cs + 1 ≤ mc) (hss : ss + h_nf ci ≤ ms) (hd : hD cc pc (.new index) 3 pc') (k : hB Z Q (cI Z (S, rf, N + 1) M) (cs + 1) (ss + h_nf ci) pc' L (.ref (h_b Z + N) :: st)) : hB Z Q (cI Z (S, rf, N) M) cs ss pc L st := by
  obtain ⟨hd, rfl⟩ := hd
  intro H locs ls hI hl
  refine c_sz hz hN hI (h0.imp id (fun h => ⟨by have : (h_s Z).heap.size = h_b Z + N0 := hz.2.2.2.2; have := hI.2.1; omega, h⟩)) (fun hsz => ?_)
  obtain ⟨⟨hx, hb, hml, hr0, hown, hts, hlk, hR, hnL⟩, ⟨hK, -⟩, hmc, hms, -⟩ := hz
  have hKn := hK.1 ci _ hc
  refine W.newcK hx hb hown (hts _ hcl) (hts _ hin) (hts _ hini) rfl hd (by rw [hmc]; exact hcs) (by rw [hms]; exact hss) hKn.2.1 hsz fun H1 kC hkC e1 z1 o1 => ?_
  refine k H1 locs ls (c_push hI hsz ?_ z1 o1) hl
  rw [h_cell_obj (t := ci) hsh hci]
  refine ⟨_, hc, (u_born ty hts hws hKn hkC e1 hty).to (fun j hj => ?_)⟩
  rw [hdef j hj]
  show _ = ((List.range (h_nf ci)).map (fun j => h_val (h_b Z) rf ci N j (M N j))).getD j .null
  rw [List.getD_eq_getElem?_getD, List.getElem?_map, List.getElem?_range hj]
  show _ = h_val (h_b Z) rf ci N j (M N j)
  unfold h_val
  rw [hM, hrf]
  by_cases e0 : h_kd ci j = 0
  · rw [if_pos e0, if_pos e0]
  · rw [if_neg e0, if_neg e0]
    by_cases e1 : h_kd ci j = 1
    · rw [if_pos e1, if_pos rfl]
    · rw [if_neg e1, if_pos rfl]
theorem c_newi (hz : cOK Z cc own nL d mc ms N0 ret) {n : Int32} {n' : Nat} (hw : Cond.arrayClass .int ∈ h_tbl) (hsh : S N = (10, n')) (hn : ¬ n < 0) (hn' : n.toNatClampNeg = n') (hb4 : n' * 4 ≤ 536870912) (hM : ∀ j, M N j = 0) (hN : N0 + cs = N) (h0 : 1 ≤ N) (hcs : cs + 1 ≤ mc) (hss : ss + n' ≤ ms) (hd : hD cc pc (.newarray .int) 2 pc') (k : hB Z Q (cI Z (S, rf, N + 1) M) (cs + 1) (ss + n') pc' L (.ref (h_b Z + N) :: st)) : hB Z Q (cI Z (S, rf, N) M) cs ss pc L (.int n :: st) := by
  obtain ⟨hd, rfl⟩ := hd
  intro H locs ls hI hl
  refine c_sz hz hN hI (Or.inl h0) (fun hsz => ?_)
  obtain ⟨⟨hx, hb, hml, hr0, hown, hts, hlk, hR, hnL⟩, ⟨hK, -⟩, hmc, hms, -⟩ := hz
  refine va_newaK (atype := .int) hx hb (hts _ hw) rfl hd rfl hn hn' hb4 (by rw [hmc]; exact hcs) (by rw [hms]; exact hss) hsz fun H1 cA e1 z1 o1 hAr hNm => ?_
  refine k H1 locs ls (c_push hI hsz ?_ z1 o1) hl
  have hcA : cA = (h_d Z).2.1 10 := Option.some.inj (hNm.symm.trans (hK.2 0 _ rfl).2)
  rw [h_cell_int (Y := (S, rf, N + 1)) hsh]
  show H1[h_b Z + N]? = some (vp_cell _ _)
  rw [vp_cell_i, e1, hcA]
  refine congrArg some (congrArg (arrV _ _) (funext fun j => ?_))
  rw [hM]
  rfl
theorem c_newq (hz : cOK Z cc own nL d mc ms N0 ret) {C : String} {n : Int32} {n' t p index : Nat} (hcl : Cond.classLink own index C ∈ h_tbl) (hover : cAO (h_s Z) → va_AO C (h_s Z)) (hp : ∀ cy, (h_tys cy)[p]? = some (cy t, .object C)) (ht : 10 < t) (hsh : S N = (t, n')) (hn : ¬ n < 0) (hn' : n.toNatClampNeg = n') (hb4 : n' * 4 ≤ 536870912) (hrf : ∀ j, rf N j = 0) (hN : N0 + cs = N) (h0 : 1 ≤ N) (hcs : cs + 1 ≤ mc) (hss : ss + n' ≤ ms) (hd : hD cc pc (.anewarray index) 3 pc') (k : hB Z Q (cI Z (S, rf, N + 1) M) (cs + 1) (ss + n') pc' L (.ref (h_b Z + N) :: st)) : hB Z Q (cI Z (S, rf, N) M) cs ss pc L (.int n :: st) := by
  obtain ⟨hd, rfl⟩ := hd
  subst hn'
  intro H locs ls hI hl
  refine c_sz hz hN hI (Or.inl h0) (fun hsz => ?_)
  obtain ⟨⟨hx, hb, hml, hr0, hown, hts, hlk, hR, hnL⟩, ⟨hK, -, -, -, hA, -⟩, hmc, hms, -⟩ := hz
  refine W.anew hx hb hown (hts _ hcl) (va_AO.use (hover hA)) rfl hd rfl hn hb4 (by rw [hmc]; exact hcs) (by rw [hms]; exact hss) fun cA kA comp f1 f2 f3 f4 => ?_
  generalize hH1 : H.push ({ cls := cA, slots := Array.replicate n.toNatClampNeg .null, vm := .none } : Cell) = H1
  have z1 : H1.size = h_b Z + N + 1 := by rw [← hH1, Array.size_push, hsz]
  have e1 : H1[h_b Z + N]? = some (arrV cA n.toNatClampNeg (fun _ => .null)) := by rw [← hH1, ← hsz, Array.getElem?_push_size, ← arrV_new]
  have o1 : ∀ q : Nat, q < h_b Z + N → H1[q]? = H[q]? := fun q hq => by rw [← hH1, Array.getElem?_push, if_neg (by omega)]
  rw [hsz]
  refine k H1 locs ls (c_push hI hsz ?_ z1 o1) hl
  obtain ⟨kA', comp', g1, g2, g3, g4⟩ := (hK.2 p _ (hp _)).2
  have hcA : cA = (h_d Z).2.1 t := Option.some.inj (f1.symm.trans g4)
  rw [h_cell_ref (Y := (S, rf, N + 1)) hsh ht]
  show H1[h_b Z + N]? = some (vp_cell _ _)
  rw [vp_cell_q, e1, hcA]
  refine congrArg some (congrArg (arrV _ _) (funext fun j => ?_))
  show Value.null = va_rf (if rf N j = 0 then none else some (h_b Z + rf N j))
  rw [hrf, if_pos rfl]
  rfl
/-- a final field that may be written in its own constructor -/
def h_FF (own : String) (idx ci j : Nat) (tj : FieldType) : Prop := ∃ (C : String) (T : u_T) (ty : Nat → FieldType), vwCl[ci]? = some (C, T, h_nf ci) ∧ ci < 10 ∧ j < h_nf ci ∧ Cond.fieldLink own idx (T j).1 (T j).2.1 (T j).2.2.1 ∈ h_tbl ∧ (∀ w ∈ u_ws C T (h_nf ci), w ∈ h_tbl) ∧ (∀ k, k < h_nf ci → parseFieldDescriptor (T k).2.2.1 = some (ty k)) ∧ (∀ a, a < h_nf ci → ∀ b, b < h_nf ci → a ≠ b → (T a).2.1 ≠ (T b).2.1) ∧ (T j).2.2.2 = true ∧ (T j).1 = own ∧ parseFieldDescriptor (T j).2.2.1 = some tj
theorem c_objset {k ci n j q : Nat} {cy : Nat → ClassId} {b : Nat} (hs : h_is (S, rf, N) k ci n) (hci : ci < 10) (hj : j < h_nf ci) (hkd : h_kd ci j = 1) (h0 : q ≠ 0) : (h_pw (S, rf, N) cy b M).set k (b + k, .inr (ci, ((List.range (h_nf ci)).map (fun j => h_val b rf ci k j (M k j))).set j (.ref (b + q)))) = h_pw (S, up2 rf k j q, N) cy b M := by
  refine pw_set2 ?_ (fun a ha => ⟨by unfold up2; rw [if_neg ha], rfl⟩)
  rw [h_cell_obj (Y := (S, up2 rf k j q, N)) (t := ci) (show (S k).1 = ci from congrArg Prod.fst hs.2) hci]
  have : ((List.range (h_nf ci)).map (fun j => h_val b rf ci k j (M k j))).set j (.ref (b + q)) = (List.range (h_nf ci)).map (fun i => h_val b (up2 rf k j q) ci k i (M k i)) := by
    apply List.ext_getElem?
    intro i
    by_cases hij : i = j
    · subst hij
      rw [List.getElem?_set_self (by rw [List.length_map, List.length_range]; exact hj), List.getElem?_map, List.getElem?_range hj, Option.map_some]
      unfold h_val up2
      rw [if_neg (by rw [hkd]; decide), if_pos hkd, if_pos rfl, if_pos rfl, if_neg h0]
    · rw [List.getElem?_set_ne (Ne.symm hij), List.getElem?_map, List.getElem?_map]
      by_cases hi : i < h_nf ci
      · rw [List.getElem?_range hi, Option.map_some, Option.map_some]
        refine congrArg some ?_
        have e : up2 rf k j q k i = rf k i := by unfold up2; rw [if_pos rfl, if_neg hij]
        unfold h_val
        rw [e]
      · rw [List.getElem?_eq_none (by rw [List.length_range]; omega)]
        rfl
  rw [this]
theorem c_putr (hz : cOK Z cc own nL d mc ms N0 ret) (hi : Z.2.2.1.2.2.2.1.name = "<init>") {k ci n j q idx : Nat} {tj : FieldType} (hs : h_is (S, rf, N) k ci n) (ff : h_FF own idx ci j tj) (hkd : h_kd ci j = 1) (h0 : q ≠ 0) (hna : narrow tj (.ref (h_b Z + q)) = .ref (h_b Z + q)) (hfi : fits tj (.ref (h_b Z + q)) = true) (hd : hD cc pc (.putfield idx) 3 pc') (kk : hB Z Q (cI Z (S, up2 rf k j q, N) M) cs ss pc' L st) : hB Z Q (cI Z (S, rf, N) M) cs ss pc L (.ref (h_b Z + q) :: .ref (h_b Z + k) :: st) := by
  obtain ⟨hd, rfl⟩ := hd
  obtain ⟨⟨hx, hb, hml, hr0, hown, hts, hlk, hR, hnL⟩, ⟨hK, -⟩, hmc, hms, -⟩ := hz
  obtain ⟨C, T, ty, h1, h2, h3, h4, h5, h6, h7, h8, h9, h10⟩ := ff
  intro H locs ls hI hl
  refine va_putF (D := (h_d Z).1) (cl := vwCl) (ci := ci) (C := C) (T := T) (N := h_nf ci) hx hb hts h5 ty h6 h7 hown hK hI.1 ((h_pw_D (S, rf, N) _ _ _).weaken (fun _ _ _ h => h.1)) hI.2 k (h_objAt hs h2) h1 j h3 (hts _ h4) (fun _ h9 => h9) h8 hi h9 h10 hna hfi (by rw [List.length_map, List.length_range]; exact h3) hd (fun H1 locs1 hP1 hD1 hS1 => ?_)
  refine kk H1 locs1 ls ⟨?_, hS1⟩ hl
  rw [← c_objset hs h2 h3 hkd h0]
  exact hP1
theorem c_puti0 (hz : cOK Z cc own nL d mc ms N0 ret) {k ci n j idx : Nat} {tj : FieldType} {x : Int32} {v : Value} (hs : h_is (S, rf, N) k ci n) (fp : h_FP own idx ci j tj) (hv : h_val (h_b Z) rf ci k j x = v) (hna : narrow tj v = v) (hfi : fits tj v = true) (hd : hD cc pc (.putfield idx) 3 pc') (kk : hB Z Q (cI Z (S, rf, N) (h_up M k j x)) cs ss pc' L st) : hB Z Q (cI Z (S, rf, N) M) cs ss pc L (v :: .ref (h_b Z + k) :: st) := by
  obtain ⟨hd, rfl⟩ := hd
  obtain ⟨⟨hx, hb, hml, hr0, hown, hts, hlk, hR, hnL⟩, ⟨hK, -⟩, hmc, hms, -⟩ := hz
  obtain ⟨C, T, ty, h1, h2, h3, h4, h5, h6, h7, h8, h9⟩ := fp
  subst hv
  intro H locs ls hI hl
  refine va_put (D := (h_d Z).1) (cl := vwCl) (ci := ci) (C := C) (T := T) (N := h_nf ci) hx hb hts h5 ty h6 h7 hown hK hI.1 ((h_pw_D (S, rf, N) _ _ _).weaken (fun _ _ _ h => h.1)) hI.2 k (h_objAt hs h2) h1 j h3 (hts _ h4) (fun _ h9 => h9) h8 h9 hna hfi (by rw [List.length_map, List.length_range]; exact h3) hd (fun H1 locs1 hP1 hD1 hS1 => ?_)
  refine kk H1 locs1 ls ⟨?_, hS1⟩ hl
  rw [← h_pw_set (S, rf, N) (h_d Z).2.1 (h_b Z) M (k := k) (M' := h_up M k j x) (x := (h_b Z + k, .inr (ci, ((List.range (h_nf ci)).map (fun j => h_val (h_b Z) rf ci k j (M k j))).set j (h_val (h_b Z) rf ci k j x)))) ?_ (fun a ha => h_up_row M k j x ha)]
  · exact hP1
  · rw [h_listset h3, h_cell_obj (Y := (S, rf, N)) (t := ci) (show (S k).1 = ci from congrArg Prod.fst hs.2) h2]
theorem c_puti (hz : cOK Z cc own nL d mc ms N0 ret) {k ci n j idx : Nat} {x : Int32} (hs : h_is (S, rf, N) k ci n) (fp : h_FP own idx ci j .int) (hkd : h_kd ci j = 0) (hd : hD cc pc (.putfield idx) 3 pc') (kk : hB Z Q (cI Z (S, rf, N) (h_up M k j x)) cs ss pc' L st) : hB Z Q (cI Z (S, rf, N) M) cs ss pc L (.int x :: .ref (h_b Z + k) :: st) :=
  c_puti0 hz hs fp (h_val0 hkd) (vp_nar_int x) rfl hd kk
theorem c_putz (hz : cOK Z cc own nL d mc ms N0 ret) {k ci n j idx : Nat} {x : Int32} (hs : h_is (S, rf, N) k ci n) (fp : h_FP own idx ci j .boolean) (hkd : h_kd ci j = 0) (hx : narrow .boolean (.int x) = .int x) (hf : fits .boolean (.int x) = true) (hd : hD cc pc (.putfield idx) 3 pc') (kk : hB Z Q (cI Z (S, rf, N) (h_up M k j x)) cs ss pc' L st) : hB Z Q (cI Z (S, rf, N) M) cs ss pc L (.int x :: .ref (h_b Z + k) :: st) :=
  c_puti0 hz hs fp (h_val0 hkd) hx hf hd kk
theorem c_putd (hz : cOK Z cc own nL d mc ms N0 ret) {k ci n j idx q : Nat} {C : String} (hs : h_is (S, rf, N) k ci n) (fp : h_FP own idx ci j (.object C)) (hkd : h_kd ci j = 2) (hq : q ≠ 0 ∧ q < 2 ^ 31) (hd : hD cc pc (.putfield idx) 3 pc') (kk : hB Z Q (cI Z (S, rf, N) (h_up M k j (nI q))) cs ss pc' L st) : hB Z Q (cI Z (S, rf, N) M) cs ss pc L (.ref (h_b Z + q) :: .ref (h_b Z + k) :: st) :=
  c_puti0 (x := nI q) hz hs fp ((h_val2 hkd (fun h => by
    have h1 := congrArg Int32.toInt h
    rw [nI_toInt hq.2] at h1
    have h2 : (0 : Int32).toInt = 0 := by decide
    omega)).trans (by rw [nI_clamp hq.2])) rfl rfl hd kk
theorem c_iast (hz : cOK Z cc own nL d mc ms N0 ret) {k n j : Nat} {i x : Int32} (hs : h_is (S, rf, N) k 10 n) (hi : h_ib i n) (hj : i.toNatClampNeg = j) (hd : hD cc pc .iastore 1 pc') (kk : hB Z Q (cI Z (S, rf, N) (h_up M k j x)) cs ss pc' L st) : hB Z Q (cI Z (S, rf, N) M) cs ss pc L (.int x :: .int i :: .ref (h_b Z + k) :: st) := by
  obtain ⟨hd, rfl⟩ := hd
  obtain ⟨⟨hx, hb, hml, hr0, hown, hts, hlk, hR, hnL⟩, ⟨hK, -⟩, hmc, hms, -⟩ := hz
  subst hj
  intro H locs ls hI hl
  refine va_iast (D := (h_d Z).1) (cl := vwCl) hx hb hK hI.1 ((h_pw_D (S, rf, N) _ _ _).weaken (fun _ _ _ h => h.1)) hI.2 k 0 (h_intAt hs) rfl hi.vp hd (fun H1 locs1 hP1 hD1 hS1 => ?_)
  refine kk H1 locs1 ls ⟨?_, hS1⟩ hl
  rw [← h_pw_set (S, rf, N) (h_d Z).2.1 (h_b Z) M (k := k) (M' := h_up M k i.toNatClampNeg x) (x := (h_b Z + k, .inl ((h_d Z).2.1 10, n, .inl (upd (M k) i.toNatClampNeg x)))) ?_ (fun a ha => h_up_row M k _ x ha)]
  · exact hP1
  · rw [h_cell_int (Y := (S, rf, N)) hs.2]
    rw [show h_up M k i.toNatClampNeg x k = upd (M k) i.toNatClampNeg x from by funext q; simp [h_up, upd]]
theorem c_iald (hz : cOK Z cc own nL d mc ms N0 ret) {k n : Nat} {i v : Int32} (hs : h_is (S, rf, N) k 10 n) (hi : h_ib i n) (hv : M k i.toNatClampNeg = v) (hd : hD cc pc .iaload 1 pc') (kk : hB Z Q (cI Z (S, rf, N) M) cs ss pc' L (.int v :: st)) : hB Z Q (cI Z (S, rf, N) M) cs ss pc L (.int i :: .ref (h_b Z + k) :: st) := by
  obtain ⟨hd, rfl⟩ := hd
  obtain ⟨⟨hx, hb, hml, hr0, hown, hts, hlk, hR, hnL⟩, ⟨hK, -⟩, hmc, hms, -⟩ := hz
  subst hv
  intro H locs ls hI hl
  exact va_iald (D := (h_d Z).1) (cl := vwCl) hx hb hK hI.1 k 0 (h_intAt hs) rfl hi.vp hd (kk H locs ls hI hl)
theorem c_getr (hz : cOK Z cc own nL d mc ms N0 ret) {k ci n j q idx : Nat} (hs : h_is (S, rf, N) k ci n) (fl : h_FL own idx ci j) (hkd : h_kd ci j = 1) (hq : rf k j = q) (h0 : q ≠ 0) (hd : hD cc pc (.getfield idx) 3 pc') (kk : hB Z Q (cI Z (S, rf, N) M) cs ss pc' L (.ref (h_b Z + q) :: st)) : hB Z Q (cI Z (S, rf, N) M) cs ss pc L (.ref (h_b Z + k) :: st) := by
  obtain ⟨hd, rfl⟩ := hd
  obtain ⟨⟨hx, hb, hml, hr0, hown, hts, hlk, hR, hnL⟩, ⟨hK, -⟩, hmc, hms, -⟩ := hz
  obtain ⟨C, T, ty, h1, h2, h3, h4, h5, h6, h7⟩ := fl
  intro H locs ls hI hl
  refine va_get (D := (h_d Z).1) (cl := vwCl) (ci := ci) (C := C) (T := T) (N := h_nf ci) hx hb hts h5 hown hK hI.1 k (h_objAt hs h2) h1 j h3 (hts _ h4) (fun _ h9 => h9) (v := .ref (h_b Z + q)) ?_ hd (kk H locs ls hI hl)
  rw [h_fldAt h3]
  show some (h_val (h_b Z) rf ci k j (M k j)) = _
  exact congrArg some ((h_val1 (rf := rf) hkd (by rw [hq]; exact h0)).trans (by rw [hq]))
theorem c_aast (hz : cOK Z cc own nL d mc ms N0 ret) {k t n q ci n2 : Nat} {i : Int32} {r : vw_C} (p : Nat) (hp : ∀ cy, (h_tys cy)[p]? = some (cy t, .object r.1)) (hs : h_is (S, rf, N) k t n) (ht : 10 < t) (hv : h_is (S, rf, N) q ci n2) (hci : ci < 10) (hc : vwCl[ci]? = some r) (hi : h_ib i n) {j : Nat} (hj : i.toNatClampNeg = j) (h0 : q ≠ 0) (hd : hD cc pc .aastore 1 pc') (kk : hB Z Q (cI Z (S, up2 rf k j q, N) M) cs ss pc' L st) : hB Z Q (cI Z (S, rf, N) M) cs ss pc L (.ref (h_b Z + q) :: .int i :: .ref (h_b Z + k) :: st) := by
  obtain ⟨hd, rfl⟩ := hd
  obtain ⟨⟨hx, hb, hml, hr0, hown, hts, hlk, hR, hnL⟩, ⟨hK, -⟩, hmc, hms, -⟩ := hz
  subst hj
  intro H locs ls hI hl
  refine va_astq (D := (h_d Z).1) (cl := vwCl) hx hb hK hI.1 ((h_pw_D (S, rf, N) _ _ _).weaken (fun _ _ _ h => h.1)) hI.2 k p q ci (h_refAt hs ht) (hp _) (h_objAt hv hci) hc hi.vp hd (fun H1 locs1 hP1 hD1 hS1 => ?_)
  refine kk H1 locs1 ls ⟨?_, hS1⟩ hl
  rw [← pw_set2 (rf := rf) (M := M) (k := k) (x := (h_b Z + k, .inl ((h_d Z).2.1 t, n, .inr (.inr (.inr (.inr (va_up (fun j => if rf k j = 0 then none else some (h_b Z + rf k j)) i.toNatClampNeg (some (h_b Z + q))))))))) ?_ (fun a ha => ⟨by unfold up2; rw [if_neg ha], rfl⟩)]
  · exact hP1
  · rw [h_cell_ref (Y := (S, up2 rf k i.toNatClampNeg q, N)) hs.2 ht]
    refine congrArg (fun f => (h_b Z + k, (Sum.inl ((h_d Z).2.1 t, n, .inr (.inr (.inr (.inr f)))) : va_E))) (funext fun a => ?_)
    show va_up _ _ _ a = if up2 rf k i.toNatClampNeg q k a = 0 then none else some (h_b Z + up2 rf k i.toNatClampNeg q k a)
    unfold va_up up2
    rw [if_pos rfl]
    by_cases e : a = i.toNatClampNeg
    · rw [if_pos e, if_pos e, if_neg h0]
    · rw [if_neg e, if_neg e]
theorem c_obj (hz : cOK Z cc own nL d mc ms N0 ret) {x : Nat} {idx : Nat} (hl0 : Cond.methodLink own idx Lib.objectInit ∈ h_tbl) (hin : Cond.instanceMethod Lib.objectInit ∈ h_tbl) (hco : Cond.code Lib.objectInit ⟨#[0xb1]⟩ 1 none ∈ h_tbl) (hd1 : 1 ≤ d) (hrest : (st.map fun v => v.category).sum ≤ 8) (hd : hD cc pc (.invokespecial idx) 3 pc') (kk : hB Z Q (cI Z (S, rf, N) M) cs ss pc' L st) : hB Z Q (cI Z (S, rf, N) M) cs ss pc L (.ref x :: st) := by
  obtain ⟨hd, rfl⟩ := hd
  obtain ⟨⟨hx, hb, hml, hr0, hown, hts, hlk, hR, hnL⟩, ⟨hK, -⟩, hmc, hms, -⟩ := hz
  intro H locs ls hI hl
  refine W.objInit hx hb hown (hts _ hl0) (hts _ hin) (hts _ hco) rfl (by show ls.size = _; rw [hl.1, hml]) rfl hd (Nat.le_trans hd1 hR.1) ?_ ?_
  · have := lv_room (m := Z.2.2.1.1) (pc := pc) (ls := ls) (rest := Value.ref x :: st) (st := st) hrest
    have := hR.2
    omega
  · exact W.eq (g2 := F0 _ (pc + 3) ls st) rfl (kk H locs ls hI hl)
/-- A CONSTRUCTOR'S CONTRACT: this at cell k; from (rf, N, M) to (rf', N', M') -/
def cSt (Y : hLay) (dd : hDD) (b : Nat) (M : hMem) (U : State) : Prop := va_P dd.1 vwCl (h_pw Y dd.2.1 b M) U.heap ∧ cF dd b U ∧ U.heap.size = b + Y.2.2
def cQ (Y : hLay) (dd : hDD) (b : Nat) (M : hMem) : Array Value → State → Outcome → State → Prop := fun _ st o t => o = .returned none ∧ va_P dd.1 vwCl (h_pw Y dd.2.1 b M) t.heap ∧ va_F (fun q => b ≤ q) st t
def cC (l : Launch) (dd : hDD) (b : Nat) (y : MethodName) (bytes : ByteArray) (maxL d k : Nat) (Y : hLay) (M : hMem) (Y' : hLay) (M' : hMem) (mc ms : Nat) : Prop :=
  Met l y (Cond.code y bytes maxL none :: h_tbl) { frames := d, cells := mc, slots := ms, locals := 64 * d } (va_Pc [.ref (b + k)] (cSt Y dd b M)) (cQ Y' dd b M') mc ms (fun q => b ≤ q)
def cEnd (Z : hZ) (Y : hLay) (M : hMem) (mc ms : Nat) : State → Prop := MQ Z.2.2.1.2.2.1 (cQ Y (h_d Z) (h_b Z) M) Z.2.2.1.2.1 (h_s Z) mc ms (fun q => h_b Z ≤ q)
theorem c_met {l : Launch} {dd : hDD} {b : Nat} {y : MethodName} {bytes : ByteArray} {maxL d k mc ms : Nat} {Y Y' : hLay} {M M' : hMem} (hy : plainFor y = true) (hlen : 1 ≤ maxL) (hyn : y.name = "<init>")
    (body : ∀ Z : hZ, cOK Z bytes y.cls maxL d mc ms Y.2.2 none → Z.2.2.1.2.2.2.1.name = "<init>" → hB Z (cEnd Z Y' M' mc ms) (cI Z Y M) 0 0 0 [(0, .ref (h_b Z + k))] []) : cC l dd b y bytes maxL d k Y M Y' M' mc ms := by
  refine h_ofW (cc := bytes) (maxL := maxL) (ret := none) hy rfl ?_
  intro p e s m args below meth c s₁ B hml hv
  obtain ⟨rfl, hP, hF, hsz⟩ := hv
  have hts0 := atoms_spec (ws := Cond.code y bytes maxL none :: h_tbl) B.pre
  have hl := lv_entry ([.ref (b + k)]) (n := maxL) hlen
  rw [lg_entry_eq]
  exact body ((Y, dd, b), (p, l, e, { frames := d, cells := mc, slots := ms, locals := 64 * d }, s), (m, ([.ref (b + k)] : List Value).toArray, below, meth, c), maxL) ⟨⟨B.exec, B.bytes, hml, B.returns, findClass_of_methodNamed B.named, fun w hw => hts0 w (List.mem_cons_of_mem _ hw), B.notSynchronized, ⟨Nat.le_refl _, Nat.le_refl _⟩, rfl⟩, hF, rfl, rfl, hsz⟩ ((name_of_methodNamed B.named B.method).1.trans hyn) s.heap [] _ ⟨hP, va_S.rf⟩ hl
theorem c_vret (hz : cOK Z cc own nL d mc ms N0 none) (hcs : cs ≤ mc) (hss : ss ≤ ms) (hd : hD cc pc .return_ 1 pc') : hB Z (cEnd Z (S, rf, N) M mc ms) (cI Z (S, rf, N) M) cs ss pc L [] := by
  obtain ⟨hd, rfl⟩ := hd
  obtain ⟨⟨hx, hb, hml, hr0, hown, hts, hlk, hR, hnL⟩, -⟩ := hz
  refine v_widen hcs hss ?_
  intro H locs ls hI hl
  exact W.vret hx hb hr0 (fun t ht hW => ⟨rfl, by rw [ht]; exact hI.1, hI.2.F ht⟩) hI.2.2.2 hd hlk
theorem cSt_blind (Y : hLay) (dd : hDD) (b : Nat) (M : hMem) (av : List Value) : FrameBlind (va_Pc av (cSt Y dd b M)) := by
  intro a U g mk q
  obtain ⟨q0, qP, qF, qs⟩ := q
  exact ⟨q0, qP, qF.call g mk a, qs⟩
theorem c_after {Y' : hLay} {M' : hMem} {mc' ms' : Nat} {H : Heap} {locs : List Loc} {ls : Array Slot} {rest : List Value}
    (hr : va_Run Z.2.1.1 Z.2.1.2.1 Z.2.1.2.2.1 Z.2.1.2.2.2.1 Z.2.1.2.2.2.2 Z.2.2.1.1 Z.2.2.1.2.1 Z.2.2.1.2.2.1 Z.2.2.1.2.2.2.1 Z.2.2.1.2.2.2.2 H locs cs ss mc' ms' (F0 Z.2.2.1.1 pc ls st) rest (fun a => cQ Y' (h_d Z) (h_b Z) M' #[] a) (fun q => h_b Z ≤ q))
    (hS : va_S (fun q => h_b Z ≤ q) (h_s Z).heap H locs)
    (kk : ∀ (H1 : Heap) (locs1 : List Loc), cI Z Y' M' H1 locs1 → W Z.2.1.1 Z.2.1.2.1 Z.2.1.2.2.1 Z.2.1.2.2.2.1 Z.2.1.2.2.2.2 Z.2.2.1.1 Z.2.2.1.2.1 Z.2.2.1.2.2.1 Z.2.2.1.2.2.2.1 Z.2.2.1.2.2.2.2 H1 locs1 (cs + mc') (ss + ms') Q (F0 Z.2.2.1.1 (pc + 3) ls rest)) : W Z.2.1.1 Z.2.1.2.1 Z.2.1.2.2.1 Z.2.1.2.2.2.1 Z.2.1.2.2.2.2 Z.2.2.1.1 Z.2.2.1.2.1 Z.2.2.1.2.2.1 Z.2.2.1.2.2.2.1 Z.2.2.1.2.2.2.2 H locs cs ss Q (F0 Z.2.2.1.1 pc ls st) := by
  intro T hT X
  obtain ⟨w, st₀, t, T', L', h0, X', hL, e1, e2, ⟨hv, hp, hz, hk⟩, sx⟩ := hr T hT X
  cases hv
  rw [h0] at hz hk
  obtain ⟨t2, a1, b1⟩ := kk T'.heap (locs ++ L') ⟨by rw [e1]; exact hp, Nat.le_trans hS.1 (by rw [e1]; exact hz), fun q h1 h2 => by rw [e1, hk q (Nat.lt_of_lt_of_le h1 hS.1) h2]; exact hS.2.1 q h1 h2, fun q hq => by
      rcases List.mem_append.mp hq with h | h
      · exact hS.2.2 q h
      · exact hL q h⟩ T' rfl X'
  exact ⟨t2, sx t2 a1, b1⟩
theorem c_fit {dc d maxL mc' ms' : Nat} {R : Room} (hd : dc + 1 = d) (hm : maxL ≤ 40) (hR : d ≤ R.frames ∧ 64 * d ≤ R.locals) : ({ frames := dc, cells := mc', slots := ms', locals := 64 * dc } : Room).frames + 1 ≤ R.frames ∧ 8 + (maxL + 11) + ({ frames := dc, cells := mc', slots := ms', locals := 64 * dc } : Room).locals ≤ R.locals := by
  subst hd
  dsimp only
  omega
/-- links of constructors: by the class itself, by a nest mate -/
def h_MI (own : String) (idx : Nat) (y : MethodName) (bytes : ByteArray) (maxL : Nat) : Prop := h_M0 y bytes maxL none 0 ∧ Cond.methodLink own idx y ∈ h_tbl ∧ y.name = "<init>" ∧ Cond.instanceMethod y ∈ h_tbl
def h_MIN (own : String) (idx : Nat) (y : MethodName) (bytes : ByteArray) (maxL : Nat) (host : String) : Prop := h_M0 y bytes maxL none 0 ∧ (own, idx, y, host) ∈ h_nest ∧ y.name = "<init>" ∧ Cond.instanceMethod y ∈ h_tbl
theorem c_init (hz : cOK Z cc own nL d mc ms N0 ret) {y : MethodName} {bytes : ByteArray} {maxL idx dc k mc' ms' : Nat} {Y' : hLay} {M' : hMem} (mi : h_MI own idx y bytes maxL) (hc : cC (h_l Z) (h_d Z) (h_b Z) y bytes maxL dc k (S, rf, N) M Y' M' mc' ms') (hdd : dc + 1 = d) (hN : N0 + cs = N) (h0 : 1 ≤ N) (hcs : cs + mc' ≤ mc) (hss : ss + ms' ≤ ms) (hw : (st.map fun v => v.category).sum ≤ 8) (hd : hD cc pc (.invokespecial idx) 3 pc') (kk : hB Z Q (cI Z Y' M') (cs + mc') (ss + ms') pc' L st) : hB Z Q (cI Z (S, rf, N) M) cs ss pc L (.ref (h_b Z + k) :: st) := by
  obtain ⟨hd, rfl⟩ := hd
  intro H locs ls hI hl
  refine c_sz hz hN hI (Or.inl h0) (fun hsz => ?_)
  obtain ⟨⟨hx, hb, hml, hr0, hown, hts, hlk, hR, hnL⟩, hF, hmc, hms, -⟩ := hz
  obtain ⟨⟨m1, m2, m3, m4⟩, m5, m6, m7⟩ := mi
  refine c_after (Y' := Y') (M' := M') (va_runI (As := []) (rest := st) (cc := cc) (nL := Z.2.2.2) (Ts := h_tbl) ⟨hx, hb, hml, hown, hts⟩ hc ⟨callB_of 0 hts (h_goodT m1) rfl rfl rfl (hts _ m2) (hts _ m5) m3 (c_fit hdd m4 hR), m6, hts _ m7⟩ ⟨cSt_blind _ _ _ _ _, fun U hU hW => ⟨rfl, by rw [hU]; exact hI.1, hF.at hI.2 hU hW, by rw [hU]; exact hsz⟩⟩ rfl rfl hl.1 rfl (lv_room hw) hd ⟨by rw [hmc]; exact hcs, by rw [hms]; exact hss⟩) hI.2 (fun H1 locs1 hI1 => kk H1 locs1 ls hI1 hl)
theorem c_initN (hz : cOK Z cc own nL d mc ms N0 ret) {y : MethodName} {bytes : ByteArray} {maxL idx dc k mc' ms' : Nat} {host : String} {Y' : hLay} {M' : hMem} (mi : h_MIN own idx y bytes maxL host) (hc : cC (h_l Z) (h_d Z) (h_b Z) y bytes maxL dc k (S, rf, N) M Y' M' mc' ms') (hdd : dc + 1 = d) (hN : N0 + cs = N) (h0 : 1 ≤ N) (hcs : cs + mc' ≤ mc) (hss : ss + ms' ≤ ms) (hw : (st.map fun v => v.category).sum ≤ 8) (hd : hD cc pc (.invokespecial idx) 3 pc') (kk : hB Z Q (cI Z Y' M') (cs + mc') (ss + ms') pc' L st) : hB Z Q (cI Z (S, rf, N) M) cs ss pc L (.ref (h_b Z + k) :: st) := by
  obtain ⟨hd, rfl⟩ := hd
  intro H locs ls hI hl
  refine c_sz hz hN hI (Or.inl h0) (fun hsz => ?_)
  obtain ⟨⟨hx, hb, hml, hr0, hown, hts, hlk, hR, hnL⟩, hF, hmc, hms, -⟩ := hz
  obtain ⟨⟨m1, m2, m3, m4⟩, m5, m6, m7⟩ := mi
  refine c_after (Y' := Y') (M' := M') (va_runIN (As := []) (rest := st) (cc := cc) (nL := Z.2.2.2) (Ts := h_tbl) (host := host) ⟨hx, hb, hml, hown, hts⟩ hc ⟨va_cnB 0 hts (h_goodT m1) rfl rfl rfl (hF.2.1 _ m5) (hts _ m2) m3 (c_fit hdd m4 hR), m6, hts _ m7⟩ ⟨cSt_blind _ _ _ _ _, fun U hU hW => ⟨rfl, by rw [hU]; exact hI.1, hF.at hI.2 hU hW, by rw [hU]; exact hsz⟩⟩ rfl rfl hl.1 rfl (lv_room hw) hd ⟨by rw [hmc]; exact hcs, by rw [hms]; exact hss⟩) hI.2 (fun H1 locs1 hI1 => kk H1 locs1 ls hI1 hl)
end CRows
