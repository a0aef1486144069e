/-! ROWS of constructors: made handier -/
def MZ (n : Nat) (M : hMem) : Prop := ∀ a, n ≤ a → ∀ j, M a j = 0
theorem MZ.up {n k j : Nat} {v : Int32} {M : hMem} (h : MZ n M) (hk : Nat.blt k n = true) : MZ n (h_up M k j v) := fun a ha i => by
  have hk' : k < n := Nat.le_of_ble_eq_true hk
  rw [h_up_row M k j v (show a ≠ k by omega)]; exact h a ha i
theorem MZ.mono {n m : Nat} {M : hMem} (h : MZ n M) (hk : Nat.ble n m = true) : MZ m M := fun a ha i => h a (Nat.le_trans (Nat.le_of_ble_eq_true hk) ha) i
theorem h_up_0 {M : hMem} {k j : Nat} {v : Int32} (h : M k j = v) : h_up M k j v = M := by
  funext a i
  unfold h_up
  by_cases e : a = k
  · subst e
    rw [if_pos rfl]
    by_cases e2 : i = j
    · subst e2
      show (if i = i then v else M a i) = _
      rw [if_pos rfl, h]
    · show (if i = j then v else M a i) = _
      rw [if_neg e2]
  · rw [if_neg e]
/-- a row filled up to i with what a list says -/
def MAi (M : hMem) (k : Nat) (LL : List Int32) (i : Nat) : hMem := fun a => if a = k then (fun j => if j < i then LL.getD j 0 else M k j) else M a
theorem MAi_0 (M : hMem) (k : Nat) (LL : List Int32) : MAi M k LL 0 = M := by
  funext a j
  unfold MAi
  by_cases e : a = k
  · subst e; rw [if_pos rfl]; rfl
  · rw [if_neg e]
theorem MAi_s {M : hMem} {k : Nat} {LL : List Int32} {i : Nat} {v : Int32} (h : LL.getD i 0 = v) : h_up (MAi M k LL i) k i v = MAi M k LL (i + 1) := by
  funext a j
  unfold MAi h_up
  by_cases e : a = k
  · subst e
    rw [if_pos rfl, if_pos rfl]
    show (if j = i then v else (if a = a then (fun j => if j < i then LL.getD j 0 else M a j) else M a) j) = if j < i + 1 then LL.getD j 0 else M a j
    rw [if_pos rfl]
    by_cases e2 : j = i
    · subst e2; rw [if_pos rfl, if_pos (Nat.lt_succ_self _), h]
    · rw [if_neg e2]
      by_cases e3 : j < i
      · rw [if_pos e3, if_pos (by omega)]
      · rw [if_neg e3, if_neg (by omega)]
  · rw [if_neg e, if_neg e]
    show (if a = k then (fun j => if j < i then LL.getD j 0 else M k j) else M a) j = M a j
    rw [if_neg e]
theorem MZ.ma {n k i : Nat} {LL : List Int32} {M : hMem} (h : MZ n M) (hk : Nat.blt k n = true) : MZ n (MAi M k LL i) := fun a ha j => by
  have hk' : k < n := Nat.le_of_ble_eq_true hk
  unfold MAi
  rw [if_neg (show a ≠ k by omega)]; exact h a ha j
def bndR (q : Nat × Nat) : Nat := if q.1 < 10 then h_nf q.1 else if q.1 = 10 then 0 else q.2
def rfk (S : Nat → Nat × Nat) (N : Nat) (rf rf' : Nat → Nat → Nat) : Bool := (List.range N).all fun a => (List.range (bndR (S a))).all fun j => rf a j == rf' a j
theorem pw_same {D : va_G} {S : Nat → Nat × Nat} {rf rf' : Nat → Nat → Nat} {N b : Nat} {cy : Nat → ClassId} {M : hMem} {H : Heap} (h : rfk S N rf rf' = true) (hP : va_P D vwCl (h_pw (S, rf, N) cy b M) H) : va_P D vwCl (h_pw (S, rf', N) cy b M) H := by
  intro k q hk
  obtain ⟨hkN, rfl⟩ := h_pw_at hk
  have hkN' : k < N := hkN
  have h0 := hP k _ (h_pw_get (S, rf, N) cy b M hkN)
  have hr : ∀ j, j < bndR (S k) → rf k j = rf' k j := fun j hj => eq_of_beq (h_forall (h_forall h hkN') hj)
  unfold bndR at hr
  by_cases c1 : (S k).1 < 10
  · rw [if_pos c1] at hr
    rw [h_cell_obj (Y := (S, rf, N)) (t := (S k).1) rfl c1] at h0
    rw [h_cell_obj (Y := (S, rf', N)) (t := (S k).1) rfl c1]
    have e : (List.range (h_nf (S k).1)).map (fun j => h_val b rf' (S k).1 k j (M k j)) = (List.range (h_nf (S k).1)).map (fun j => h_val b rf (S k).1 k j (M k j)) := by
      refine List.map_congr_left (fun j hj => ?_)
      unfold h_val
      rw [hr j (List.mem_range.mp hj)]
    show va_at D vwCl (b + k, .inr ((S k).1, (List.range (h_nf (S k).1)).map (fun j => h_val b rf' (S k).1 k j (M k j)))) H
    rw [e]
    exact h0
  · rw [if_neg c1] at hr
    by_cases c2 : (S k).1 = 10
    · rw [h_cell_int (Y := (S, rf, N)) (n := (S k).2) (Prod.ext c2 rfl)] at h0
      rw [h_cell_int (Y := (S, rf', N)) (n := (S k).2) (Prod.ext c2 rfl)]
      exact h0
    · rw [if_neg c2] at hr
      rw [h_cell_ref (Y := (S, rf, N)) (t := (S k).1) (n := (S k).2) rfl (by omega)] at h0
      rw [h_cell_ref (Y := (S, rf', N)) (t := (S k).1) (n := (S k).2) rfl (by omega)]
      have h1 : H[b + k]? = some (vp_cell (cy (S k).1) ((S k).2, .inr (.inr (.inr (.inr (fun j => if rf k j = 0 then none else some (b + rf k j))))))) := h0
      show H[b + k]? = some (vp_cell (cy (S k).1) ((S k).2, .inr (.inr (.inr (.inr (fun j => if rf' k j = 0 then none else some (b + rf' k j)))))))
      rw [h1, vp_cell_q, vp_cell_q]
      refine congrArg some ?_
      unfold arrV
      have e : (fun j : Fin (S k).2 => va_rf (if rf k j.val = 0 then none else some (b + rf k j.val))) = fun j : Fin (S k).2 => va_rf (if rf' k j.val = 0 then none else some (b + rf' k j.val)) := funext fun j => by rw [hr j.val j.isLt]
      rw [e]
section CWrap
variable {Z : hZ} {cc : ByteArray} {own : String} {nL d mc ms N0 : Nat} {ret : Option FieldType} {Q : State → Prop} {cs ss pc pc' : Nat} {L : List (Nat × Value)} {st : List Value} {S : Nat → Nat × Nat} {rf : Nat → Nat → Nat} {N : Nat} {M : hMem}
theorem c_rf {rf' : Nat → Nat → Nat} (h : rfk S N rf rf' = true) (k : hB Z Q (cI Z (S, rf', N) M) cs ss pc L st) : hB Z Q (cI Z (S, rf, N) M) cs ss pc L st := v_imp (fun H locs hI => ⟨pw_same h hI.1, hI.2⟩) k
theorem c_m0 {M' : hMem} (h : M' = M) (k : hB Z Q (cI Z (S, rf, N) M') cs ss pc L st) : hB Z Q (cI Z (S, rf, N) M) cs ss pc L st := by subst h; exact k
theorem c_newN {N' cs' ss' : Nat} (hz : cOK Z cc own nL d mc ms N0 ret) {C : String} {T : u_T} (ci : Nat) {index : Nat} (hci : ci < 10) (hc : vwCl[ci]? = some (C, T, h_nf ci)) (hws : ∀ w ∈ u_ws C T (h_nf ci), w ∈ h_tbl) (ty : Nat → FieldType) (hty : ∀ k, k < h_nf ci → parseFieldDescriptor (T k).2.2.1 = some (ty k)) (hdef : ∀ j, j < h_nf ci → defaultValue (ty j) = if h_kd ci j = 0 then .int 0 else .null) (hcl : Cond.classLink own index C ∈ h_tbl) (hin : Cond.instantiable C (h_nf ci) ∈ h_tbl) (hini : Cond.initialized C ∈ h_tbl) (hsh : (S N).1 = ci) (hM : MZ N M) (hrf : ∀ j, rf N j = 0) (hN : N0 + cs = N) (h0 : 1 ≤ N ∨ N = 0) (hcs : cs + 1 ≤ mc) (hss : ss + h_nf ci ≤ ms) (hd : hD cc pc (.new index) 3 pc') (e1 : N + 1 = N') (e2 : cs + 1 = cs') (e3 : ss + h_nf ci = ss') (k : hB Z Q (cI Z (S, rf, N') M) cs' ss' pc' L (.ref (h_b Z + N) :: st)) : hB Z Q (cI Z (S, rf, N) M) cs ss pc L st := by
  subst e1 e2 e3
  exact c_new hz hci hc hws ty hty hdef hcl hin hini hsh (hM N (Nat.le_refl _)) hrf hN h0 hcs hss hd k
theorem c_newiN {N' cs' ss' : Nat} (hz : cOK Z cc own nL d mc ms N0 ret) {n : Int32} (n' : Nat) (hw : Cond.arrayClass .int ∈ h_tbl) (hsh : S N = (10, n')) (hn : ¬ n < 0) (hn' : n.toNatClampNeg = n') (hb4 : n' * 4 ≤ 536870912) (hM : MZ N M) (hN : N0 + cs = N) (h0 : 1 ≤ N) (hcs : cs + 1 ≤ mc) (hss : ss + n' ≤ ms) (hd : hD cc pc (.newarray .int) 2 pc') (e1 : N + 1 = N') (e2 : cs + 1 = cs') (e3 : ss + n' = ss') (k : hB Z Q (cI Z (S, rf, N') M) cs' ss' pc' L (.ref (h_b Z + N) :: st)) : hB Z Q (cI Z (S, rf, N) M) cs ss pc L (.int n :: st) := by
  subst e1 e2 e3
  exact c_newi hz hw hsh hn hn' hb4 (hM N (Nat.le_refl _)) hN h0 hcs hss hd k
theorem c_newqN {N' cs' ss' : Nat} (hz : cOK Z cc own nL d mc ms N0 ret) {C : String} {n : Int32} (n' t p : Nat) {index : Nat} (hcl : Cond.classLink own index C ∈ h_tbl) (hover : cAO (h_s Z) → va_AO C (h_s Z)) (hp : ∀ cy, (h_tys cy)[p]? = some (cy t, .object C)) (ht : 10 < t) (hsh : S N = (t, n')) (hn : ¬ n < 0) (hn' : n.toNatClampNeg = n') (hb4 : n' * 4 ≤ 536870912) (hrf : ∀ j, rf N j = 0) (hN : N0 + cs = N) (h0 : 1 ≤ N) (hcs : cs + 1 ≤ mc) (hss : ss + n' ≤ ms) (hd : hD cc pc (.anewarray index) 3 pc') (e1 : N + 1 = N') (e2 : cs + 1 = cs') (e3 : ss + n' = ss') (k : hB Z Q (cI Z (S, rf, N') M) cs' ss' pc' L (.ref (h_b Z + N) :: st)) : hB Z Q (cI Z (S, rf, N) M) cs ss pc L (.int n :: st) := by
  subst e1 e2 e3
  exact c_newq hz hcl hover hp ht hsh hn hn' hb4 hrf hN h0 hcs hss hd k
theorem c_initE {cs' ss' : Nat} (hz : cOK Z cc own nL d mc ms N0 ret) {y : MethodName} {bytes : ByteArray} {maxL idx dc k mc' ms' : Nat} {Y' : hLay} {M' : hMem} (mi : h_MI own idx y bytes maxL) (hc : cC (h_l Z) (h_d Z) (h_b Z) y bytes maxL dc k (S, rf, N) M Y' M' mc' ms') (hdd : dc + 1 = d) (hN : N0 + cs = N) (h0 : 1 ≤ N) (hcs : cs + mc' ≤ mc) (hss : ss + ms' ≤ ms) (hw : (st.map fun v => v.category).sum ≤ 8) (hd : hD cc pc (.invokespecial idx) 3 pc') (e2 : cs + mc' = cs') (e3 : ss + ms' = ss') (kk : hB Z Q (cI Z Y' M') cs' ss' pc' L st) : hB Z Q (cI Z (S, rf, N) M) cs ss pc L (.ref (h_b Z + k) :: st) := by
  subst e2 e3
  exact c_init hz mi hc hdd hN h0 hcs hss hw hd kk
theorem c_initNE {cs' ss' : Nat} (hz : cOK Z cc own nL d mc ms N0 ret) {y : MethodName} {bytes : ByteArray} {maxL idx dc k mc' ms' : Nat} {host : String} {Y' : hLay} {M' : hMem} (mi : h_MIN own idx y bytes maxL host) (hc : cC (h_l Z) (h_d Z) (h_b Z) y bytes maxL dc k (S, rf, N) M Y' M' mc' ms') (hdd : dc + 1 = d) (hN : N0 + cs = N) (h0 : 1 ≤ N) (hcs : cs + mc' ≤ mc) (hss : ss + ms' ≤ ms) (hw : (st.map fun v => v.category).sum ≤ 8) (hd : hD cc pc (.invokespecial idx) 3 pc') (e2 : cs + mc' = cs') (e3 : ss + ms' = ss') (kk : hB Z Q (cI Z Y' M') cs' ss' pc' L st) : hB Z Q (cI Z (S, rf, N) M) cs ss pc L (.ref (h_b Z + k) :: st) := by
  subst e2 e3
  exact c_initN hz mi hc hdd hN h0 hcs hss hw hd kk
theorem c_iastA (hz : cOK Z cc own nL d mc ms N0 ret) {k n : Nat} {i x : Int32} (LL : List Int32) (a : Nat) (hs : h_is (S, rf, N) k 10 n) (hi : h_ib i n) (hj : i.toNatClampNeg = a) (hv : LL.getD a 0 = x) {a' : Nat} (ha : a + 1 = a') (hd : hD cc pc .iastore 1 pc') (kk : hB Z Q (cI Z (S, rf, N) (MAi M k LL a')) cs ss pc' L st) : hB Z Q (cI Z (S, rf, N) (MAi M k LL a)) cs ss pc L (.int x :: .int i :: .ref (h_b Z + k) :: st) := by
  subst ha
  refine c_iast hz hs hi hj hd ?_
  rw [MAi_s hv]
  exact kk
/-- four rows of ints, and the row of them -/
theorem c_multi {N' cs' ss' : Nat} {rf' : Nat → Nat → Nat} (hz : cOK Z cc own nL d mc ms N0 ret) {index : Nat} (hcl : Cond.classLink own index "[[I" ∈ h_tbl) (hsh : S N = (15, 4)) (hsh2 : ∀ j, j < 4 → S (N + 1 + j) = (10, 25)) (hM : MZ N M) (hr1 : ∀ j, j < 4 → rf' N j = N + 1 + j) (hr1' : ∀ j, 4 ≤ j → rf' N j = 0) (hr2 : ∀ a, a ≠ N → rf' a = rf a) (hN : N0 + cs = N) (h0 : 1 ≤ N) (hcs : cs + 5 ≤ mc) (hss : ss + 104 ≤ ms) (hd : decode cc pc = .ok (.multianewarray index 2, 4) ∧ pc + 4 = pc') (e1 : N + 5 = N') (e2 : cs + 5 = cs') (e3 : ss + 104 = ss') (k : hB Z Q (cI Z (S, rf', N') M) cs' ss' pc' L (.ref (h_b Z + N) :: st)) : hB Z Q (cI Z (S, rf, N) M) cs ss pc L (.int 25 :: .int 4 :: st) := by
  obtain ⟨hd, rfl⟩ := hd
  subst e1 e2 e3
  intro H locs ls hI hl
  refine c_sz hz hN hI (Or.inl h0) (fun hsz => ?_)
  obtain ⟨⟨hx, hb, hml, hr0, hown, hts, hlk, hR, hnL⟩, ⟨hK, -, -, -, -, kA, kC, q, a1, a2, a3, a4, a5⟩, hmc, hms, -⟩ := hz
  refine W_multi hx hb hown (hts _ hcl) a1 a2 a3 a4 a5 hd (by rw [hmc]; exact hcs) (by rw [hms]; exact hss) hsz (fun H1 locs1 o1 z1 f1 f2 hlo => ?_)
  obtain ⟨hP, hS⟩ := hI
  refine k H1 (locs ++ locs1) ls ⟨fun i x hx' => ?_, Nat.le_trans hS.1 (by omega), fun q h1 h2 => ?_, fun x hx' => ?_⟩ hl
  · obtain ⟨hi, rfl⟩ := h_pw_at hx'
    have hi' : i < N + 5 := hi
    by_cases c1 : i < N
    · have e := h_cell_rf (S := S) (N := N) (N' := N + 5) (cy := (h_d Z).2.1) (b := h_b Z) (M := M) (M' := M) (hr2 i (by omega)) rfl
      rw [e]
      exact (hP i _ (h_pw_get (S, rf, N) (h_d Z).2.1 (h_b Z) M c1)).kept (o1 _ (by show h_b Z + i < _; omega))
    by_cases c2 : i = N
    · subst c2
      rw [h_cell_ref (Y := (S, rf', i + 5)) hsh (by decide)]
      show H1[h_b Z + i]? = some (vp_cell _ _)
      rw [f1, vp_cell_q]
      refine congrArg some (congrArg (arrV _ _) (funext fun j => ?_))
      by_cases hj : j < 4
      · show (if j < 4 then Value.ref (h_b Z + i + 1 + j) else Value.null) = va_rf (if rf' i j = 0 then none else some (h_b Z + rf' i j))
        rw [if_pos hj, hr1 j hj, if_neg (by omega), show h_b Z + i + 1 + j = h_b Z + (i + 1 + j) from by omega]
        rfl
      · show (if j < 4 then Value.ref (h_b Z + i + 1 + j) else Value.null) = va_rf (if rf' i j = 0 then none else some (h_b Z + rf' i j))
        rw [if_neg hj, hr1' j (by omega), if_pos rfl]
        rfl
    · obtain ⟨j, rfl⟩ : ∃ j, i = N + 1 + j := ⟨i - (N + 1), by omega⟩
      rw [h_cell_int (Y := (S, rf', N + 5)) (hsh2 j (by omega))]
      show H1[h_b Z + (N + 1 + j)]? = some (vp_cell _ _)
      rw [show h_b Z + (N + 1 + j) = h_b Z + N + 1 + j from by omega, f2 j (by omega), vp_cell_i]
      refine congrArg some (congrArg (arrV _ _) (funext fun x => ?_))
      rw [hM _ (by omega)]
  · rw [o1 q (by have : q < (h_s Z).heap.size := h1; have := hS.1; omega)]
    exact hS.2.1 q h1 h2
  · rcases List.mem_append.mp hx' with h | h
    · exact hS.2.2 x h
    · show h_b Z ≤ x.base
      rw [hlo x h]; omega
end CWrap
