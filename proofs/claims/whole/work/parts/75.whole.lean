/-- YOUR PART: from the entry, for every script of at most 3584 ints, the law comes to its end with true ('hflags': the launch's flags, for a law that throws: no stack traces) -/
theorem whole_start {p : Program} {e : Env} {s : State} {m : MethodId} {below : List Frame} {meth : Method} {c : Code} (l : Launch) (hflags : l.flags = flags0) {b L : Nat} {xs : Nat → Int32} (hL : L ≤ 3584) (C0 : lw_At p s m meth c b L xs) : W p l e room_1 s m #[Value.ref b] below meth c s.heap [] 0 0 (lw_Z below #[Value.ref b] s) (entryFrame m ([Value.ref b] : List Value).toArray 4) := by
  obtain ⟨hx, hb, hr, hml, hown, hts, hX, hbl, hlk, hg⟩ := C0
  obtain ⟨dd, hF⟩ := law_cF hts hg
  obtain ⟨v0, X0, v1, M1, r1, r2, R⟩ := rr_init
  have body : ∀ Z : hZ, Z = ((hYx, dd, s.heap.size), (p, l, e, room_1, s), (m, #[Value.ref b], below, meth, c), 4) → hB Z (lw_Z below #[Value.ref b] s) (cI Z (hYx.1, rfT 1 0 0 0, 0) cM0) 0 0 0 [(0, .ref b)] [] := by
    intro Z hZ
    have hz : cOK Z cL_law RL 4 100 600000 7302250 0 ret := by
      rw [hZ]
      exact ⟨⟨hx, hb, hml, hr, hown, fun w hw => hts w (List.mem_filter.mp hw).1, hlk, ⟨(show 100 ≤ room_1.frames by decide), (show 64 * 100 ≤ room_1.locals by decide)⟩, rfl⟩, hF, rfl, rfl, rfl⟩
    have hX' : va_X b L xs (h_s Z) (h_s Z).heap := by rw [hZ]; exact hX
    have hbl' : b < (h_s Z).heap.size := by rw [hZ]; exact hbl
    have hend : ∀ (X M : hMem) (i : Nat), hB Z (lw_Z below #[Value.ref b] s) (cW Z X M) 114 5488 2117 [(3, .int (nI i)), (2, .ref (h_b Z + 88 + 0)), (1, .ref (h_b Z + 0)), (0, .ref b)] [] := by
      intro X M i
      refine v_iconst hz.1 1 dL_law_2117 rfl ?_
      subst hZ
      intro H locs ls hI hl
      refine va_forget (fun q hq => hI.2.2.2.2 q hq) ?_
      refine W.widen (k := 600000) (n := 7302250) (by decide) (by decide) ?_
      exact lw_ret hx hb hr hlk dL_law_2118.1
    refine c_newN (N' := 1) (cs' := 1) (ss' := 10) hz 8 (by decide) rfl uw_X9 tyX9 tyX9_ok df_X9 cl_L_7 it_X9 ii_X9 rfl cM0_z (fun _ => rfl) rfl (Or.inr rfl) (by decide) (by decide) dL_law_0 rfl rfl rfl ?_
    refine v_dup hz.1 dL_law_3 rfl ?_
    refine c_initE (cs' := 88) (ss' := 2978) (Y' := hYx) (M' := X0) hz mi_L_9 (c_X9 r1) rfl rfl (by decide) (by decide) (by decide) (Nat.le_of_ble_eq_true rfl) dL_law_4 rfl rfl ?_
    refine v_astore_n hz.1 [(1, .ref (h_b Z + 0)), (0, .ref b)] dL_law_7 rfl rfl rfl ?_
    refine l_newM hz r2 ?_
    refine v_iconst hz.1 0 dL_law_16 rfl ?_
    refine v_istore_n hz.1 [(3, .int 0), (2, .ref (h_b Z + 88 + 0)), (1, .ref (h_b Z + 0)), (0, .ref b)] dL_law_17 rfl rfl rfl ?_
    exact l_loop hz hX' hbl' hL (by decide) (by decide) hend 600 0 X0 M1 (by decide) (by omega) R
  have hl := lv_entry ([.ref b]) (n := 4) (Nat.le_of_ble_eq_true rfl)
  rw [lg_entry_eq]
  exact body _ rfl s.heap [] _ ⟨fun k q hk => by simp [h_pw] at hk, va_S.rf⟩ hl
