theorem znw_L_7 : zq_nw RL 7 11 13 [.null, .null, .null, .null, .null, .null, .null, .null, .null, .null, .null, .null, .int 0] := ⟨RX11, TX11, tyX11, zc_11, List.mem_of_getElem? (i := 109) (by decide +kernel), List.mem_of_getElem? (i := 110) (by decide +kernel), List.mem_of_getElem? (i := 92) (by decide +kernel), by decide⟩
theorem znw_L_10 : zq_nw RL 10 12 62 [.int 0, .null, .null, .null, .null, .int 0, .int 0, .null, .null, .null, .null, .null, .null, .null, .null, .null, .int 0, .int 0, .int 0, .int 0, .int 0, .int 0, .null, .null, .null, .null, .null, .int 0, .int 0, .int 0, .int 0, .int 0, .null, .int 0, .int 0, .null, .int 0, .int 0, .null, .null, .null, .null, .null, .null, .int 0, .null, .null, .null, .null, .null, .null, .null, .int 0, .null, .int 0, .null, .null, .null, .null, .int 0, .null, .null] := ⟨RX12, TX12, tyX12, zc_12, List.mem_of_getElem? (i := 1121) (by decide +kernel), List.mem_of_getElem? (i := 1122) (by decide +kernel), List.mem_of_getElem? (i := 105) (by decide +kernel), by decide⟩
theorem zci_L_9 : zq_cb RL 9 yX11_init cX11_init 2 none 0 ∧ Cond.instanceMethod yX11_init ∈ lw_tbl ∧ yX11_init.name = "<init>" := ⟨⟨List.mem_of_getElem? (i := 111) (by decide +kernel), List.mem_of_getElem? (i := 92) (by decide +kernel), List.mem_of_getElem? (i := 113) (by decide +kernel), by decide +kernel, by decide +kernel, by decide +kernel⟩, List.mem_of_getElem? (i := 112) (by decide +kernel), rfl⟩
theorem zci_L_12 : zq_cb RL 12 yX12_init cX12_init 1 none 0 ∧ Cond.instanceMethod yX12_init ∈ lw_tbl ∧ yX12_init.name = "<init>" := ⟨⟨List.mem_of_getElem? (i := 1123) (by decide +kernel), List.mem_of_getElem? (i := 105) (by decide +kernel), List.mem_of_getElem? (i := 1125) (by decide +kernel), by decide +kernel, by decide +kernel, by decide +kernel⟩, List.mem_of_getElem? (i := 1124) (by decide +kernel), rfl⟩
set_option maxRecDepth 40000 in
set_option maxHeartbeats 4000000 in
theorem zq_law0 (N L : Nat) (xs : Nat → Int32) (y : MethodName) {v : Int32 × zq_S} (hv : mL_law N L xs zq_s0 = some v) : zq_R (some (L, xs)) y RL cL_law 4 (some .boolean) room_1 98 97389 0 (none, []) 0 [.ref 1000000, .null, .null, .null] [] [] 0 0 := by
  refine zq_new (pc' := 3) znw_L_7 (fun _ => rfl) (by decide) rfl (by decide) (by decide) (by decide) dL_law_0 rfl ?_
  refine zq_dup (pc' := 4) rfl dL_law_3 rfl ?_
  refine zq_callI (rm := room_1) (mc := 98) (ms := 97389) (n0 := 0) (cells := 1) (slots := 13) (pc' := 7) (As := []) (rest := [.ref 0]) zci_L_9 zct_40 rfl ⟨rfl, rfl, by decide, by decide⟩ ⟨by decide, by decide⟩ (by decide) (fun _ => ⟨by decide, rfl, by decide⟩) dL_law_4 rfl rfl ?_
  refine zq_astore_n (pc' := 8) (ls' := [.ref 1000000, .ref 0, .null, .null]) rfl (by decide) rfl rfl dL_law_7 rfl ?_
  refine zq_new (pc' := 11) znw_L_10 (fun _ => rfl) (by decide) rfl (by decide) (by decide) (by decide) dL_law_8 rfl ?_
  refine zq_dup (pc' := 12) rfl dL_law_11 rfl ?_
  refine zq_callI (rm := room_1) (mc := 98) (ms := 97389) (n0 := 0) (cells := 58) (slots := 15834) (pc' := 15) (As := []) (rest := [.ref 57]) zci_L_12 zct_43 rfl ⟨rfl, rfl, by decide, by decide⟩ ⟨by decide, by decide⟩ (by decide) (fun _ => ⟨by decide, rfl, by decide⟩) dL_law_12 rfl rfl ?_
  refine zq_astore_n (pc' := 16) (ls' := [.ref 1000000, .ref 0, .ref 57, .null]) rfl (by decide) rfl rfl dL_law_15 rfl ?_
  refine zq_iconst (pc' := 17) (v := 0) dL_law_16 rfl rfl ?_
  refine zq_istore_n (pc' := 18) (ls' := [.ref 1000000, .ref 0, .ref 57, .int 0]) rfl (by decide) rfl rfl dL_law_17 rfl ?_
  exact xL_law N L xs zq_s0 y v hv
theorem zq_arr {args : Array Value} {s : State} {ty : FieldType} (h : (Cond.arrayClass ty).before args s = true) : ∃ cA : ClassId, s.vm.findClass ("[" ++ ty.toString) = some cA ∧ ArrOfT s cA ty := by
  obtain ⟨cB, kB, comp, h1, h2, h3⟩ := Cond.arrayClass_spec h
  exact ⟨cB, h1, fun n z => ⟨fun k h => (by cases h), kB, h2, comp, h3⟩⟩
set_option maxRecDepth 40000 in
set_option maxHeartbeats 4000000 in
theorem zq_start {p : Program} {e : Env} {s : State} {m : MethodId} {below : List Frame} {meth : Method} {c : Code} (l : Launch) {b L : Nat} {xs : Nat → Int32} (C0 : lw_At p s m meth c b L xs) {N : Nat} {v : Int32 × zq_S} (hv : mL_law N L xs zq_s0 = some v) : W p l e room_1 s m #[Value.ref b] below meth c s.heap [] 0 0 (lw_Z below #[Value.ref b] s) (entryFrame m ([Value.ref b] : List Value).toArray 4) := by
  obtain ⟨hx, hb, hr, hml, hown, hts, hX, hbl, hlocks, hgv⟩ := id C0
  obtain ⟨c0, i0, h0⟩ := u_known (C := RX0) (T := TX0) (N := 2) (n := 2) hts (fun w h => (zu_0 w h).1) (hts (.instantiable RX0 2) (List.mem_of_getElem? (i := 322) (by decide +kernel)))
  obtain ⟨c1, i1, h1⟩ := u_known (C := RX1) (T := TX1) (N := 6) (n := 6) hts (fun w h => (zu_1 w h).1) (hts (.instantiable RX1 6) (List.mem_of_getElem? (i := 429) (by decide +kernel)))
  obtain ⟨c2, i2, h2⟩ := u_known (C := RX2) (T := TX2) (N := 1) (n := 1) hts (fun w h => (zu_2 w h).1) (hts (.instantiable RX2 1) (List.mem_of_getElem? (i := 419) (by decide +kernel)))
  obtain ⟨c3, i3, h3⟩ := u_known (C := RX3) (T := TX3) (N := 10) (n := 10) hts (fun w h => (zu_3 w h).1) (hts (.instantiable RX3 10) (List.mem_of_getElem? (i := 243) (by decide +kernel)))
  obtain ⟨c4, i4, h4⟩ := u_known (C := RX4) (T := TX4) (N := 6) (n := 6) hts (fun w h => (zu_4 w h).1) (hts (.instantiable RX4 6) (List.mem_of_getElem? (i := 336) (by decide +kernel)))
  obtain ⟨c5, i5, h5⟩ := u_known (C := RX5) (T := TX5) (N := 12) (n := 12) hts (fun w h => (zu_5 w h).1) (hts (.instantiable RX5 12) (List.mem_of_getElem? (i := 198) (by decide +kernel)))
  obtain ⟨c6, i6, h6⟩ := u_known (C := RX6) (T := TX6) (N := 8) (n := 8) hts (fun w h => (zu_6 w h).1) (hts (.instantiable RX6 8) (List.mem_of_getElem? (i := 361) (by decide +kernel)))
  obtain ⟨c7, i7, h7⟩ := u_known (C := RX7) (T := TX7) (N := 16) (n := 16) hts (fun w h => (zu_7 w h).1) (hts (.instantiable RX7 16) (List.mem_of_getElem? (i := 118) (by decide +kernel)))
  obtain ⟨c8, i8, h8⟩ := u_known (C := RX8) (T := TX8) (N := 3) (n := 3) hts (fun w h => (zu_8 w h).1) (hts (.instantiable RX8 3) (List.mem_of_getElem? (i := 296) (by decide +kernel)))
  obtain ⟨c9, i9, h9⟩ := u_known (C := RX9) (T := TX9) (N := 2) (n := 2) hts (fun w h => (zu_9 w h).1) (hts (.instantiable RX9 2) (List.mem_of_getElem? (i := 290) (by decide +kernel)))
  obtain ⟨c10, i10, h10⟩ := u_known (C := RX10) (T := TX10) (N := 6) (n := 6) hts (fun w h => (zu_10 w h).1) (hts (.instantiable RX10 6) (List.mem_of_getElem? (i := 392) (by decide +kernel)))
  obtain ⟨c11, i11, h11⟩ := u_known (C := RX11) (T := TX11) (N := 13) (n := 13) hts (fun w h => (zu_11 w h).1) (hts (.instantiable RX11 13) (List.mem_of_getElem? (i := 110) (by decide +kernel)))
  obtain ⟨c12, i12, h12⟩ := u_known (C := RX12) (T := TX12) (N := 62) (n := 62) hts (fun w h => (zu_12 w h).1) (hts (.instantiable RX12 62) (List.mem_of_getElem? (i := 1122) (by decide +kernel)))
  obtain ⟨dC, dI, hKc⟩ : ∃ (dC : Nat → ClassId) (dI : Nat → Nat → Nat), ∀ (k : Nat) (q : vw_C), vwCl[k]? = some q → u_Kn s q.1 q.2.1 q.2.2 (dC k) (dI k) := by
    refine ⟨fun k => ([c0, c1, c2, c3, c4, c5, c6, c7, c8, c9, c10, c11, c12] : List ClassId).getD k c0, fun k => ([i0, i1, i2, i3, i4, i5, i6, i7, i8, i9, i10, i11, i12] : List (Nat → Nat)).getD k i0, ?_⟩
    intro k q hq
    match k, hq with
    | 0, hq => cases hq; exact h0
    | 1, hq => cases hq; exact h1
    | 2, hq => cases hq; exact h2
    | 3, hq => cases hq; exact h3
    | 4, hq => cases hq; exact h4
    | 5, hq => cases hq; exact h5
    | 6, hq => cases hq; exact h6
    | 7, hq => cases hq; exact h7
    | 8, hq => cases hq; exact h8
    | 9, hq => cases hq; exact h9
    | 10, hq => cases hq; exact h10
    | 11, hq => cases hq; exact h11
    | 12, hq => cases hq; exact h12
    | k + 13, hq => simp [vwCl] at hq
  obtain ⟨a0, hr0, ha0⟩ := zq_arr (ty := .int) (hts _ zar_0) 
  obtain ⟨a1, hr1, ha1⟩ := zq_arr (ty := .byte) (hts _ zar_1) 
  obtain ⟨a2, hr2, ha2⟩ := zq_arr (ty := .boolean) (hts _ zar_2) 
  obtain ⟨a3, hr3, ha3⟩ := zq_arr (ty := .long) (hts _ zar_3) 
  have hK : va_K (dC, dI) vwCl (zq_ty (fun k => ([a0, a1, a2, a3] : List ClassId).getD k a0)) s := by
    refine ⟨hKc, fun k q hq => ?_⟩
    match k, hq with
    | 0, hq => cases hq; exact ⟨ha0, hr0⟩
    | 1, hq => cases hq; exact ⟨ha1, hr1⟩
    | 2, hq => cases hq; exact ⟨ha2, hr2⟩
    | 3, hq => cases hq; exact ⟨ha3, hr3⟩
    | k + 4, hq => simp [zq_ty] at hq
  have hl := lv_entry ([.ref b]) (n := 4) (Nat.le_of_ble_eq_true rfl)
  rw [lg_entry_eq]
  generalize (lg_sl ([.ref b]) ++ List.replicate (4 - (lg_sl ([.ref b])).length) Slot.unset).toArray = la at hl ⊢
  have em6 : (fun k : Nat => if k = 1000000 then b else s.heap.size + k) 1000000 = b := if_pos rfl
  refine zq_law0 N L xs ⟨"", meth.name, ""⟩ hv p l e s m #[Value.ref b] below meth c s.heap [] (dC, dI) (fun k => ([a0, a1, a2, a3] : List ClassId).getD k a0) (fun k => if k = 1000000 then b else s.heap.size + k) (fun q => s.heap.size ≤ q) la ⟨⟨hx, hb, hml, hr, hlocks, hown, fun w hm _ => hts w hm, rfl⟩, ⟨hK, fun k q h => by simp [zq_wl] at h, ⟨fun i j p q h => by simp [zq_wl] at h, fun k q h => by simp [zq_wl] at h⟩, va_S.rf, fun _ h => h, fun _ => ⟨s.heap.size, rfl, fun k hk => if_neg (Nat.ne_of_lt hk)⟩, ⟨?_, ?_, fun _ h => h⟩⟩, hl.1, hl.2.1, ?_⟩
  · rw [em6]; exact hX
  · rw [em6]; exact hbl
  · intro i v hi hn
    match i, hi with
    | 0, hi =>
      cases hi
      show la[0]? = some (.val (.ref ((fun k : Nat => if k = 1000000 then b else s.heap.size + k) 1000000)))
      rw [em6]
      exact hl.2.2 (0, .ref b) (by simp [lv_args])
    | 1, hi => cases hi; exact absurd rfl hn
    | 2, hi => cases hi; exact absurd rfl hn
    | 3, hi => cases hi; exact absurd rfl hn
    | i + 4, hi => simp at hi
