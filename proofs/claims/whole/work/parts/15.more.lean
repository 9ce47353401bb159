def zq_cSN (own : String) (idx : Nat) (y : MethodName) (host : String) (cc : ByteArray) (nL : Nat) (ret : Option FieldType) (n : Nat) : Prop :=
  (Cond.methodLinkNest own idx y host ∈ lw_tbl ∧ Cond.initialized y.cls ∈ lw_tbl ∧ Cond.code y cc nL ret ∈ lw_tbl ∧ (y.cls ≠ "java/lang/invoke/MethodHandle" ∧ y.cls ≠ "java/lang/invoke/VarHandle" ∧ (parseMethodDescriptor y.desc).map (fun d => d.parameters.length) = some n)) ∧ Cond.static y ∈ lw_tbl
section zqMore
variable {sc : Option (Nat × (Nat → Int32))} {y : MethodName} {own : String} {cc : ByteArray} {nL : Nat} {ret : Option FieldType} {rm : Room} {mc ms n0 : Nat} {res : Option Value × List zq_AC} {pc pc' : Nat} {ls st : List Value} {ws : List zq_AC} {cells slots : Nat}
theorem zq_callSN {y' : MethodName} {host : String} {cc' : ByteArray} {nL' : Nat} {ret' : Option FieldType} {rm' : Room} {idx n : Nat} {As rest : List Value} {rv : Option Value} {ws' : List zq_AC}
    (cv : zq_cSN own idx y' host cc' nL' ret' n) (hM : zq_MC y' cc' nL' ret' rm' 0 0 As ws (rv, ws')) (hn : As.length = n) (hrm : rm'.cells = 0 ∧ rm'.slots = 0 ∧ rm'.frames + 1 ≤ rm.frames ∧ 8 + (nL' + 11) + rm'.locals ≤ rm.locals) (hf : cells ≤ rm.cells ∧ slots ≤ rm.slots) (hst : (rest.map fun v => v.category).sum ≤ 8) (hd : decode cc pc = .ok (.invokestatic idx, 3)) (hpc : pc + 3 = pc') {st1 : List Value} (hs1 : st1 = As.reverse ++ rest)
    (K : zq_R sc y own cc nL ret rm mc ms n0 res pc' ls (rv.toList ++ rest) ws' cells slots) : zq_R sc y own cc nL ret rm mc ms n0 res pc ls st1 ws cells slots := by
  subst hpc
  subst hs1
  intro p l e s m args below meth c H locs D cA em A la h
  obtain ⟨⟨h1, h2, h3, h4, h5, h6⟩, hstt⟩ := cv
  have hts := h.1.2.2.2.2.2.2.1
  refine zq_behind (mc' := 0) (ms' := 0) h (a := (As.map (zq_cv em)).toArray) ?_ K
  refine va_runSN (Ts := []) (As := As.map (zq_cv em)) (rest := rest.map (zq_cv em)) ⟨h.1.1, h.1.2.1, h.1.2.2.1, h.1.2.2.2.2.2.1, fun _ z => absurd z List.not_mem_nil⟩ (hM l D cA em H.size) ⟨⟨⟨hrm.1, hrm.2.1, hrm.2.2.1, hrm.2.2.2, ?_, List.mem_cons_self⟩, hts _ h3 rfl, hts _ h2 rfl, ⟨h4, h5⟩, fun sig hs => ?_, hts _ h1 rfl⟩, hts _ hstt rfl, trivial⟩ ⟨zq_blind, zq_pre h (fun z => absurd rfl z)⟩ rfl (by simpa using hn) h.2.2.1 ?_ (lv_room (by rw [zq_csum]; exact hst)) hd ⟨hf.1, hf.2⟩
  · intro w hw a' U hW
    rcases List.mem_cons.mp hw with e | hw
    · subst e
      exact word_at hW (good_of_word (w := Cond.code y' cc' nL' ret') rfl) (hts _ h3 rfl)
    · obtain ⟨m1, m2⟩ := List.mem_filter.mp hw
      exact word_at hW (good_of_word m2) (hts w m1 (by rw [m2]; rfl))
  · rw [hs] at h6
    exact (Option.some.inj h6).symm
  · show (As.reverse ++ rest).map (zq_cv em) = (As.map (zq_cv em)).reverse ++ rest.map (zq_cv em)
    rw [List.map_append, List.map_reverse]
theorem zq_copyl {k0 k1 m0 m1 idx : Nat} {f g : Nat → Int64} {sp dp n : Int32} (hc : Cond.methodLink own idx arraycopyName ∈ lw_tbl ∧ Cond.native arraycopyName ∈ lw_tbl ∧ Cond.static arraycopyName ∈ lw_tbl ∧ Cond.initialized "java/lang/System" ∈ lw_tbl) (hk0 : ws[k0]? = some (.inl (3, m0, .inr (.inl f)))) (hk1 : ws[k1]? = some (.inl (3, m1, .inr (.inl g)))) (h1 : ¬ sp < 0) (h2 : ¬ dp < 0) (h3 : ¬ n < 0) (h4 : sp.toNatClampNeg + n.toNatClampNeg ≤ m0) (h5 : dp.toNatClampNeg + n.toNatClampNeg ≤ m1)
    (hframes : 1 ≤ rm.frames) (hlocals : (st.map fun v => v.category).sum + (nativeFrameWords "java/lang/System" "arraycopy" 5 + 11) ≤ rm.locals) (hd : decode cc pc = .ok (.invokestatic idx, 3)) (hn : pc + 3 = pc')
    (K : zq_R sc y own cc nL ret rm mc ms n0 res pc' ls st (ws.set k1 (.inl (3, m1, .inr (.inl (va_cpy f g sp.toNatClampNeg dp.toNatClampNeg n.toNatClampNeg))))) cells slots) : zq_R sc y own cc nL ret rm mc ms n0 res pc ls (.int n :: .int dp :: .ref k1 :: .int sp :: .ref k0 :: st) ws cells slots := by
  subst hn
  intro p l e s m args below meth c H locs D cA em A la h
  have hts := h.1.2.2.2.2.2.2.1
  refine va_copyl (D := D) h.1.1 h.1.2.1 (h.1.2.2.1.trans h.2.2.1.symm) h.1.2.2.2.2.2.1 (hts _ hc.1 rfl) (hts _ hc.2.1 rfl) (hts _ hc.2.2.1 rfl) (hts _ hc.2.2.2 rfl) h.2.1.1 h.2.1.2.1 h.2.1.2.2.1 h.2.1.2.2.2.1 k0 k1 3 3 (zq_wl_get hk0) (zq_wl_get hk1) rfl rfl rfl h1 h2 h3 h4 h5 (fun i _ => rfl) hframes (by rw [zq_csum]; exact hlocals) hd (fun H1 locs1 hP hD hS => ?_)
  have hP : va_P D vwCl ((zq_wl cA em ws).set k1 (em k1, zq_ce cA em (.inl (3, m1, .inr (.inl (va_cpy f g sp.toNatClampNeg dp.toNatClampNeg n.toNatClampNeg)))))) H1 := hP
  have hD : va_D A ((zq_wl cA em ws).set k1 (em k1, zq_ce cA em (.inl (3, m1, .inr (.inl (va_cpy f g sp.toNatClampNeg dp.toNatClampNeg n.toNatClampNeg)))))) := hD
  rw [zq_wl_set] at hP hD
  exact K p l e s m args below meth c H1 locs1 D cA em A la ⟨h.1, ⟨h.2.1.1, hP, hD, hS, h.2.1.2.2.2.2⟩, h.2.2⟩
end zqMore
theorem zq_sh_lt {k kd n : Nat} (h : zq_sh[k]? = some (.inl (kd, n))) : n < 2147483648 := by
  have h1 : zq_sh.all (fun q => match q with
    | .inl a => decide (a.2 < 2147483648)
    | .inr _ => true) = true := by decide +kernel
  have h2 := List.all_eq_true.mp h1 _ (List.mem_of_getElem? h)
  exact of_decide_eq_true h2
theorem zq_ofN_lt {a b : Nat} (ha : a < 2147483648) (hb : b < 2147483648) : Int32.ofNat a ≤ Int32.ofNat b ↔ a ≤ b := Int32.ofNat_le_ofNat ha hb
theorem zq_ofN_cl {a : Nat} (ha : a < 2147483648) : (Int32.ofNat a).toNatClampNeg = a := by
  rw [Int32.toNatClampNeg, Int32.toInt_ofNat_of_lt (by simpa using ha)]
  simp
theorem zq_ofN_in {a n : Nat} (ha : a < n) (hn : n < 2147483648) : vp_in (Int32.ofNat a) n := by
  have h1 : (Int32.ofNat a).toNatClampNeg = a := zq_ofN_cl (by omega)
  unfold vp_in
  rw [h1]
  rintro (h | h)
  · rw [Int32.lt_iff_toInt_lt, Int32.toInt_ofNat_of_lt (by have : a < 2147483648 := by omega
                                                           simpa using this)] at h
    have : (0 : Int32).toInt = 0 := rfl
    omega
  · omega
theorem zq_set_same {ws : List zq_AC} {k : Nat} {x : zq_AC} (h : ws[k]? = some x) : ws.set k x = ws := by
  apply List.ext_getElem?
  intro i
  by_cases e : i = k
  · subst e
    rw [List.getElem?_set_self (List.getElem?_eq_some_iff.mp h).1, h]
  · rw [List.getElem?_set_ne (Ne.symm e)]
set_option maxHeartbeats 2000000 in
theorem zj_fillI_loop {res : Option Value × List zq_AC} {n0 k n : Nat} {v : Int32} (hn : n < 2147483648) : ∀ (d i : Nat) (f : Nat → Int32) (ws : List zq_AC), i + d = n → ws[k]? = some (.inl (0, n, .inl f)) → res = (none, ws.set k (.inl (0, n, .inl (fun j => if i ≤ j ∧ j < n then v else f j)))) →
    zq_R none yJ7_fill_53178 RJ7 cJ7_fill_53178 4 none ⟨0, 0, 0, 0⟩ 0 0 n0 res 5 [.ref k, .int v, .int (Int32.ofNat i), .int (Int32.ofNat n)] [] ws 0 0 := by
  intro d
  induction d with
  | zero =>
    intro i f ws hi hk hr
    refine zq_iload_n rfl rfl dJ7_fill_53178_5 rfl ?_
    refine zq_iload_n rfl rfl dJ7_fill_53178_6 rfl ?_
    refine zq_icmp_ge dJ7_fill_53178_7 rfl rfl (fun _ => ?_) (fun h => absurd ((zq_ofN_lt hn (by omega)).mpr (by omega)) h)
    refine zq_vret rfl ?_ rfl rfl dJ7_fill_53178_20
    rw [hr]
    have e1 : (fun j => if i ≤ j ∧ j < n then v else f j) = f := by
      funext j
      rw [if_neg (by omega)]
    rw [e1, zq_set_same hk]
  | succ d ih =>
    intro i f ws hi hk hr
    have hl : k < ws.length := (List.getElem?_eq_some_iff.mp hk).1
    refine zq_iload_n rfl rfl dJ7_fill_53178_5 rfl ?_
    refine zq_iload_n rfl rfl dJ7_fill_53178_6 rfl ?_
    refine zq_icmp_ge dJ7_fill_53178_7 rfl rfl (fun h => absurd ((zq_ofN_lt hn (by omega)).mp h) (by omega)) (fun _ => ?_)
    refine zq_aload_n rfl rfl dJ7_fill_53178_10 rfl ?_
    refine zq_iload_n rfl rfl dJ7_fill_53178_11 rfl ?_
    refine zq_iload_n rfl rfl dJ7_fill_53178_12 rfl ?_
    refine zq_iastore hk (zq_ofN_in (by omega) hn) dJ7_fill_53178_13 rfl ?_
    refine zq_iinc (ls' := [.ref k, .int v, .int (Int32.ofNat (i + 1)), .int (Int32.ofNat n)]) rfl (show Int32.ofNat i + Int32.ofInt 1 = Int32.ofNat (i + 1) from by rw [Int32.ofNat_add]; rfl) (by decide) rfl rfl dJ7_fill_53178_14 rfl ?_
    refine zq_goto dJ7_fill_53178_17 rfl ?_
    refine ih (i + 1) (upd f (Int32.ofNat i).toNatClampNeg v) _ (by omega) (List.getElem?_set_self hl) ?_
    rw [hr, List.set_set, zq_ofN_cl (by omega)]
    congr 6
    funext j
    unfold upd
    by_cases h1 : j = i
    · subst h1
      simp
      omega
    · by_cases h2 : i ≤ j ∧ j < n
      · rw [if_pos h2, if_pos (by omega)]
      · rw [if_neg h2, if_neg (by omega), if_neg h1]
set_option maxHeartbeats 2000000 in
theorem zj_fillL_loop {res : Option Value × List zq_AC} {n0 k n : Nat} {v : Int64} (hn : n < 2147483648) : ∀ (d i : Nat) (f : Nat → Int64) (ws : List zq_AC), i + d = n → ws[k]? = some (.inl (3, n, .inr (.inl f))) → res = (none, ws.set k (.inl (3, n, .inr (.inl (fun j => if i ≤ j ∧ j < n then v else f j))))) →
    zq_R none yJ7_fill_d0a16 RJ7 cJ7_fill_d0a16 5 none ⟨0, 0, 0, 0⟩ 0 0 n0 res 6 [.ref k, .long v, .null, .int (Int32.ofNat i), .int (Int32.ofNat n)] [] ws 0 0 := by
  intro d
  induction d with
  | zero =>
    intro i f ws hi hk hr
    refine zq_iload_n rfl rfl dJ7_fill_d0a16_6 rfl ?_
    refine zq_iload rfl dJ7_fill_d0a16_7 rfl ?_
    refine zq_icmp_ge dJ7_fill_d0a16_9 rfl rfl (fun _ => ?_) (fun h => absurd ((zq_ofN_lt hn (by omega)).mpr (by omega)) h)
    refine zq_vret rfl ?_ rfl rfl dJ7_fill_d0a16_22
    rw [hr]
    have e1 : (fun j => if i ≤ j ∧ j < n then v else f j) = f := by
      funext j
      rw [if_neg (by omega)]
    rw [e1, zq_set_same hk]
  | succ d ih =>
    intro i f ws hi hk hr
    have hl : k < ws.length := (List.getElem?_eq_some_iff.mp hk).1
    refine zq_iload_n rfl rfl dJ7_fill_d0a16_6 rfl ?_
    refine zq_iload rfl dJ7_fill_d0a16_7 rfl ?_
    refine zq_icmp_ge dJ7_fill_d0a16_9 rfl rfl (fun h => absurd ((zq_ofN_lt hn (by omega)).mp h) (by omega)) (fun _ => ?_)
    refine zq_aload_n rfl rfl dJ7_fill_d0a16_12 rfl ?_
    refine zq_iload_n rfl rfl dJ7_fill_d0a16_13 rfl ?_
    refine zq_lload_n rfl rfl dJ7_fill_d0a16_14 rfl ?_
    refine zq_lastore hk (zq_ofN_in (by omega) hn) dJ7_fill_d0a16_15 rfl ?_
    refine zq_iinc (ls' := [.ref k, .long v, .null, .int (Int32.ofNat (i + 1)), .int (Int32.ofNat n)]) rfl (show Int32.ofNat i + Int32.ofInt 1 = Int32.ofNat (i + 1) from by rw [Int32.ofNat_add]; rfl) (by decide) rfl rfl dJ7_fill_d0a16_16 rfl ?_
    refine zq_goto dJ7_fill_d0a16_19 rfl ?_
    refine ih (i + 1) (vp_updL f (Int32.ofNat i).toNatClampNeg v) _ (by omega) (List.getElem?_set_self hl) ?_
    rw [hr, List.set_set, zq_ofN_cl (by omega)]
    congr 7
    funext j
    unfold vp_updL
    by_cases h1 : j = i
    · subst h1
      simp
      omega
    · by_cases h2 : i ≤ j ∧ j < n
      · rw [if_pos h2, if_pos (by omega)]
      · rw [if_neg h2, if_neg (by omega), if_neg h1]
set_option maxHeartbeats 2000000 in
theorem zj_fillI {k n : Nat} {v : Int32} {s : zq_S} (hs : zq_sh[k]? = some (.inl (0, n))) : zq_MC yJ7_fill_53178 cJ7_fill_53178 4 none ⟨0, 0, 0, 0⟩ 0 0 [.ref k, .int v] (zq_en s) (none, zq_en (zpfi s k n v)) := by
  refine zq_MC_of (own := RJ7) [.ref k, .int v, .null, .null] (by decide +kernel) rfl rfl (Nat.le_of_ble_eq_true rfl) ?_
  refine zq_iconst (v := 0) dJ7_fill_53178_0 rfl rfl ?_
  refine zq_istore_n (ls' := [.ref k, .int v, .int 0, .null]) rfl (by decide) rfl rfl dJ7_fill_53178_1 rfl ?_
  refine zq_aload_n rfl rfl dJ7_fill_53178_2 rfl ?_
  refine zq_alen (zq_en_get hs) (Nat.le_of_ble_eq_true rfl) dJ7_fill_53178_3 rfl ?_
  refine zq_istore_n (ls' := [.ref k, .int v, .int 0, .int (Int32.ofNat n)]) rfl (by decide) rfl rfl dJ7_fill_53178_4 rfl ?_
  refine zj_fillI_loop (zq_sh_lt hs) n 0 _ _ (by omega) (zq_en_get hs) ?_
  rw [zpfi, ← zq_en_sA hs (by decide)]
  simp
set_option maxHeartbeats 2000000 in
theorem zj_fillL {k n : Nat} {v : Int64} {s : zq_S} (hs : zq_sh[k]? = some (.inl (3, n))) : zq_MC yJ7_fill_d0a16 cJ7_fill_d0a16 5 none ⟨0, 0, 0, 0⟩ 0 0 [.ref k, .long v] (zq_en s) (none, zq_en (zpfl s k n v)) := by
  refine zq_MC_of (own := RJ7) [.ref k, .long v, .null, .null, .null] (by decide +kernel) rfl rfl (Nat.le_of_ble_eq_true rfl) ?_
  refine zq_iconst (v := 0) dJ7_fill_d0a16_0 rfl rfl ?_
  refine zq_istore_n (ls' := [.ref k, .long v, .null, .int 0, .null]) rfl (by decide) rfl rfl dJ7_fill_d0a16_1 rfl ?_
  refine zq_aload_n rfl rfl dJ7_fill_d0a16_2 rfl ?_
  refine zq_alen (zq_en_get hs) (Nat.le_of_ble_eq_true rfl) dJ7_fill_d0a16_3 rfl ?_
  refine zq_istore (ls' := [.ref k, .long v, .null, .int 0, .int (Int32.ofNat n)]) (by decide) rfl rfl dJ7_fill_d0a16_4 rfl ?_
  refine zj_fillL_loop (zq_sh_lt hs) n 0 _ _ (by omega) (zq_en_get hs) ?_
  rw [zpfl, ← zq_en_sL hs]
  simp
section zxMore
variable {ρ : Type} {y : MethodName} {own : String} {cc : ByteArray} {nL : Nat} {ret : Option FieldType} {rm : Room} {rv : ρ → Option Value} {pc pc' : Nat} {ls st : List Value} {s : zq_S} {code : Option (ρ × zq_S)}
theorem zx_fillI {k n idx : Nat} {v : Int32} {f : zq_S → Option (ρ × zq_S)} (cv : zq_cS own idx yJ7_fill_53178 cJ7_fill_53178 4 none 2) (hs : zq_sh[k]? = some (.inl (0, n))) (hrm : 1 ≤ rm.frames ∧ 23 ≤ rm.locals ∧ (st.map fun v => v.category).sum ≤ 8) (hd : decode cc pc = .ok (.invokestatic idx, 3)) (hpc : pc + 3 = pc') (K : ∀ s', zq_X y own cc nL ret rm rv pc' ls st s' (f s')) : zq_X y own cc nL ret rm rv pc ls (.int v :: .ref k :: st) s (zq_let (zpfi s k n v) f) :=
  fun u h => zq_callS (As := [.ref k, .int v]) (rest := st) cv (zj_fillI hs) rfl ⟨rfl, rfl, by simpa using hrm.1, by simpa using hrm.2.1⟩ ⟨Nat.zero_le _, Nat.zero_le _⟩ hrm.2.2 hd hpc rfl (K _ u h)
theorem zx_fillL {k n idx : Nat} {v : Int64} {f : zq_S → Option (ρ × zq_S)} (cv : zq_cS own idx yJ7_fill_d0a16 cJ7_fill_d0a16 5 none 2) (hs : zq_sh[k]? = some (.inl (3, n))) (hrm : 1 ≤ rm.frames ∧ 24 ≤ rm.locals ∧ (st.map fun v => v.category).sum ≤ 8) (hd : decode cc pc = .ok (.invokestatic idx, 3)) (hpc : pc + 3 = pc') (K : ∀ s', zq_X y own cc nL ret rm rv pc' ls st s' (f s')) : zq_X y own cc nL ret rm rv pc ls (.long v :: .ref k :: st) s (zq_let (zpfl s k n v) f) :=
  fun u h => zq_callS (As := [.ref k, .long v]) (rest := st) cv (zj_fillL hs) rfl ⟨rfl, rfl, by simpa using hrm.1, by simpa using hrm.2.1⟩ ⟨Nat.zero_le _, Nat.zero_le _⟩ hrm.2.2 hd hpc rfl (K _ u h)
theorem zx_copy {k0 k1 m0 m1 idx : Nat} {sp dp n : Int32} {f : zq_S → Option (ρ × zq_S)} (hc : Cond.methodLink own idx arraycopyName ∈ lw_tbl ∧ Cond.native arraycopyName ∈ lw_tbl ∧ Cond.static arraycopyName ∈ lw_tbl ∧ Cond.initialized "java/lang/System" ∈ lw_tbl) (h0 : zq_sh[k0]? = some (.inl (3, m0))) (h1 : zq_sh[k1]? = some (.inl (3, m1))) (hframes : 1 ≤ rm.frames) (hlocals : (st.map fun v => v.category).sum + (nativeFrameWords "java/lang/System" "arraycopy" 5 + 11) ≤ rm.locals) (hd : decode cc pc = .ok (.invokestatic idx, 3)) (hn : pc + 3 = pc') (K : ∀ s', zq_X y own cc nL ret rm rv pc' ls st s' (f s')) : zq_X y own cc nL ret rm rv pc ls (.int n :: .int dp :: .ref k1 :: .int sp :: .ref k0 :: st) s (zq_cc sp m0 dp m1 n (zq_let (zpcl s k0 sp k1 dp n) f)) := by
  intro u h
  unfold zq_cc at h
  by_cases hq : ¬ sp < 0 ∧ ¬ dp < 0 ∧ ¬ n < 0 ∧ sp.toNatClampNeg + n.toNatClampNeg ≤ m0 ∧ dp.toNatClampNeg + n.toNatClampNeg ≤ m1
  · rw [if_pos hq] at h
    refine zq_copyl hc (zq_en_get h0) (zq_en_get h1) hq.1 hq.2.1 hq.2.2.1 hq.2.2.2.1 hq.2.2.2.2 hframes hlocals hd hn ?_
    have e := zq_en_sL (s := s) (f := va_cpy (s.2.2.2 k0) (s.2.2.2 k1) sp.toNatClampNeg dp.toNatClampNeg n.toNatClampNeg) h1
    rw [e]
    exact K _ u h
  · rw [if_neg hq] at h
    cases h
theorem zx_cSNi {y' : MethodName} {host : String} {cc' : ByteArray} {nL' : Nat} {ret' : Option FieldType} {rm' : Room} {idx n : Nat} {As rest st1 : List Value} {fc : Option (Int32 × zq_S)} {K : Int32 → zq_S → Option (ρ × zq_S)} (cv : zq_cSN own idx y' host cc' nL' ret' n) (hM : ∀ v, fc = some v → zq_MC y' cc' nL' ret' rm' 0 0 As (zq_en s) (zv_i v.1, zq_en v.2)) (hn : As.length = n) (hrm : rm'.cells = 0 ∧ rm'.slots = 0 ∧ rm'.frames + 1 ≤ rm.frames ∧ 8 + (nL' + 11) + rm'.locals ≤ rm.locals) (hst : (rest.map fun v => v.category).sum ≤ 8) (hd : decode cc pc = .ok (.invokestatic idx, 3)) (hpc : pc + 3 = pc') (hs1 : st1 = As.reverse ++ rest) (KK : ∀ r s', zq_X y own cc nL ret rm rv pc' ls (.int r :: rest) s' (K r s')) : zq_X y own cc nL ret rm rv pc ls st1 s (zq_b2 fc K) := by
  intro v h
  cases hf : fc with
  | none => rw [hf] at h; cases h
  | some u =>
    rw [hf] at h
    exact zq_callSN cv (hM u hf) hn hrm ⟨Nat.zero_le _, Nat.zero_le _⟩ hst hd hpc hs1 (KK u.1 u.2 v h)
theorem zx_lookD {dflt : Int} {ps : Array (Int × Int)} {len : Nat} {x : Int32} {tgt : Nat} (hd : decode cc pc = .ok (.lookupswitch dflt ps, len)) (hp : (ps.toList.zip (ps.toList.drop 1)).all (fun (a, next) => a.1 < next.1) = true) (ho : Op.lookupswitch.offset ps.toList dflt x.toInt = dflt) (ht : (pc : Int) + dflt = (tgt : Int)) (K : zq_X y own cc nL ret rm rv tgt ls st s code) : zq_X y own cc nL ret rm rv pc ls (.int x :: st) s code := fun v h => zq_look hd hp ho ht (K v h)
theorem zq_tk {x c : Int32} {k : Int} (h : ¬ x = c) (hk : c.toInt = k) : ¬ x.toInt = k := fun z => h (Int32.toInt_inj.mp (z.trans hk.symm))
end zxMore
theorem zcs_X0_15 : zq_cSN RX0 15 yX11_isWord "CrossedSheets" cX11_isWord 1 (some .boolean) 1 := ⟨⟨List.mem_of_getElem? (i := 761) (by decide +kernel), List.mem_of_getElem? (i := 92) (by decide +kernel), List.mem_of_getElem? (i := 763) (by decide +kernel), by decide +kernel, by decide +kernel, by decide +kernel⟩, List.mem_of_getElem? (i := 762) (by decide +kernel)⟩
theorem zcs_X2_31 : zq_cSN RX2 31 yX11_isWord "CrossedSheets" cX11_isWord 1 (some .boolean) 1 := ⟨⟨List.mem_of_getElem? (i := 974) (by decide +kernel), List.mem_of_getElem? (i := 92) (by decide +kernel), List.mem_of_getElem? (i := 763) (by decide +kernel), by decide +kernel, by decide +kernel, by decide +kernel⟩, List.mem_of_getElem? (i := 762) (by decide +kernel)⟩
