
theorem zq_wl_push {cA : Nat → ClassId} {em : Nat → Nat} (ws : List zq_AC) (x : zq_AC) : zq_wl cA em (ws ++ [x]) = zq_wl cA em ws ++ [(em ws.length, zq_ce cA em x)] := by
  simp [zq_wl, List.mapIdx_append]
section zqCtor
variable {sc : Option (Nat × (Nat → Int32))} {y : MethodName} {own : String} {cc : ByteArray} {nL : Nat} {ret : Option FieldType} {rm : Room} {mc ms n0 : Nat} {res : Option Value × List zq_AC} {pc pc' : Nat} {ls st : List Value} {ws : List zq_AC} {cells slots : Nat}
def zq_nw (own : String) (idx ci nf : Nat) (fs : List Value) : Prop := ∃ (C : String) (T : u_T) (ty0 : Nat → FieldType), zq_cl ci C T nf ty0 ∧ Cond.classLink own idx C ∈ lw_tbl ∧ Cond.instantiable C nf ∈ lw_tbl ∧ Cond.initialized C ∈ lw_tbl ∧ ∀ j, j < nf → defaultValue (ty0 j) = vp_V fs j
theorem zq_new {ci idx nf : Nat} {fs : List Value} (hcl : zq_nw own idx ci nf fs) (hfs : ∀ em, fs.map (zq_cv em) = fs) (hmc : mc ≠ 0) (hcnt : cells + n0 = ws.length) (hlen : ws.length < 1000000) (hcells : cells + 1 ≤ rm.cells) (hslots : slots + nf ≤ rm.slots) (hd : decode cc pc = .ok (.new idx, 3)) (hn : pc + 3 = pc')
    (K : zq_R sc y own cc nL ret rm mc ms n0 res pc' ls (.ref ws.length :: st) (ws ++ [.inr (ci, fs)]) (cells + 1) (slots + nf)) : zq_R sc y own cc nL ret rm mc ms n0 res pc ls st ws cells slots := by
  subst hn
  intro p l e s m args below meth c H locs D cA em A la h
  obtain ⟨C, T, ty0, ⟨hc, hw, ht, hnm⟩, hl, hi, hini, hdf⟩ := hcl
  intro T0 hT X
  obtain ⟨base, hb, hs, hem⟩ := zq_hsz h hmc hcnt (Nat.le_of_lt hlen) hT X
  have hadr : em ws.length = H.size := by rw [hem _ hlen, hb]
  have hts := h.1.2.2.2.2.2.2.1
  have htu : ∀ w ∈ u_ws C T nf, w.before args s = true := fun w hm => hts w (hw w hm).1 (by rw [(hw w hm).2]; rfl)
  obtain ⟨hst, ⟨hK, hP, hD, hS, hA, hal, hsx⟩, hlo⟩ := h
  have hKn := hK.1 ci _ hc
  suffices hW : W p l e rm s m args below meth c H locs cells slots (zq_Z sc mc ms res below s args D cA em A) (F0 m pc la (st.map (zq_cv em))) from hW T0 hT X
  refine W.newcK hst.1 hst.2.1 hst.2.2.2.2.2.1 (hts _ hl rfl) (hts _ hi rfl) (hts _ hini rfl) rfl hd hcells hslots hKn.2.1 rfl fun H1 kC hkC e1 z1 o1 => ?_
  have hk : ∀ (k : Nat) (x : Nat × va_E), (zq_wl cA em ws)[k]? = some x → H1[x.1]? = H[x.1]? := fun k x hx => o1 x.1 ((hP k x hx).lt)
  have hP1 : va_P D vwCl (zq_wl cA em (ws ++ [.inr (ci, fs)])) H1 := by
    rw [zq_wl_push, hadr]
    refine (hP.kept hk).app (fun k x hx => ?_)
    have hz : k < 1 := (List.getElem?_eq_some_iff.mp hx).1
    rw [show k = 0 by omega] at hx
    cases hx
    refine ⟨_, hc, ?_⟩
    show t_OB H.size _ _ _ H1 (vp_V (fs.map (zq_cv em)))
    rw [hfs]
    exact (u_born ty0 htu (fun w hm => hm) hKn hkC e1 ht).to hdf
  have hD1 : va_D A (zq_wl cA em (ws ++ [.inr (ci, fs)])) := by
    rw [zq_wl_push, hadr]
    exact hD.push hP rfl (hA _ hS.1)
  have kk := K p l e s m args below meth c H1 locs D cA em A la ⟨hst, ⟨hK, hP1, hD1, ⟨Nat.le_trans hS.1 (by omega), fun x h1 h2 => (o1 x (Nat.lt_of_lt_of_le h1 hS.1)).trans (hS.2.1 x h1 h2), hS.2.2⟩, hA, hal, hsx⟩, hlo⟩
  have e9 : (Value.ref ws.length :: st).map (zq_cv em) = Value.ref H.size :: st.map (zq_cv em) := by
    show Value.ref (em ws.length) :: _ = _
    rw [hadr]
  rw [e9] at kk
  exact kk
theorem zq_newa {atype : ArrayType} {kd N : Nat} {n : Int32} {a0 : vp_A} (harr : Cond.arrayClass (newarray.typeOf atype) ∈ lw_tbl) (hkd : ∀ cA : Nat → ClassId, (zq_ty cA)[kd]? = some (cA kd, newarray.typeOf atype)) (hra : ∀ (s : State) (c : ClassId), va_RA s c (newarray.typeOf atype) → s.vm.findClass ("[" ++ (newarray.typeOf atype).toString) = some c) (ha : ∀ cA : ClassId, vp_cell cA a0 = arrV cA N (fun _ => defaultValue (newarray.typeOf atype))) (hnn : ¬ n < 0) (hN : n.toNatClampNeg = N) (hbytes : N * componentBytes (newarray.typeOf atype) ≤ 536870912) (hmc : mc ≠ 0) (hcnt : cells + n0 = ws.length) (hlen : ws.length < 1000000) (hcells : cells + 1 ≤ rm.cells) (hslots : slots + N ≤ rm.slots) (hd : decode cc pc = .ok (.newarray atype, 2)) (hn : pc + 2 = pc')
    (K : zq_R sc y own cc nL ret rm mc ms n0 res pc' ls (.ref ws.length :: st) (ws ++ [.inl (kd, a0)]) (cells + 1) (slots + N)) : zq_R sc y own cc nL ret rm mc ms n0 res pc ls (.int n :: st) ws cells slots := by
  subst hn
  intro p l e s m args below meth c H locs D cA em A la h
  intro T0 hT X
  obtain ⟨base, hb, hs, hem⟩ := zq_hsz h hmc hcnt (Nat.le_of_lt hlen) hT X
  have hadr : em ws.length = H.size := by rw [hem _ hlen, hb]
  have hts := h.1.2.2.2.2.2.2.1
  obtain ⟨hst, ⟨hK, hP, hD, hS, hA, hal, hsx⟩, hlo⟩ := h
  suffices hW : W p l e rm s m args below meth c H locs cells slots (zq_Z sc mc ms res below s args D cA em A) (F0 m pc la ((.int n :: st).map (zq_cv em))) from hW T0 hT X
  refine va_newaK hst.1 hst.2.1 (hts _ harr rfl) rfl hd rfl hnn hN hbytes hcells hslots rfl fun H1 cB e1 z1 o1 hAr hNm => ?_
  have hcB : cB = cA kd := Option.some.inj (hNm.symm.trans (hra _ _ (hK.2 kd _ (hkd cA)).2))
  have hk : ∀ (k : Nat) (x : Nat × va_E), (zq_wl cA em ws)[k]? = some x → H1[x.1]? = H[x.1]? := fun k x hx => o1 x.1 ((hP k x hx).lt)
  have hP1 : va_P D vwCl (zq_wl cA em (ws ++ [.inl (kd, a0)])) H1 := by
    rw [zq_wl_push, hadr]
    refine (hP.kept hk).app (fun k x hx => ?_)
    have hz : k < 1 := (List.getElem?_eq_some_iff.mp hx).1
    rw [show k = 0 by omega] at hx
    cases hx
    show H1[H.size]? = some (vp_cell (cA kd) a0)
    rw [ha, ← hcB]
    exact e1
  have hD1 : va_D A (zq_wl cA em (ws ++ [.inl (kd, a0)])) := by
    rw [zq_wl_push, hadr]
    exact hD.push hP rfl (hA _ hS.1)
  have kk := K p l e s m args below meth c H1 locs D cA em A la ⟨hst, ⟨hK, hP1, hD1, ⟨Nat.le_trans hS.1 (by omega), fun x h1 h2 => (o1 x (Nat.lt_of_lt_of_le h1 hS.1)).trans (hS.2.1 x h1 h2), hS.2.2⟩, hA, hal, hsx⟩, hlo⟩
  have e9 : (Value.ref ws.length :: st).map (zq_cv em) = Value.ref H.size :: st.map (zq_cv em) := by
    show Value.ref (em ws.length) :: _ = _
    rw [hadr]
  rw [e9] at kk
  exact kk
theorem zq_oinit {idx k : Nat} (hl : Cond.methodLink own idx Lib.objectInit ∈ lw_tbl ∧ Cond.instanceMethod Lib.objectInit ∈ lw_tbl ∧ Cond.code Lib.objectInit ⟨#[0xb1]⟩ 1 none ∈ lw_tbl) (hd : decode cc pc = .ok (.invokespecial idx, 3)) (hf : 1 ≤ rm.frames) (hlo : (st.map fun v => v.category).sum + 12 ≤ rm.locals) (hn : pc + 3 = pc')
    (K : zq_R sc y own cc nL ret rm mc ms n0 res pc' ls st ws cells slots) : zq_R sc y own cc nL ret rm mc ms n0 res pc ls (.ref k :: st) ws cells slots := by
  subst hn
  intro p l e s m args below meth c H locs D cA em A la h
  have hts := h.1.2.2.2.2.2.2.1
  refine W.objInit h.1.1 h.1.2.1 h.1.2.2.2.2.2.1 (hts _ hl.1 rfl) (hts _ hl.2.1 rfl) (hts _ hl.2.2 rfl) rfl (h.2.2.1.trans h.1.2.2.1.symm) (rest := st.map (zq_cv em)) rfl hd hf ?_ ?_
  · show 2 * 0 + _ + 12 ≤ _
    rw [zq_csum]
    omega
  · exact K p l e s m args below meth c H locs D cA em A la h
theorem zq_callI {y' : MethodName} {cc' : ByteArray} {nL' : Nat} {rm' : Room} {idx n k mc' ms' : Nat} {As rest : List Value} {ws' : List zq_AC}
    (cb : zq_cb own idx y' cc' nL' none n ∧ Cond.instanceMethod y' ∈ lw_tbl ∧ y'.name = "<init>") (hM : zq_MC y' cc' nL' none rm' mc' ms' (.ref k :: As) ws (none, ws')) (hn : As.length = n) (hrm : rm'.cells = mc' ∧ rm'.slots = ms' ∧ rm'.frames + 1 ≤ rm.frames ∧ 8 + (nL' + 11) + rm'.locals ≤ rm.locals) (hf : cells + mc' ≤ rm.cells ∧ slots + ms' ≤ rm.slots) (hst : (rest.map fun v => v.category).sum ≤ 8) (hcnt : mc' ≠ 0 → mc ≠ 0 ∧ cells + n0 = ws.length ∧ ws.length ≤ 1000000) (hd : decode cc pc = .ok (.invokespecial idx, 3)) (hpc : pc + 3 = pc') {st1 : List Value} (hs1 : st1 = As.reverse ++ .ref k :: rest)
    (K : zq_R sc y own cc nL ret rm mc ms n0 res pc' ls rest ws' (cells + mc') (slots + ms')) : zq_R sc y own cc nL ret rm mc ms n0 res pc ls st1 ws cells slots := by
  subst hpc
  subst hs1
  intro p l e s m args below meth c H locs D cA em A la h
  obtain ⟨cb, hin, hnm⟩ := cb
  have hts := h.1.2.2.2.2.2.2.1
  intro T0 hT X
  have hal : mc' ≠ 0 → ∃ base : Nat, H.size = base + ws.length ∧ ∀ k, k < 1000000 → em k = base + k := fun hm => by
    obtain ⟨base, h1, -, h2⟩ := zq_hsz h (hcnt hm).1 (hcnt hm).2.1 (hcnt hm).2.2 hT X
    exact ⟨base, h1, h2⟩
  refine (zq_behind (mc' := mc') (ms' := ms') (rv := none) (rest := rest) h (a := (Value.ref (em k) :: As.map (zq_cv em)).toArray) ?_ K) T0 hT X
  refine va_runI (Ts := []) (As := As.map (zq_cv em)) (rest := rest.map (zq_cv em)) (b := em k) ⟨h.1.1, h.1.2.1, h.1.2.2.1, h.1.2.2.2.2.2.1, fun _ z => absurd z List.not_mem_nil⟩ (hM l D cA em H.size) ⟨zq_callB hts cb hrm.1 hrm.2.1 hrm.2.2, hnm, hts _ hin rfl⟩ ⟨zq_blind, zq_pre (av := .ref (em k) :: As.map (zq_cv em)) h hal⟩ rfl (by simpa using hn) h.2.2.1 ?_ (lv_room (by rw [zq_csum]; exact hst)) hd ⟨hf.1, hf.2⟩
  show (As.reverse ++ Value.ref k :: rest).map (zq_cv em) = (As.map (zq_cv em)).reverse ++ Value.ref (em k) :: rest.map (zq_cv em)
  rw [List.map_append, List.map_reverse]
  rfl
theorem zq_callIN {y' : MethodName} {host : String} {cc' : ByteArray} {nL' : Nat} {rm' : Room} {idx n k mc' ms' : Nat} {As rest : List Value} {ws' : List zq_AC}
    (cb : (Cond.methodLinkNest own idx y' host ∈ lw_tbl ∧ Cond.initialized y'.cls ∈ lw_tbl ∧ Cond.code y' cc' nL' none ∈ lw_tbl ∧ (y'.cls ≠ "java/lang/invoke/MethodHandle" ∧ y'.cls ≠ "java/lang/invoke/VarHandle" ∧ (parseMethodDescriptor y'.desc).map (fun d => d.parameters.length) = some n)) ∧ Cond.instanceMethod y' ∈ lw_tbl ∧ y'.name = "<init>") (hM : zq_MC y' cc' nL' none rm' mc' ms' (.ref k :: As) ws (none, ws')) (hn : As.length = n) (hrm : rm'.cells = mc' ∧ rm'.slots = ms' ∧ rm'.frames + 1 ≤ rm.frames ∧ 8 + (nL' + 11) + rm'.locals ≤ rm.locals) (hf : cells + mc' ≤ rm.cells ∧ slots + ms' ≤ rm.slots) (hst : (rest.map fun v => v.category).sum ≤ 8) (hcnt : mc' ≠ 0 → mc ≠ 0 ∧ cells + n0 = ws.length ∧ ws.length ≤ 1000000) (hd : decode cc pc = .ok (.invokespecial idx, 3)) (hpc : pc + 3 = pc') {st1 : List Value} (hs1 : st1 = As.reverse ++ .ref k :: rest)
    (K : zq_R sc y own cc nL ret rm mc ms n0 res pc' ls rest ws' (cells + mc') (slots + ms')) : zq_R sc y own cc nL ret rm mc ms n0 res pc ls st1 ws cells slots := by
  subst hpc
  subst hs1
  intro p l e s m args below meth c H locs D cA em A la h
  obtain ⟨⟨h1, h2, h3, h4, h5, h6⟩, hin, hnm⟩ := cb
  have hts := h.1.2.2.2.2.2.2.1
  intro T0 hT X
  have hal : mc' ≠ 0 → ∃ base : Nat, H.size = base + ws.length ∧ ∀ k, k < 1000000 → em k = base + k := fun hm => by
    obtain ⟨base, h1, -, h2⟩ := zq_hsz h (hcnt hm).1 (hcnt hm).2.1 (hcnt hm).2.2 hT X
    exact ⟨base, h1, h2⟩
  refine (zq_behind (mc' := mc') (ms' := ms') (rv := none) (rest := rest) h (a := (Value.ref (em k) :: As.map (zq_cv em)).toArray) ?_ K) T0 hT X
  refine va_runIN (Ts := []) (As := As.map (zq_cv em)) (rest := rest.map (zq_cv em)) (b := em k) ⟨h.1.1, h.1.2.1, h.1.2.2.1, h.1.2.2.2.2.2.1, fun _ z => absurd z List.not_mem_nil⟩ (hM l D cA em H.size) ⟨⟨⟨hrm.1, hrm.2.1, hrm.2.2.1, hrm.2.2.2, ?_, List.mem_cons_self⟩, hts _ h3 rfl, hts _ h2 rfl, ⟨h4, h5⟩, fun sig hs => ?_, hts _ h1 rfl⟩, hnm, hts _ hin rfl⟩ ⟨zq_blind, zq_pre (av := .ref (em k) :: As.map (zq_cv em)) h hal⟩ rfl (by simpa using hn) h.2.2.1 ?_ (lv_room (by rw [zq_csum]; exact hst)) hd ⟨hf.1, hf.2⟩
  · intro w hw a' U hW
    rcases List.mem_cons.mp hw with e | hw
    · subst e
      exact word_at hW (good_of_word (w := Cond.code y' cc' nL' none) rfl) (hts _ h3 rfl)
    · obtain ⟨m1, m2⟩ := List.mem_filter.mp hw
      exact word_at hW (good_of_word m2) (hts w m1 (by rw [m2]; rfl))
  · rw [hs] at h6
    exact (Option.some.inj h6).symm
  · show (As.reverse ++ Value.ref k :: rest).map (zq_cv em) = (As.map (zq_cv em)).reverse ++ Value.ref (em k) :: rest.map (zq_cv em)
    rw [List.map_append, List.map_reverse]
    rfl
/-- the script -/
theorem zq_slen {L : Nat} {xs : Nat → Int32} (hd : decode cc pc = .ok (.arraylength, 1)) (hn : pc + 1 = pc') (K : zq_R (some (L, xs)) y own cc nL ret rm mc ms n0 res pc' ls (.int (Int32.ofNat L) :: st) ws cells slots) : zq_R (some (L, xs)) y own cc nL ret rm mc ms n0 res pc ls (.ref 1000000 :: st) ws cells slots := by
  subst hn
  intro p l e s m args below meth c H locs D cA em A la h
  obtain ⟨hX, hlt, hA⟩ := h.2.1.2.2.2.2.2.2
  exact va_slen h.1.1 h.1.2.1 hX hlt (fun z => absurd (hA _ z) (by omega)) h.2.1.2.2.2.1 hd (K p l e s m args below meth c H locs D cA em A la h)
theorem zq_sld {L : Nat} {xs : Nat → Int32} {i : Int32} (hin : vp_in i L) (hd : decode cc pc = .ok (.iaload, 1)) (hn : pc + 1 = pc') (K : zq_R (some (L, xs)) y own cc nL ret rm mc ms n0 res pc' ls (.int (xs i.toNatClampNeg) :: st) ws cells slots) : zq_R (some (L, xs)) y own cc nL ret rm mc ms n0 res pc ls (.int i :: .ref 1000000 :: st) ws cells slots := by
  subst hn
  intro p l e s m args below meth c H locs D cA em A la h
  obtain ⟨hX, hlt, hA⟩ := h.2.1.2.2.2.2.2.2
  exact va_sld h.1.1 h.1.2.1 hX hlt (fun z => absurd (hA _ z) (by omega)) h.2.1.2.2.2.1 hin hd (K p l e s m args below meth c H locs D cA em A la h)
theorem zq_lwret {p : Program} {l : Launch} {e : Env} {s : State} {m : MethodId} {args : Array Value} {below : List Frame} {meth : Method} {c : Code} (hx : p.tables.exec = Jvm.exec) (hb : c.code = code) (hr : meth.sig.returnType = some .boolean) (hlocks : meth.locks = false) {pc : Nat} {H : Heap} {ls : Array Slot} (hdg : decode code pc = .ok (.ireturn, 1)) : W p l e room_1 s m args below meth c H [] 600000 7302250 (lw_Z below args s) (F0 m pc ls [.int 1]) := by
  intro T hT X
  obtain ⟨fs, hret, hrun, hended, hW, hframe⟩ := X.leave (v := some (.int 1)) (hlocks := hlocks) (fun h => by rw [hr] at h; cases h)
  have hmeth' : T.vm.method? m = some meth := X.method'
  refine ⟨T.setFrames fs, ?_, .returned (some (.int 1)), hrun, hended, rfl, ⟨_, rfl⟩, hW, hframe⟩
  jvm_step X.here [X.here.top, hx, hb, hdg, hmeth', hr, narrow_b1]
  (try refine ⟨rfl, ?_⟩); (try refine ⟨rfl, ?_⟩)
  first | (intro acts; rw [hret _ acts rfl rfl rfl]) | rw [hret _ _ rfl rfl rfl]
  exact Steps.refl _
theorem zq_lawret {q : Nat × (Nat → Int32)} (hr : ret = some .boolean) (hcells : cells ≤ 600000) (hslots : slots ≤ 7302250) (hd : decode code pc = .ok (.ireturn, 1)) : zq_R (some q) y own code nL ret room_1 mc ms n0 res pc ls [.int 1] ws cells slots := by
  intro p l e s m args below meth c H locs D cA em A la h
  refine va_forget (fun w hw => h.2.1.2.2.2.2.2.2.2.2 _ (h.2.1.2.2.2.1.2.2 w hw)) ?_
  refine W.widen hcells hslots ?_
  exact zq_lwret h.1.1 h.1.2.1 (h.1.2.2.2.1.trans hr) h.1.2.2.2.2.1 hd
end zqCtor
