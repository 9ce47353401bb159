theorem zq_loop_s {α β : Type} (b : (α → Option β) → α → Option β) (n : Nat) (v : α) : zq_loop b (n + 1) v = b (zq_loop b n) v := rfl
theorem zq_tks {x c : Int32} {k : Int} (h : ¬ x = c) (hk : c.toInt = k) : ¬ k = x.toInt := fun z => h (Int32.toInt_inj.mp (z.symm.trans hk.symm))
/-- a contract of a method whose class has natives' rows for others of its methods -/
theorem zq_ofWF {l : Launch} {y : MethodName} {ws ws' : List Cond} {rm : Room} {Pc : Array Value → State → Prop} {Qc : Array Value → State → Outcome → State → Prop} {mc ms : Nat} {free : Addr → Prop} {cc : ByteArray} {maxL : Nat} {ret : Option FieldType}
    (hy : plainFor y = true) (hw : ws = Cond.code y cc maxL ret :: ws')
    (body : ∀ p e s m args below meth c s₁, BodyLoose p l y (headSpec ws rm) cc maxL ret e s m args below meth c s₁ → c.maxLocals = maxL → Pc args s →
      W p l e (headSpec ws rm).room s m args below meth c s.heap [] 0 0 (MQ below Qc args s mc ms free) (entryFrame m args maxL)) : Met l y ws rm Pc Qc mc ms free := by
  refine MetFree.of_bodySF (code := cc) (maxLocals := maxL) (ret := ret) hy ?_ ?_
  · intro args s m h hn
    obtain ⟨meth, c, h1, h2, h3, h4, h5, h6, -, -⟩ := Cond.code_spec hn (atoms_spec (ws := ws) h _ (by rw [hw]; exact List.mem_cons_self))
    exact ⟨meth, c, h1, h2, h3, h4, h5, h6⟩
  · intro p e s m args below meth c s₁ B hml hP _
    have hh0 : s₁.heap = s.heap := by rw [B.state]; rfl
    obtain ⟨t, a1, o, b1, b2, b3⟩ := body p e s m args below meth c s₁ B hml hP s₁ hh0 (Stand.of_body B)
    exact ⟨t, o, a1, b1, b2, ⟨b3.1, b3.2⟩⟩
set_option maxHeartbeats 4000000 in
theorem zq_MC_ofF {y : MethodName} {own : String} {cc : ByteArray} {nL : Nat} {ret : Option FieldType} {rm : Room} {mc ms : Nat} {av : List Value} {ws : List zq_AC} {res : Option Value × List zq_AC} (ls : List Value) (hy : plainFor y = true) (ho : y.cls = own) (hl : zq_sl av ++ List.replicate (nL - (zq_sl av).length) .null = ls) (hle : (zq_sl av).length ≤ nL) (K : zq_R none y own cc nL ret rm mc ms ws.length res 0 ls [] ws 0 0) : zq_MC y cc nL ret rm mc ms av ws res := by
  intro l D cA em sz
  subst ho
  refine zq_ofWF (cc := cc) (maxL := nL) (ret := ret) hy rfl ?_
  intro p e s m args below meth c s₁ B hml hv
  obtain ⟨rfl, hsz, hP, hK, hD0, hN, hal⟩ := hv
  subst hsz
  have hts := atoms_spec (ws := Cond.code y cc nL ret :: lw_tbl.filter goodWord) B.pre
  have hown : s.vm.findClass y.cls = some m.cls := findClass_of_methodNamed B.named
  have hw : zq_hw ((av.map (zq_cv em)).toArray) s := by
    intro w hm hg
    rcases Bool.or_eq_true_iff.mp hg with h1 | h1
    · exact hts w (List.mem_cons_of_mem _ (List.mem_filter.mpr ⟨hm, h1⟩))
    · exact va_Nw.use (zq_nest_tab h1) (hN w hm h1)
  have hlen : (lg_sl (av.map (zq_cv em))).length ≤ nL := by rw [zq_sl_len]; exact hle
  have hl0 := lv_entry (av.map (zq_cv em)) (n := nL) hlen
  rw [lg_entry_eq]
  refine K p l e s m _ below meth c s.heap [] D cA em (va_A (zq_wl cA em ws) s.heap.size) _ ⟨⟨B.exec, B.bytes, hml, B.returns, B.notSynchronized, hown, hw, (name_of_methodNamed B.named B.method).1⟩, ⟨hK, hP, hD0.self, va_S.rf, fun q h => Or.inr h, hal, trivial⟩, hl0.1, hl0.2.1, ?_⟩
  intro i v hi hv
  subst hl
  rw [List.getElem?_toArray]
  by_cases hlt : i < (zq_sl av).length
  · rw [List.getElem?_append_left hlt] at hi
    rw [List.getElem?_append_left (by rw [zq_sl_len]; exact hlt)]
    exact zq_sl_get em av i v hi hv
  · rw [List.getElem?_append_right (by omega)] at hi
    exact absurd (List.eq_of_mem_replicate (List.mem_of_getElem? hi)) hv
theorem zq_MC_xF {ρ : Type} {y : MethodName} {own : String} {cc : ByteArray} {nL : Nat} {ret : Option FieldType} {rm : Room} {rv : ρ → Option Value} {s : zq_S} {code : Option (ρ × zq_S)} {av : List Value} (ls : List Value) (hy : plainFor y = true) (ho : y.cls = own) (hl : zq_sl av ++ List.replicate (nL - (zq_sl av).length) .null = ls) (hle : (zq_sl av).length ≤ nL) (K : zq_X y own cc nL ret rm rv 0 ls [] s code) {v : ρ × zq_S} (h : code = some v) : zq_MC y cc nL ret rm 0 0 av (zq_en s) (rv v.1, zq_en v.2) := by
  refine zq_MC_ofF ls hy ho hl hle ?_
  rw [zq_en_len]
  exact K v h
