abbrev zq_AC : Type := (Nat × vp_A) ⊕ (Nat × List Value)
def zq_nest : Cond → Bool
  | .fieldLinkNest _ _ _ _ _ _ => true
  | .methodLinkNest _ _ _ _ => true
  | _ => false
/-- a reference of the abstract world is a place in it; em says at which address -/
def zq_cv (em : Nat → Nat) (v : Value) : Value := match v with
  | .ref k => .ref (em k)
  | x => x
def zq_ce (cA : Nat → ClassId) (em : Nat → Nat) (x : zq_AC) : va_E := match x with
  | .inl a => .inl (cA a.1, a.2)
  | .inr o => .inr (o.1, o.2.map (zq_cv em))
def zq_wl (cA : Nat → ClassId) (em : Nat → Nat) (ws : List zq_AC) : va_W := ws.mapIdx (fun k x => (em k, zq_ce cA em x))
def zq_ty (cA : Nat → ClassId) : List (ClassId × FieldType) := [(cA 0, .int), (cA 1, .byte), (cA 2, .boolean), (cA 3, .long)]
def zq_hw (args : Array Value) (s : State) : Prop := ∀ w ∈ lw_tbl, (goodWord w || zq_nest w) = true → w.before args s = true
def zq_lo (em : Nat → Nat) (la : Array Slot) (nL : Nat) (ls : List Value) : Prop := la.size = nL ∧ lv_wf la ∧ ∀ (i : Nat) (v : Value), ls[i]? = some v → v ≠ .null → la[i]? = some (.val (zq_cv em v))
def zq_Q (D : va_G) (cA : Nat → ClassId) (em : Nat → Nat) (A : Nat → Prop) (res : Option Value × List zq_AC) : Array Value → State → Outcome → State → Prop := fun _ st o t =>
  o = .returned (res.1.map (zq_cv em)) ∧ va_P D vwCl (zq_wl cA em res.2) t.heap ∧ va_D A (zq_wl cA em res.2) ∧ va_F A st t
/-- where cells are made: the world's addresses follow one another -/
def zq_al (em : Nat → Nat) (s : State) (n : Nat) : Prop := ∃ base : Nat, s.heap.size = base + n ∧ ∀ k, k < 1000000 → em k = base + k
/-- the script, where there is one: not in the world, never written -/
def zq_sx (sc : Option (Nat × (Nat → Int32))) (s : State) (A : Nat → Prop) (em : Nat → Nat) : Prop := match sc with
  | none => True
  | some q => va_X (em 1000000) q.1 q.2 s s.heap ∧ em 1000000 < s.heap.size ∧ ∀ k, A k → s.heap.size ≤ k
def zq_Z (sc : Option (Nat × (Nat → Int32))) (mc ms : Nat) (res : Option Value × List zq_AC) (below : List Frame) (s : State) (args : Array Value) (D : va_G) (cA : Nat → ClassId) (em : Nat → Nat) (A : Nat → Prop) : State → Prop := match sc with
  | none => MQ below (zq_Q D cA em A res) args s mc ms A
  | some _ => lw_Z below args s
def zq_C (sc : Option (Nat × (Nat → Int32))) (mc : Nat) (y : MethodName) (own : String) (cc : ByteArray) (nL : Nat) (ret : Option FieldType) (n0 : Nat) (ls : List Value) (ws : List zq_AC) (p : Program) (s : State) (m : MethodId) (args : Array Value) (meth : Method) (c : Code) (H : Heap) (locs : List Loc) (D : va_G) (cA : Nat → ClassId) (em : Nat → Nat) (A : Nat → Prop) (la : Array Slot) : Prop :=
  (p.tables.exec = Jvm.exec ∧ c.code = cc ∧ c.maxLocals = nL ∧ meth.sig.returnType = ret ∧ meth.locks = false ∧ s.vm.findClass own = some m.cls ∧ zq_hw args s ∧ meth.name = y.name) ∧
  (va_K D vwCl (zq_ty cA) s ∧ va_P D vwCl (zq_wl cA em ws) H ∧ va_D A (zq_wl cA em ws) ∧ va_S A s.heap H locs ∧ (∀ q, s.heap.size ≤ q → A q) ∧ (mc ≠ 0 → zq_al em s n0) ∧ zq_sx sc s A em) ∧ zq_lo em la nL ls
/-- from (pc, ls, st, ws) the method comes to its end with res -/
def zq_R (sc : Option (Nat × (Nat → Int32))) (y : MethodName) (own : String) (cc : ByteArray) (nL : Nat) (ret : Option FieldType) (rm : Room) (mc ms n0 : Nat) (res : Option Value × List zq_AC) (pc : Nat) (ls st : List Value) (ws : List zq_AC) (cells slots : Nat) : Prop :=
  ∀ (p : Program) (l : Launch) (e : Env) (s : State) (m : MethodId) (args : Array Value) (below : List Frame) (meth : Method) (c : Code) (H : Heap) (locs : List Loc) (D : va_G) (cA : Nat → ClassId) (em : Nat → Nat) (A : Nat → Prop) (la : Array Slot),
    zq_C sc mc y own cc nL ret n0 ls ws p s m args meth c H locs D cA em A la →
    W p l e rm s m args below meth c H locs cells slots (zq_Z sc mc ms res below s args D cA em A) (F0 m pc la (st.map (zq_cv em)))
theorem zq_cat (em : Nat → Nat) (v : Value) : (zq_cv em v).category = v.category := by cases v <;> rfl
theorem zq_wl_get {cA : Nat → ClassId} {em : Nat → Nat} {ws : List zq_AC} {k : Nat} {x : zq_AC} (h : ws[k]? = some x) : (zq_wl cA em ws)[k]? = some (em k, zq_ce cA em x) := by
  simp [zq_wl, List.getElem?_mapIdx, h]
theorem zq_wl_set {cA : Nat → ClassId} {em : Nat → Nat} (ws : List zq_AC) (k : Nat) (x : zq_AC) : (zq_wl cA em ws).set k (em k, zq_ce cA em x) = zq_wl cA em (ws.set k x) := by
  apply List.ext_getElem?
  intro i
  by_cases h : i = k
  · subst h
    by_cases hl : i < ws.length
    · rw [List.getElem?_set_self (by simpa [zq_wl] using hl)]
      exact (zq_wl_get (List.getElem?_set_self hl)).symm
    · rw [List.getElem?_eq_none (by simp [zq_wl]; omega), List.getElem?_eq_none (by simp [zq_wl]; omega)]
  · rw [List.getElem?_set_ne (Ne.symm h)]
    simp [zq_wl, List.getElem?_mapIdx, List.getElem?_set_ne (Ne.symm h)]
/-- the known locals, as pairs -/
def zq_pl (em : Nat → Nat) (ls : List Value) : List (Nat × Value) := (List.range ls.length).filterMap (fun j => match ls[j]? with
  | some Value.null => none
  | some v => some (j, zq_cv em v)
  | none => none)
theorem zq_pl_mem {em : Nat → Nat} {ls : List Value} {j : Nat} {v : Value} (h : ls[j]? = some v) (hv : v ≠ .null) : (j, zq_cv em v) ∈ zq_pl em ls := by
  have hl := (List.getElem?_eq_some_iff.mp h).1
  refine List.mem_filterMap.mpr ⟨j, List.mem_range.mpr hl, ?_⟩
  rw [h]
  cases v <;> first | rfl | exact absurd rfl hv
theorem zq_pl_of {em : Nat → Nat} {ls : List Value} {q : Nat × Value} (h : q ∈ zq_pl em ls) : ∃ v, ls[q.1]? = some v ∧ v ≠ .null ∧ q.2 = zq_cv em v := by
  obtain ⟨j, -, hj⟩ := List.mem_filterMap.mp h
  cases hx : ls[j]? with
  | none => rw [hx] at hj; cases hj
  | some v =>
    rw [hx] at hj
    cases v <;> first | (cases hj; exact ⟨_, hx, (fun z => by cases z), rfl⟩) | cases hj
theorem zq_lo.has {em : Nat → Nat} {la : Array Slot} {nL : Nat} {ls : List Value} (h : zq_lo em la nL ls) : lv_has la nL (zq_pl em ls) := by
  refine ⟨h.1, h.2.1, fun q hq => ?_⟩
  obtain ⟨v, h1, h2, h3⟩ := zq_pl_of hq
  rw [h3]
  exact h.2.2 _ v h1 h2
def zq_ok (ls : List Value) : Nat → Bool
  | 0 => true
  | j + 1 => match ls[j]? with
    | some u => u.category != 2
    | none => true
theorem zq_ok_ne {ls : List Value} {i j : Nat} {u : Value} (h : zq_ok ls i = true) (hj : ls[j]? = some u) (e : j + 1 = i) : u.category ≠ 2 := by
  subst e
  simp only [zq_ok, hj, bne_iff_ne] at h
  exact h
theorem zq_lo.st1 {em : Nat → Nat} {la : Array Slot} {nL i : Nat} {ls : List Value} {v : Value} (hok : zq_ok ls i = true) (h : lv_has la nL ((i, zq_cv em v) :: (zq_pl em ls).filter (fun q => !(q.1 == i) && !(q.1 + 1 == i && q.2.category == 2)))) : zq_lo em la nL (ls.set i v) := by
  refine ⟨h.1, h.2.1, fun j u hj hu => ?_⟩
  by_cases e : j = i
  · subst e
    have hl : j < ls.length := by
      have := (List.getElem?_eq_some_iff.mp hj).1
      simpa using this
    rw [List.getElem?_set_self hl] at hj
    cases hj
    exact h.2.2 _ List.mem_cons_self
  · rw [List.getElem?_set_ne (Ne.symm e)] at hj
    refine h.2.2 (j, zq_cv em u) (List.mem_cons_of_mem _ (List.mem_filter.mpr ⟨zq_pl_mem hj hu, ?_⟩))
    have hc : j + 1 = i → ¬ u.category = 2 := fun e2 => zq_ok_ne hok hj e2
    simp only [Bool.and_eq_true, Bool.not_eq_true', beq_eq_false_iff_ne, ne_eq, Bool.and_eq_false_iff, zq_cat]
    refine ⟨e, ?_⟩
    by_cases e2 : j + 1 = i
    · exact Or.inr (hc e2)
    · exact Or.inl e2
theorem zq_lo.st2 {em : Nat → Nat} {la : Array Slot} {nL i : Nat} {ls : List Value} {v : Value} (hok : zq_ok ls i = true) (h : lv_has la nL ((i, zq_cv em v) :: (zq_pl em ls).filter (fun q => !(q.1 == i) && (!(q.1 == i + 1) && !(q.1 + 1 == i && q.2.category == 2))))) : zq_lo em la nL ((ls.set i v).set (i + 1) .null) := by
  refine ⟨h.1, h.2.1, fun j u hj hu => ?_⟩
  by_cases e1 : j = i + 1
  · subst e1
    by_cases hl : i + 1 < ls.length
    · rw [List.getElem?_set_self (by simpa using hl)] at hj
      cases hj
      exact absurd rfl hu
    · rw [List.getElem?_eq_none (by simp; omega)] at hj
      cases hj
  rw [List.getElem?_set_ne (Ne.symm e1)] at hj
  by_cases e : j = i
  · subst e
    have hl : j < ls.length := by
      have := (List.getElem?_eq_some_iff.mp hj).1
      simpa using this
    rw [List.getElem?_set_self hl] at hj
    cases hj
    exact h.2.2 _ List.mem_cons_self
  · rw [List.getElem?_set_ne (Ne.symm e)] at hj
    refine h.2.2 (j, zq_cv em u) (List.mem_cons_of_mem _ (List.mem_filter.mpr ⟨zq_pl_mem hj hu, ?_⟩))
    have hc : j + 1 = i → ¬ u.category = 2 := fun e2 => zq_ok_ne hok hj e2
    simp only [Bool.and_eq_true, Bool.not_eq_true', beq_eq_false_iff_ne, ne_eq, Bool.and_eq_false_iff, zq_cat]
    refine ⟨e, e1, ?_⟩
    by_cases e2 : j + 1 = i
    · exact Or.inr (hc e2)
    · exact Or.inl e2
section zqRules
variable {sc : Option (Nat × (Nat → Int32))} {y : MethodName} {own : String} {cc : ByteArray} {nL : Nat} {ret : Option FieldType} {rm : Room} {mc ms n0 : Nat} {res : Option Value × List zq_AC} {pc pc' : Nat} {ls st : List Value} {ws : List zq_AC} {cells slots : Nat}

theorem zq_iconst {n : Int} {v : Int32} (hd : decode cc pc = .ok (.iconst n, 1)) (hv : Int32.ofInt n = v) (hn : pc + 1 = pc') (K : zq_R sc y own cc nL ret rm mc ms n0 res pc' ls (.int v :: st) ws cells slots) : zq_R sc y own cc nL ret rm mc ms n0 res pc ls st ws cells slots := by
  subst hn
  intro p l e s m args below meth c H locs D cA em A la h
  exact lv_iconst h.1.1 h.1.2.1 hd hv (K p l e s m args below meth c H locs D cA em A la h)
theorem zq_bipush {n : Int} {v : Int32} (hd : decode cc pc = .ok (.bipush n, 2)) (hv : (Int8.ofInt n).toInt32 = v) (hn : pc + 2 = pc') (K : zq_R sc y own cc nL ret rm mc ms n0 res pc' ls (.int v :: st) ws cells slots) : zq_R sc y own cc nL ret rm mc ms n0 res pc ls st ws cells slots := by
  subst hn
  intro p l e s m args below meth c H locs D cA em A la h
  exact lv_bipush h.1.1 h.1.2.1 hd hv (K p l e s m args below meth c H locs D cA em A la h)
theorem zq_sipush {n : Int} {v : Int32} (hd : decode cc pc = .ok (.sipush n, 3)) (hv : (Int16.ofInt n).toInt32 = v) (hn : pc + 3 = pc') (K : zq_R sc y own cc nL ret rm mc ms n0 res pc' ls (.int v :: st) ws cells slots) : zq_R sc y own cc nL ret rm mc ms n0 res pc ls st ws cells slots := by
  subst hn
  intro p l e s m args below meth c H locs D cA em A la h
  exact lv_sipush h.1.1 h.1.2.1 hd hv (K p l e s m args below meth c H locs D cA em A la h)
theorem zq_lconst {n : Fin 2} {v : Int64} (hd : decode cc pc = .ok (.lconst n, 1)) (hv : Int64.ofNat (n : Nat) = v) (hn : pc + 1 = pc') (K : zq_R sc y own cc nL ret rm mc ms n0 res pc' ls (.long v :: st) ws cells slots) : zq_R sc y own cc nL ret rm mc ms n0 res pc ls st ws cells slots := by
  subst hn
  intro p l e s m args below meth c H locs D cA em A la h
  exact lv_lconst h.1.1 h.1.2.1 hd hv (K p l e s m args below meth c H locs D cA em A la h)
theorem zq_ldc {index : Nat} {v : Int32} (hm : Cond.constant own index v ∈ lw_tbl) (hd : decode cc pc = .ok (.ldc index, 2)) (hn : pc + 2 = pc') (K : zq_R sc y own cc nL ret rm mc ms n0 res pc' ls (.int v :: st) ws cells slots) : zq_R sc y own cc nL ret rm mc ms n0 res pc ls st ws cells slots := by
  subst hn
  intro p l e s m args below meth c H locs D cA em A la h
  exact lv_ldc h.1.1 h.1.2.1 h.1.2.2.2.2.2.1 (h.1.2.2.2.2.2.2.1 _ hm rfl) hd (K p l e s m args below meth c H locs D cA em A la h)
theorem zq_ldcw {index : Nat} {v : Int32} (hm : Cond.constant own index v ∈ lw_tbl) (hd : decode cc pc = .ok (.ldc_w index, 3)) (hn : pc + 3 = pc') (K : zq_R sc y own cc nL ret rm mc ms n0 res pc' ls (.int v :: st) ws cells slots) : zq_R sc y own cc nL ret rm mc ms n0 res pc ls st ws cells slots := by
  subst hn
  intro p l e s m args below meth c H locs D cA em A la h
  exact lv_ldcw h.1.1 h.1.2.1 h.1.2.2.2.2.2.1 (h.1.2.2.2.2.2.2.1 _ hm rfl) hd (K p l e s m args below meth c H locs D cA em A la h)
theorem zq_ldc2 {index : Nat} {v : Int64} (hm : Cond.constantLong own index v ∈ lw_tbl) (hd : decode cc pc = .ok (.ldc2_w index, 3)) (hn : pc + 3 = pc') (K : zq_R sc y own cc nL ret rm mc ms n0 res pc' ls (.long v :: st) ws cells slots) : zq_R sc y own cc nL ret rm mc ms n0 res pc ls st ws cells slots := by
  subst hn
  intro p l e s m args below meth c H locs D cA em A la h
  exact lv_ldc2 h.1.1 h.1.2.1 h.1.2.2.2.2.2.1 (h.1.2.2.2.2.2.2.1 _ hm rfl) hd (K p l e s m args below meth c H locs D cA em A la h)
theorem zq_iload_n {k : Fin 4} {i : Nat} {x : Int32} (hi : (k : Nat) = i) (hl : ls[i]? = some (.int x)) (hd : decode cc pc = .ok (.iload_n k, 1)) (hn : pc + 1 = pc') (K : zq_R sc y own cc nL ret rm mc ms n0 res pc' ls (.int x :: st) ws cells slots) : zq_R sc y own cc nL ret rm mc ms n0 res pc ls st ws cells slots := by
  subst hn
  intro p l e s m args below meth c H locs D cA em A la h
  exact lv_iload_n h.1.1 h.1.2.1 hd hi (h.2.2.2.2 i _ hl (fun z => by cases z)) (K p l e s m args below meth c H locs D cA em A la h)
theorem zq_iload {i : Nat} {x : Int32} (hl : ls[i]? = some (.int x)) (hd : decode cc pc = .ok (.iload i, 2)) (hn : pc + 2 = pc') (K : zq_R sc y own cc nL ret rm mc ms n0 res pc' ls (.int x :: st) ws cells slots) : zq_R sc y own cc nL ret rm mc ms n0 res pc ls st ws cells slots := by
  subst hn
  intro p l e s m args below meth c H locs D cA em A la h
  exact lv_iload h.1.1 h.1.2.1 hd (h.2.2.2.2 i _ hl (fun z => by cases z)) (K p l e s m args below meth c H locs D cA em A la h)
theorem zq_lload_n {k : Fin 4} {i : Nat} {x : Int64} (hi : (k : Nat) = i) (hl : ls[i]? = some (.long x)) (hd : decode cc pc = .ok (.lload_n k, 1)) (hn : pc + 1 = pc') (K : zq_R sc y own cc nL ret rm mc ms n0 res pc' ls (.long x :: st) ws cells slots) : zq_R sc y own cc nL ret rm mc ms n0 res pc ls st ws cells slots := by
  subst hn
  intro p l e s m args below meth c H locs D cA em A la h
  exact lv_lload_n h.1.1 h.1.2.1 hd hi (h.2.2.2.2 i _ hl (fun z => by cases z)) (K p l e s m args below meth c H locs D cA em A la h)
theorem zq_lload {i : Nat} {x : Int64} (hl : ls[i]? = some (.long x)) (hd : decode cc pc = .ok (.lload i, 2)) (hn : pc + 2 = pc') (K : zq_R sc y own cc nL ret rm mc ms n0 res pc' ls (.long x :: st) ws cells slots) : zq_R sc y own cc nL ret rm mc ms n0 res pc ls st ws cells slots := by
  subst hn
  intro p l e s m args below meth c H locs D cA em A la h
  exact lv_lload h.1.1 h.1.2.1 hd (h.2.2.2.2 i _ hl (fun z => by cases z)) (K p l e s m args below meth c H locs D cA em A la h)
theorem zq_aload_n {k : Fin 4} {i : Nat} {x : Nat} (hi : (k : Nat) = i) (hl : ls[i]? = some (.ref x)) (hd : decode cc pc = .ok (.aload_n k, 1)) (hn : pc + 1 = pc') (K : zq_R sc y own cc nL ret rm mc ms n0 res pc' ls (.ref x :: st) ws cells slots) : zq_R sc y own cc nL ret rm mc ms n0 res pc ls st ws cells slots := by
  subst hn
  intro p l e s m args below meth c H locs D cA em A la h
  exact lv_aload_n h.1.1 h.1.2.1 hd hi (h.2.2.2.2 i _ hl (fun z => by cases z)) (K p l e s m args below meth c H locs D cA em A la h)
theorem zq_aload {i : Nat} {x : Nat} (hl : ls[i]? = some (.ref x)) (hd : decode cc pc = .ok (.aload i, 2)) (hn : pc + 2 = pc') (K : zq_R sc y own cc nL ret rm mc ms n0 res pc' ls (.ref x :: st) ws cells slots) : zq_R sc y own cc nL ret rm mc ms n0 res pc ls st ws cells slots := by
  subst hn
  intro p l e s m args below meth c H locs D cA em A la h
  exact lv_aload h.1.1 h.1.2.1 hd (h.2.2.2.2 i _ hl (fun z => by cases z)) (K p l e s m args below meth c H locs D cA em A la h)
theorem zq_istore_n {k : Fin 4} {i : Nat} {x : Int32} {ls' : List Value} (hi : (k : Nat) = i) (hb : i < nL) (hok : zq_ok ls i = true) (hl : ls.set i (.int x) = ls') (hd : decode cc pc = .ok (.istore_n k, 1)) (hn : pc + 1 = pc') (K : zq_R sc y own cc nL ret rm mc ms n0 res pc' ls' st ws cells slots) : zq_R sc y own cc nL ret rm mc ms n0 res pc ls (.int x :: st) ws cells slots := by
  subst hn
  subst hl
  intro p l e s m args below meth c H locs D cA em A la h
  refine lv_istore_n h.1.1 h.1.2.1 hd hi h.2.2.has hb rfl (fun la2 h2 => ?_)
  exact K p l e s m args below meth c H locs D cA em A la2 ⟨h.1, h.2.1, zq_lo.st1 (v := .int x) hok h2⟩
theorem zq_istore {i : Nat} {x : Int32} {ls' : List Value} (hb : i < nL) (hok : zq_ok ls i = true) (hl : ls.set i (.int x) = ls') (hd : decode cc pc = .ok (.istore i, 2)) (hn : pc + 2 = pc') (K : zq_R sc y own cc nL ret rm mc ms n0 res pc' ls' st ws cells slots) : zq_R sc y own cc nL ret rm mc ms n0 res pc ls (.int x :: st) ws cells slots := by
  subst hn
  subst hl
  intro p l e s m args below meth c H locs D cA em A la h
  refine lv_istore h.1.1 h.1.2.1 hd  h.2.2.has hb rfl (fun la2 h2 => ?_)
  exact K p l e s m args below meth c H locs D cA em A la2 ⟨h.1, h.2.1, zq_lo.st1 (v := .int x) hok h2⟩
theorem zq_lstore_n {k : Fin 4} {i : Nat} {x : Int64} {ls' : List Value} (hi : (k : Nat) = i) (hb : i + 1 < nL) (hok : zq_ok ls i = true) (hl : (ls.set i (.long x)).set (i + 1) .null = ls') (hd : decode cc pc = .ok (.lstore_n k, 1)) (hn : pc + 1 = pc') (K : zq_R sc y own cc nL ret rm mc ms n0 res pc' ls' st ws cells slots) : zq_R sc y own cc nL ret rm mc ms n0 res pc ls (.long x :: st) ws cells slots := by
  subst hn
  subst hl
  intro p l e s m args below meth c H locs D cA em A la h
  refine lv_lstore_n h.1.1 h.1.2.1 hd hi h.2.2.has hb rfl (fun la2 h2 => ?_)
  exact K p l e s m args below meth c H locs D cA em A la2 ⟨h.1, h.2.1, zq_lo.st2 (v := .long x) hok h2⟩
theorem zq_lstore {i : Nat} {x : Int64} {ls' : List Value} (hb : i + 1 < nL) (hok : zq_ok ls i = true) (hl : (ls.set i (.long x)).set (i + 1) .null = ls') (hd : decode cc pc = .ok (.lstore i, 2)) (hn : pc + 2 = pc') (K : zq_R sc y own cc nL ret rm mc ms n0 res pc' ls' st ws cells slots) : zq_R sc y own cc nL ret rm mc ms n0 res pc ls (.long x :: st) ws cells slots := by
  subst hn
  subst hl
  intro p l e s m args below meth c H locs D cA em A la h
  refine lv_lstore h.1.1 h.1.2.1 hd  h.2.2.has hb rfl (fun la2 h2 => ?_)
  exact K p l e s m args below meth c H locs D cA em A la2 ⟨h.1, h.2.1, zq_lo.st2 (v := .long x) hok h2⟩
theorem zq_astore_n {k : Fin 4} {i : Nat} {x : Nat} {ls' : List Value} (hi : (k : Nat) = i) (hb : i < nL) (hok : zq_ok ls i = true) (hl : ls.set i (.ref x) = ls') (hd : decode cc pc = .ok (.astore_n k, 1)) (hn : pc + 1 = pc') (K : zq_R sc y own cc nL ret rm mc ms n0 res pc' ls' st ws cells slots) : zq_R sc y own cc nL ret rm mc ms n0 res pc ls (.ref x :: st) ws cells slots := by
  subst hn
  subst hl
  intro p l e s m args below meth c H locs D cA em A la h
  refine lv_astore_n h.1.1 h.1.2.1 hd hi h.2.2.has hb rfl (fun la2 h2 => ?_)
  exact K p l e s m args below meth c H locs D cA em A la2 ⟨h.1, h.2.1, zq_lo.st1 (v := .ref x) hok (by cases (show zq_cv em (.ref x) = .ref (em x) from rfl); exact h2)⟩
theorem zq_astore {i : Nat} {x : Nat} {ls' : List Value} (hb : i < nL) (hok : zq_ok ls i = true) (hl : ls.set i (.ref x) = ls') (hd : decode cc pc = .ok (.astore i, 2)) (hn : pc + 2 = pc') (K : zq_R sc y own cc nL ret rm mc ms n0 res pc' ls' st ws cells slots) : zq_R sc y own cc nL ret rm mc ms n0 res pc ls (.ref x :: st) ws cells slots := by
  subst hn
  subst hl
  intro p l e s m args below meth c H locs D cA em A la h
  refine lv_astore h.1.1 h.1.2.1 hd  h.2.2.has hb rfl (fun la2 h2 => ?_)
  exact K p l e s m args below meth c H locs D cA em A la2 ⟨h.1, h.2.1, zq_lo.st1 (v := .ref x) hok (by cases (show zq_cv em (.ref x) = .ref (em x) from rfl); exact h2)⟩
theorem zq_iinc {i : Nat} {n : Int} {x v : Int32} {ls' : List Value} (hx : ls[i]? = some (.int x)) (hv : x + Int32.ofInt n = v) (hb : i < nL) (hok : zq_ok ls i = true) (hl : ls.set i (.int v) = ls') (hd : decode cc pc = .ok (.iinc i n, 3)) (hn : pc + 3 = pc') (K : zq_R sc y own cc nL ret rm mc ms n0 res pc' ls' st ws cells slots) : zq_R sc y own cc nL ret rm mc ms n0 res pc ls st ws cells slots := by
  subst hn
  subst hl
  intro p l e s m args below meth c H locs D cA em A la h
  obtain ⟨k, hk⟩ := List.getElem?_of_mem (zq_pl_mem (em := em) hx (fun z => by cases z))
  refine lv_iinc h.1.1 h.1.2.1 hd h.2.2.has hk hv hb rfl (fun la2 h2 => ?_)
  exact K p l e s m args below meth c H locs D cA em A la2 ⟨h.1, h.2.1, zq_lo.st1 (v := .int v) hok h2⟩
theorem zq_less (ls' : List Value) (hl : ∀ (i : Nat) (v : Value), ls'[i]? = some v → v ≠ .null → ls[i]? = some v) (K : zq_R sc y own cc nL ret rm mc ms n0 res pc ls' st ws cells slots) : zq_R sc y own cc nL ret rm mc ms n0 res pc ls st ws cells slots := by
  intro p l e s m args below meth c H locs D cA em A la h
  exact K p l e s m args below meth c H locs D cA em A la ⟨h.1, h.2.1, h.2.2.1, h.2.2.2.1, fun i v h1 h2 => h.2.2.2.2 i v (hl i v h1 h2) h2⟩
theorem zq_iadd {x z : Int32} (hd : decode cc pc = .ok (.iadd, 1)) (hn : pc + 1 = pc') (K : zq_R sc y own cc nL ret rm mc ms n0 res pc' ls (.int (x + z) :: st) ws cells slots) : zq_R sc y own cc nL ret rm mc ms n0 res pc ls (.int z :: .int x :: st) ws cells slots := by
  subst hn
  intro p l e s m args below meth c H locs D cA em A la h
  exact lv_iadd h.1.1 h.1.2.1 hd (K p l e s m args below meth c H locs D cA em A la h)
theorem zq_isub {x z : Int32} (hd : decode cc pc = .ok (.isub, 1)) (hn : pc + 1 = pc') (K : zq_R sc y own cc nL ret rm mc ms n0 res pc' ls (.int (x - z) :: st) ws cells slots) : zq_R sc y own cc nL ret rm mc ms n0 res pc ls (.int z :: .int x :: st) ws cells slots := by
  subst hn
  intro p l e s m args below meth c H locs D cA em A la h
  exact lv_isub h.1.1 h.1.2.1 hd (K p l e s m args below meth c H locs D cA em A la h)
theorem zq_imul {x z : Int32} (hd : decode cc pc = .ok (.imul, 1)) (hn : pc + 1 = pc') (K : zq_R sc y own cc nL ret rm mc ms n0 res pc' ls (.int (x * z) :: st) ws cells slots) : zq_R sc y own cc nL ret rm mc ms n0 res pc ls (.int z :: .int x :: st) ws cells slots := by
  subst hn
  intro p l e s m args below meth c H locs D cA em A la h
  exact lv_imul h.1.1 h.1.2.1 hd (K p l e s m args below meth c H locs D cA em A la h)
theorem zq_iand {x z : Int32} (hd : decode cc pc = .ok (.iand, 1)) (hn : pc + 1 = pc') (K : zq_R sc y own cc nL ret rm mc ms n0 res pc' ls (.int (x &&& z) :: st) ws cells slots) : zq_R sc y own cc nL ret rm mc ms n0 res pc ls (.int z :: .int x :: st) ws cells slots := by
  subst hn
  intro p l e s m args below meth c H locs D cA em A la h
  exact lv_iand h.1.1 h.1.2.1 hd (K p l e s m args below meth c H locs D cA em A la h)
theorem zq_ior {x z : Int32} (hd : decode cc pc = .ok (.ior, 1)) (hn : pc + 1 = pc') (K : zq_R sc y own cc nL ret rm mc ms n0 res pc' ls (.int (x ||| z) :: st) ws cells slots) : zq_R sc y own cc nL ret rm mc ms n0 res pc ls (.int z :: .int x :: st) ws cells slots := by
  subst hn
  intro p l e s m args below meth c H locs D cA em A la h
  exact lv_ior h.1.1 h.1.2.1 hd (K p l e s m args below meth c H locs D cA em A la h)
theorem zq_ixor {x z : Int32} (hd : decode cc pc = .ok (.ixor, 1)) (hn : pc + 1 = pc') (K : zq_R sc y own cc nL ret rm mc ms n0 res pc' ls (.int (x ^^^ z) :: st) ws cells slots) : zq_R sc y own cc nL ret rm mc ms n0 res pc ls (.int z :: .int x :: st) ws cells slots := by
  subst hn
  intro p l e s m args below meth c H locs D cA em A la h
  exact lv_ixor h.1.1 h.1.2.1 hd (K p l e s m args below meth c H locs D cA em A la h)
theorem zq_ishl {x z : Int32} (hd : decode cc pc = .ok (.ishl, 1)) (hn : pc + 1 = pc') (K : zq_R sc y own cc nL ret rm mc ms n0 res pc' ls (.int (x <<< (z &&& 31)) :: st) ws cells slots) : zq_R sc y own cc nL ret rm mc ms n0 res pc ls (.int z :: .int x :: st) ws cells slots := by
  subst hn
  intro p l e s m args below meth c H locs D cA em A la h
  exact lv_ishl h.1.1 h.1.2.1 hd (K p l e s m args below meth c H locs D cA em A la h)
theorem zq_ishr {x z : Int32} (hd : decode cc pc = .ok (.ishr, 1)) (hn : pc + 1 = pc') (K : zq_R sc y own cc nL ret rm mc ms n0 res pc' ls (.int (x >>> (z &&& 31)) :: st) ws cells slots) : zq_R sc y own cc nL ret rm mc ms n0 res pc ls (.int z :: .int x :: st) ws cells slots := by
  subst hn
  intro p l e s m args below meth c H locs D cA em A la h
  exact lv_ishr h.1.1 h.1.2.1 hd (K p l e s m args below meth c H locs D cA em A la h)
theorem zq_ladd {x z : Int64} (hd : decode cc pc = .ok (.ladd, 1)) (hn : pc + 1 = pc') (K : zq_R sc y own cc nL ret rm mc ms n0 res pc' ls (.long (x + z) :: st) ws cells slots) : zq_R sc y own cc nL ret rm mc ms n0 res pc ls (.long z :: .long x :: st) ws cells slots := by
  subst hn
  intro p l e s m args below meth c H locs D cA em A la h
  exact lv_ladd h.1.1 h.1.2.1 hd (K p l e s m args below meth c H locs D cA em A la h)
theorem zq_lsub {x z : Int64} (hd : decode cc pc = .ok (.lsub, 1)) (hn : pc + 1 = pc') (K : zq_R sc y own cc nL ret rm mc ms n0 res pc' ls (.long (x - z) :: st) ws cells slots) : zq_R sc y own cc nL ret rm mc ms n0 res pc ls (.long z :: .long x :: st) ws cells slots := by
  subst hn
  intro p l e s m args below meth c H locs D cA em A la h
  exact lv_lsub h.1.1 h.1.2.1 hd (K p l e s m args below meth c H locs D cA em A la h)
theorem zq_lmul {x z : Int64} (hd : decode cc pc = .ok (.lmul, 1)) (hn : pc + 1 = pc') (K : zq_R sc y own cc nL ret rm mc ms n0 res pc' ls (.long (x * z) :: st) ws cells slots) : zq_R sc y own cc nL ret rm mc ms n0 res pc ls (.long z :: .long x :: st) ws cells slots := by
  subst hn
  intro p l e s m args below meth c H locs D cA em A la h
  exact lv_lmul h.1.1 h.1.2.1 hd (K p l e s m args below meth c H locs D cA em A la h)
theorem zq_land {x z : Int64} (hd : decode cc pc = .ok (.land, 1)) (hn : pc + 1 = pc') (K : zq_R sc y own cc nL ret rm mc ms n0 res pc' ls (.long (x &&& z) :: st) ws cells slots) : zq_R sc y own cc nL ret rm mc ms n0 res pc ls (.long z :: .long x :: st) ws cells slots := by
  subst hn
  intro p l e s m args below meth c H locs D cA em A la h
  exact lv_land h.1.1 h.1.2.1 hd (K p l e s m args below meth c H locs D cA em A la h)
theorem zq_lor {x z : Int64} (hd : decode cc pc = .ok (.lor, 1)) (hn : pc + 1 = pc') (K : zq_R sc y own cc nL ret rm mc ms n0 res pc' ls (.long (x ||| z) :: st) ws cells slots) : zq_R sc y own cc nL ret rm mc ms n0 res pc ls (.long z :: .long x :: st) ws cells slots := by
  subst hn
  intro p l e s m args below meth c H locs D cA em A la h
  exact lv_lor h.1.1 h.1.2.1 hd (K p l e s m args below meth c H locs D cA em A la h)
theorem zq_lxor {x z : Int64} (hd : decode cc pc = .ok (.lxor, 1)) (hn : pc + 1 = pc') (K : zq_R sc y own cc nL ret rm mc ms n0 res pc' ls (.long (x ^^^ z) :: st) ws cells slots) : zq_R sc y own cc nL ret rm mc ms n0 res pc ls (.long z :: .long x :: st) ws cells slots := by
  subst hn
  intro p l e s m args below meth c H locs D cA em A la h
  exact lv_lxor h.1.1 h.1.2.1 hd (K p l e s m args below meth c H locs D cA em A la h)
theorem zq_idiv {x z : Int32} (hne : ¬ z = 0) (hd : decode cc pc = .ok (.idiv, 1)) (hn : pc + 1 = pc') (K : zq_R sc y own cc nL ret rm mc ms n0 res pc' ls (.int (x / z) :: st) ws cells slots) : zq_R sc y own cc nL ret rm mc ms n0 res pc ls (.int z :: .int x :: st) ws cells slots := by
  subst hn
  intro p l e s m args below meth c H locs D cA em A la h
  exact lv_idiv h.1.1 h.1.2.1 hd hne (K p l e s m args below meth c H locs D cA em A la h)
theorem zq_irem {x z : Int32} (hne : ¬ z = 0) (hd : decode cc pc = .ok (.irem, 1)) (hn : pc + 1 = pc') (K : zq_R sc y own cc nL ret rm mc ms n0 res pc' ls (.int (x - x / z * z) :: st) ws cells slots) : zq_R sc y own cc nL ret rm mc ms n0 res pc ls (.int z :: .int x :: st) ws cells slots := by
  subst hn
  intro p l e s m args below meth c H locs D cA em A la h
  exact lv_irem h.1.1 h.1.2.1 hd hne (K p l e s m args below meth c H locs D cA em A la h)
theorem zq_ldiv {x z : Int64} (hne : ¬ z = 0) (hd : decode cc pc = .ok (.ldiv, 1)) (hn : pc + 1 = pc') (K : zq_R sc y own cc nL ret rm mc ms n0 res pc' ls (.long (x / z) :: st) ws cells slots) : zq_R sc y own cc nL ret rm mc ms n0 res pc ls (.long z :: .long x :: st) ws cells slots := by
  subst hn
  intro p l e s m args below meth c H locs D cA em A la h
  exact lv_ldiv h.1.1 h.1.2.1 hd hne (K p l e s m args below meth c H locs D cA em A la h)
theorem zq_lrem {x z : Int64} (hne : ¬ z = 0) (hd : decode cc pc = .ok (.lrem, 1)) (hn : pc + 1 = pc') (K : zq_R sc y own cc nL ret rm mc ms n0 res pc' ls (.long (x - x / z * z) :: st) ws cells slots) : zq_R sc y own cc nL ret rm mc ms n0 res pc ls (.long z :: .long x :: st) ws cells slots := by
  subst hn
  intro p l e s m args below meth c H locs D cA em A la h
  exact lv_lrem h.1.1 h.1.2.1 hd hne (K p l e s m args below meth c H locs D cA em A la h)
theorem zq_iushr {x z : Int32} (hd : decode cc pc = .ok (.iushr, 1)) (hn : pc + 1 = pc') (K : zq_R sc y own cc nL ret rm mc ms n0 res pc' ls (.int ((x.toUInt32 >>> (z.toUInt32 &&& Int32.toUInt32 31)).toInt32) :: st) ws cells slots) : zq_R sc y own cc nL ret rm mc ms n0 res pc ls (.int z :: .int x :: st) ws cells slots := by
  subst hn
  intro p l e s m args below meth c H locs D cA em A la h
  exact lv_iushr h.1.1 h.1.2.1 hd rfl (K p l e s m args below meth c H locs D cA em A la h)
theorem zq_lushr {x : Int64} {z : Int32} (hd : decode cc pc = .ok (.lushr, 1)) (hn : pc + 1 = pc') (K : zq_R sc y own cc nL ret rm mc ms n0 res pc' ls (.long ((x.toUInt64 >>> (z.toInt64.toUInt64 &&& Int64.toUInt64 63)).toInt64) :: st) ws cells slots) : zq_R sc y own cc nL ret rm mc ms n0 res pc ls (.int z :: .long x :: st) ws cells slots := by
  subst hn
  intro p l e s m args below meth c H locs D cA em A la h
  exact lv_lushr h.1.1 h.1.2.1 hd rfl (K p l e s m args below meth c H locs D cA em A la h)
theorem zq_lshl {x : Int64} {z : Int32} (hd : decode cc pc = .ok (.lshl, 1)) (hn : pc + 1 = pc') (K : zq_R sc y own cc nL ret rm mc ms n0 res pc' ls (.long (x <<< (z.toInt64 &&& 63)) :: st) ws cells slots) : zq_R sc y own cc nL ret rm mc ms n0 res pc ls (.int z :: .long x :: st) ws cells slots := by
  subst hn
  intro p l e s m args below meth c H locs D cA em A la h
  exact lv_lshl h.1.1 h.1.2.1 hd rfl (K p l e s m args below meth c H locs D cA em A la h)
theorem zq_lshr {x : Int64} {z : Int32} (hd : decode cc pc = .ok (.lshr, 1)) (hn : pc + 1 = pc') (K : zq_R sc y own cc nL ret rm mc ms n0 res pc' ls (.long (x >>> (z.toInt64 &&& 63)) :: st) ws cells slots) : zq_R sc y own cc nL ret rm mc ms n0 res pc ls (.int z :: .long x :: st) ws cells slots := by
  subst hn
  intro p l e s m args below meth c H locs D cA em A la h
  exact lv_lshr h.1.1 h.1.2.1 hd rfl (K p l e s m args below meth c H locs D cA em A la h)
theorem zq_i2l {x : Int32} (hd : decode cc pc = .ok (.i2l, 1)) (hn : pc + 1 = pc') (K : zq_R sc y own cc nL ret rm mc ms n0 res pc' ls (.long x.toInt64 :: st) ws cells slots) : zq_R sc y own cc nL ret rm mc ms n0 res pc ls (.int x :: st) ws cells slots := by
  subst hn
  intro p l e s m args below meth c H locs D cA em A la h
  exact lv_i2l h.1.1 h.1.2.1 hd rfl (K p l e s m args below meth c H locs D cA em A la h)
theorem zq_l2i {x : Int64} (hd : decode cc pc = .ok (.l2i, 1)) (hn : pc + 1 = pc') (K : zq_R sc y own cc nL ret rm mc ms n0 res pc' ls (.int x.toInt32 :: st) ws cells slots) : zq_R sc y own cc nL ret rm mc ms n0 res pc ls (.long x :: st) ws cells slots := by
  subst hn
  intro p l e s m args below meth c H locs D cA em A la h
  exact lv_l2i h.1.1 h.1.2.1 hd rfl (K p l e s m args below meth c H locs D cA em A la h)
theorem zq_i2b {x : Int32} (hd : decode cc pc = .ok (.i2b, 1)) (hn : pc + 1 = pc') (K : zq_R sc y own cc nL ret rm mc ms n0 res pc' ls (.int x.toInt8.toInt32 :: st) ws cells slots) : zq_R sc y own cc nL ret rm mc ms n0 res pc ls (.int x :: st) ws cells slots := by
  subst hn
  intro p l e s m args below meth c H locs D cA em A la h
  exact lv_i2b h.1.1 h.1.2.1 hd rfl (K p l e s m args below meth c H locs D cA em A la h)
theorem zq_lcmp {x z : Int64} (hd : decode cc pc = .ok (.lcmp, 1)) (hn : pc + 1 = pc') (K : zq_R sc y own cc nL ret rm mc ms n0 res pc' ls (.int (lg_cmp x z) :: st) ws cells slots) : zq_R sc y own cc nL ret rm mc ms n0 res pc ls (.long z :: .long x :: st) ws cells slots := by
  subst hn
  intro p l e s m args below meth c H locs D cA em A la h
  exact W.lcmp h.1.1 h.1.2.1 hd (K p l e s m args below meth c H locs D cA em A la h)
theorem zq_dup {v : Value} (hv : v.category = 1) (hd : decode cc pc = .ok (.dup, 1)) (hn : pc + 1 = pc') (K : zq_R sc y own cc nL ret rm mc ms n0 res pc' ls (v :: v :: st) ws cells slots) : zq_R sc y own cc nL ret rm mc ms n0 res pc ls (v :: st) ws cells slots := by
  subst hn
  intro p l e s m args below meth c H locs D cA em A la h
  exact lv_dup h.1.1 h.1.2.1 hd ((zq_cat em v).trans hv) (K p l e s m args below meth c H locs D cA em A la h)
theorem zq_pop {v : Value} (hv : v.category = 1) (hd : decode cc pc = .ok (.pop, 1)) (hn : pc + 1 = pc') (K : zq_R sc y own cc nL ret rm mc ms n0 res pc' ls st ws cells slots) : zq_R sc y own cc nL ret rm mc ms n0 res pc ls (v :: st) ws cells slots := by
  subst hn
  intro p l e s m args below meth c H locs D cA em A la h
  exact lv_pop h.1.1 h.1.2.1 hd ((zq_cat em v).trans hv) (K p l e s m args below meth c H locs D cA em A la h)
theorem zq_dup2 {v u : Value} (hv : v.category = 1) (hu : u.category = 1) (hd : decode cc pc = .ok (.dup2, 1)) (hn : pc + 1 = pc') (K : zq_R sc y own cc nL ret rm mc ms n0 res pc' ls (v :: u :: v :: u :: st) ws cells slots) : zq_R sc y own cc nL ret rm mc ms n0 res pc ls (v :: u :: st) ws cells slots := by
  subst hn
  intro p l e s m args below meth c H locs D cA em A la h
  exact lv_dup2_11 h.1.1 h.1.2.1 hd ((zq_cat em v).trans hv) ((zq_cat em u).trans hu) (K p l e s m args below meth c H locs D cA em A la h)
theorem zq_if_eq {x : Int32} {off : Int} {tgt : Nat} (hd : decode cc pc = .ok (.ifCond .eq off, 3)) (ht : (pc : Int) + off = (tgt : Int)) (hn : pc + 3 = pc') (Kt : x = 0 → zq_R sc y own cc nL ret rm mc ms n0 res tgt ls st ws cells slots) (Kf : ¬ (x = 0) → zq_R sc y own cc nL ret rm mc ms n0 res pc' ls st ws cells slots) : zq_R sc y own cc nL ret rm mc ms n0 res pc ls (.int x :: st) ws cells slots := by
  subst hn
  intro p l e s m args below meth c H locs D cA em A la h
  exact lv_if_eq h.1.1 h.1.2.1 hd ht (fun q => Kt q p l e s m args below meth c H locs D cA em A la h) (fun q => Kf q p l e s m args below meth c H locs D cA em A la h)
theorem zq_if_ne {x : Int32} {off : Int} {tgt : Nat} (hd : decode cc pc = .ok (.ifCond .ne off, 3)) (ht : (pc : Int) + off = (tgt : Int)) (hn : pc + 3 = pc') (Kt : ¬ x = 0 → zq_R sc y own cc nL ret rm mc ms n0 res tgt ls st ws cells slots) (Kf : x = 0 → zq_R sc y own cc nL ret rm mc ms n0 res pc' ls st ws cells slots) : zq_R sc y own cc nL ret rm mc ms n0 res pc ls (.int x :: st) ws cells slots := by
  subst hn
  intro p l e s m args below meth c H locs D cA em A la h
  exact lv_if_ne h.1.1 h.1.2.1 hd ht (fun q => Kt q p l e s m args below meth c H locs D cA em A la h) (fun q => Kf q p l e s m args below meth c H locs D cA em A la h)
theorem zq_if_lt {x : Int32} {off : Int} {tgt : Nat} (hd : decode cc pc = .ok (.ifCond .lt off, 3)) (ht : (pc : Int) + off = (tgt : Int)) (hn : pc + 3 = pc') (Kt : x < 0 → zq_R sc y own cc nL ret rm mc ms n0 res tgt ls st ws cells slots) (Kf : ¬ (x < 0) → zq_R sc y own cc nL ret rm mc ms n0 res pc' ls st ws cells slots) : zq_R sc y own cc nL ret rm mc ms n0 res pc ls (.int x :: st) ws cells slots := by
  subst hn
  intro p l e s m args below meth c H locs D cA em A la h
  exact lv_if_lt h.1.1 h.1.2.1 hd ht (fun q => Kt q p l e s m args below meth c H locs D cA em A la h) (fun q => Kf q p l e s m args below meth c H locs D cA em A la h)
theorem zq_if_ge {x : Int32} {off : Int} {tgt : Nat} (hd : decode cc pc = .ok (.ifCond .ge off, 3)) (ht : (pc : Int) + off = (tgt : Int)) (hn : pc + 3 = pc') (Kt : 0 ≤ x → zq_R sc y own cc nL ret rm mc ms n0 res tgt ls st ws cells slots) (Kf : ¬ (0 ≤ x) → zq_R sc y own cc nL ret rm mc ms n0 res pc' ls st ws cells slots) : zq_R sc y own cc nL ret rm mc ms n0 res pc ls (.int x :: st) ws cells slots := by
  subst hn
  intro p l e s m args below meth c H locs D cA em A la h
  exact lv_if_ge h.1.1 h.1.2.1 hd ht (fun q => Kt q p l e s m args below meth c H locs D cA em A la h) (fun q => Kf q p l e s m args below meth c H locs D cA em A la h)
theorem zq_if_gt {x : Int32} {off : Int} {tgt : Nat} (hd : decode cc pc = .ok (.ifCond .gt off, 3)) (ht : (pc : Int) + off = (tgt : Int)) (hn : pc + 3 = pc') (Kt : 0 < x → zq_R sc y own cc nL ret rm mc ms n0 res tgt ls st ws cells slots) (Kf : ¬ (0 < x) → zq_R sc y own cc nL ret rm mc ms n0 res pc' ls st ws cells slots) : zq_R sc y own cc nL ret rm mc ms n0 res pc ls (.int x :: st) ws cells slots := by
  subst hn
  intro p l e s m args below meth c H locs D cA em A la h
  exact lv_if_gt h.1.1 h.1.2.1 hd ht (fun q => Kt q p l e s m args below meth c H locs D cA em A la h) (fun q => Kf q p l e s m args below meth c H locs D cA em A la h)
theorem zq_if_le {x : Int32} {off : Int} {tgt : Nat} (hd : decode cc pc = .ok (.ifCond .le off, 3)) (ht : (pc : Int) + off = (tgt : Int)) (hn : pc + 3 = pc') (Kt : x ≤ 0 → zq_R sc y own cc nL ret rm mc ms n0 res tgt ls st ws cells slots) (Kf : ¬ (x ≤ 0) → zq_R sc y own cc nL ret rm mc ms n0 res pc' ls st ws cells slots) : zq_R sc y own cc nL ret rm mc ms n0 res pc ls (.int x :: st) ws cells slots := by
  subst hn
  intro p l e s m args below meth c H locs D cA em A la h
  exact lv_if_le h.1.1 h.1.2.1 hd ht (fun q => Kt q p l e s m args below meth c H locs D cA em A la h) (fun q => Kf q p l e s m args below meth c H locs D cA em A la h)
theorem zq_icmp_eq {x z : Int32} {off : Int} {tgt : Nat} (hd : decode cc pc = .ok (.if_icmp .eq off, 3)) (ht : (pc : Int) + off = (tgt : Int)) (hn : pc + 3 = pc') (Kt : x = z → zq_R sc y own cc nL ret rm mc ms n0 res tgt ls st ws cells slots) (Kf : ¬ (x = z) → zq_R sc y own cc nL ret rm mc ms n0 res pc' ls st ws cells slots) : zq_R sc y own cc nL ret rm mc ms n0 res pc ls (.int z :: .int x :: st) ws cells slots := by
  subst hn
  intro p l e s m args below meth c H locs D cA em A la h
  exact lv_icmp_eq h.1.1 h.1.2.1 hd ht (fun q => Kt q p l e s m args below meth c H locs D cA em A la h) (fun q => Kf q p l e s m args below meth c H locs D cA em A la h)
theorem zq_icmp_ne {x z : Int32} {off : Int} {tgt : Nat} (hd : decode cc pc = .ok (.if_icmp .ne off, 3)) (ht : (pc : Int) + off = (tgt : Int)) (hn : pc + 3 = pc') (Kt : ¬ x = z → zq_R sc y own cc nL ret rm mc ms n0 res tgt ls st ws cells slots) (Kf : x = z → zq_R sc y own cc nL ret rm mc ms n0 res pc' ls st ws cells slots) : zq_R sc y own cc nL ret rm mc ms n0 res pc ls (.int z :: .int x :: st) ws cells slots := by
  subst hn
  intro p l e s m args below meth c H locs D cA em A la h
  exact lv_icmp_ne h.1.1 h.1.2.1 hd ht (fun q => Kt q p l e s m args below meth c H locs D cA em A la h) (fun q => Kf q p l e s m args below meth c H locs D cA em A la h)
theorem zq_icmp_lt {x z : Int32} {off : Int} {tgt : Nat} (hd : decode cc pc = .ok (.if_icmp .lt off, 3)) (ht : (pc : Int) + off = (tgt : Int)) (hn : pc + 3 = pc') (Kt : x < z → zq_R sc y own cc nL ret rm mc ms n0 res tgt ls st ws cells slots) (Kf : ¬ (x < z) → zq_R sc y own cc nL ret rm mc ms n0 res pc' ls st ws cells slots) : zq_R sc y own cc nL ret rm mc ms n0 res pc ls (.int z :: .int x :: st) ws cells slots := by
  subst hn
  intro p l e s m args below meth c H locs D cA em A la h
  exact lv_icmp_lt h.1.1 h.1.2.1 hd ht (fun q => Kt q p l e s m args below meth c H locs D cA em A la h) (fun q => Kf q p l e s m args below meth c H locs D cA em A la h)
theorem zq_icmp_ge {x z : Int32} {off : Int} {tgt : Nat} (hd : decode cc pc = .ok (.if_icmp .ge off, 3)) (ht : (pc : Int) + off = (tgt : Int)) (hn : pc + 3 = pc') (Kt : z ≤ x → zq_R sc y own cc nL ret rm mc ms n0 res tgt ls st ws cells slots) (Kf : ¬ (z ≤ x) → zq_R sc y own cc nL ret rm mc ms n0 res pc' ls st ws cells slots) : zq_R sc y own cc nL ret rm mc ms n0 res pc ls (.int z :: .int x :: st) ws cells slots := by
  subst hn
  intro p l e s m args below meth c H locs D cA em A la h
  exact lv_icmp_ge h.1.1 h.1.2.1 hd ht (fun q => Kt q p l e s m args below meth c H locs D cA em A la h) (fun q => Kf q p l e s m args below meth c H locs D cA em A la h)
theorem zq_icmp_gt {x z : Int32} {off : Int} {tgt : Nat} (hd : decode cc pc = .ok (.if_icmp .gt off, 3)) (ht : (pc : Int) + off = (tgt : Int)) (hn : pc + 3 = pc') (Kt : z < x → zq_R sc y own cc nL ret rm mc ms n0 res tgt ls st ws cells slots) (Kf : ¬ (z < x) → zq_R sc y own cc nL ret rm mc ms n0 res pc' ls st ws cells slots) : zq_R sc y own cc nL ret rm mc ms n0 res pc ls (.int z :: .int x :: st) ws cells slots := by
  subst hn
  intro p l e s m args below meth c H locs D cA em A la h
  exact lv_icmp_gt h.1.1 h.1.2.1 hd ht (fun q => Kt q p l e s m args below meth c H locs D cA em A la h) (fun q => Kf q p l e s m args below meth c H locs D cA em A la h)
theorem zq_icmp_le {x z : Int32} {off : Int} {tgt : Nat} (hd : decode cc pc = .ok (.if_icmp .le off, 3)) (ht : (pc : Int) + off = (tgt : Int)) (hn : pc + 3 = pc') (Kt : x ≤ z → zq_R sc y own cc nL ret rm mc ms n0 res tgt ls st ws cells slots) (Kf : ¬ (x ≤ z) → zq_R sc y own cc nL ret rm mc ms n0 res pc' ls st ws cells slots) : zq_R sc y own cc nL ret rm mc ms n0 res pc ls (.int z :: .int x :: st) ws cells slots := by
  subst hn
  intro p l e s m args below meth c H locs D cA em A la h
  exact lv_icmp_le h.1.1 h.1.2.1 hd ht (fun q => Kt q p l e s m args below meth c H locs D cA em A la h) (fun q => Kf q p l e s m args below meth c H locs D cA em A la h)
theorem zq_goto {off : Int} {tgt : Nat} (hd : decode cc pc = .ok (.goto off, 3)) (ht : (pc : Int) + off = (tgt : Int)) (K : zq_R sc y own cc nL ret rm mc ms n0 res tgt ls st ws cells slots) : zq_R sc y own cc nL ret rm mc ms n0 res pc ls st ws cells slots := by
  intro p l e s m args below meth c H locs D cA em A la h
  exact lv_goto h.1.1 h.1.2.1 hd ht (K p l e s m args below meth c H locs D cA em A la h)
theorem zq_tabIn {dflt lo hi : Int} {offs : Array Int} {len : Nat} {x : Int32} {off : Int} {tgt : Nat} (hd : decode cc pc = .ok (.tableswitch dflt lo hi offs, len)) (h1 : ¬ x.toInt < lo) (h2 : ¬ hi < x.toInt) (ho : offs[(x.toInt - lo).toNat]? = some off) (ht : (pc : Int) + off = (tgt : Int)) (K : zq_R sc y own cc nL ret rm mc ms n0 res tgt ls st ws cells slots) : zq_R sc y own cc nL ret rm mc ms n0 res pc ls (.int x :: st) ws cells slots := by
  intro p l e s m args below meth c H locs D cA em A la h
  exact lv_tableIn h.1.1 h.1.2.1 hd h1 h2 ho ht (K p l e s m args below meth c H locs D cA em A la h)
theorem zq_tabOut {dflt lo hi : Int} {offs : Array Int} {len : Nat} {x : Int32} {tgt : Nat} (hd : decode cc pc = .ok (.tableswitch dflt lo hi offs, len)) (h1 : x.toInt < lo ∨ hi < x.toInt) (ht : (pc : Int) + dflt = (tgt : Int)) (K : zq_R sc y own cc nL ret rm mc ms n0 res tgt ls st ws cells slots) : zq_R sc y own cc nL ret rm mc ms n0 res pc ls (.int x :: st) ws cells slots := by
  intro p l e s m args below meth c H locs D cA em A la h
  exact lv_tableOut h.1.1 h.1.2.1 hd h1 ht (K p l e s m args below meth c H locs D cA em A la h)
theorem zq_look {dflt : Int} {ps : Array (Int × Int)} {len : Nat} {x : Int32} {off : Int} {tgt : Nat} (hd : decode cc pc = .ok (.lookupswitch dflt ps, len)) (hp : (ps.toList.zip (ps.toList.drop 1)).all (fun (a, next) => a.1 < next.1) = true) (ho : Op.lookupswitch.offset ps.toList dflt x.toInt = off) (ht : (pc : Int) + off = (tgt : Int)) (K : zq_R sc y own cc nL ret rm mc ms n0 res tgt ls st ws cells slots) : zq_R sc y own cc nL ret rm mc ms n0 res pc ls (.int x :: st) ws cells slots := by
  intro p l e s m args below meth c H locs D cA em A la h
  exact lv_lookup h.1.1 h.1.2.1 hd hp ho ht (K p l e s m args below meth c H locs D cA em A la h)
end zqRules
