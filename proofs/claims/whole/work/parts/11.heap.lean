def zq_cl (ci : Nat) (C : String) (T : u_T) (N : Nat) (ty0 : Nat → FieldType) : Prop := vwCl[ci]? = some (C, T, N) ∧ (∀ w ∈ u_ws C T N, w ∈ lw_tbl ∧ goodWord w = true) ∧ (∀ k, k < N → parseFieldDescriptor (T k).2.2.1 = some (ty0 k)) ∧ (∀ a, a < N → ∀ b, b < N → a ≠ b → (T a).2.1 ≠ (T b).2.1)
/-- entry idx of class own is field j of class ci -/
def zq_fr (own : String) (idx ci j : Nat) (fin : Bool) (ty : FieldType) : Prop := ∃ (C : String) (T : u_T) (N : Nat) (ty0 : Nat → FieldType), zq_cl ci C T N ty0 ∧ j < N ∧ (T j).2.2.2 = fin ∧ ty0 j = ty ∧ (T j).1 = C ∧ (Cond.fieldLink own idx (T j).1 (T j).2.1 (T j).2.2.1 ∈ lw_tbl ∨ ∃ host : String, Cond.fieldLinkNest own idx (T j).1 (T j).2.1 (T j).2.2.1 host ∈ lw_tbl)
section zqHeap
variable {sc : Option (Nat × (Nat → Int32))} {y : MethodName} {own : String} {cc : ByteArray} {nL : Nat} {ret : Option FieldType} {rm : Room} {mc ms n0 : Nat} {res : Option Value × List zq_AC} {pc pc' : Nat} {ls st : List Value} {ws : List zq_AC} {cells slots : Nat}
theorem zq_get {k ci j idx : Nat} {fs : List Value} {v : Value} {fin : Bool} {ty : FieldType} (fr : zq_fr own idx ci j fin ty) (hk : ws[k]? = some (.inr (ci, fs))) (hj : fs[j]? = some v) (hd : decode cc pc = .ok (.getfield idx, 3)) (hn : pc + 3 = pc') (K : zq_R sc y own cc nL ret rm mc ms n0 res pc' ls (v :: st) ws cells slots) : zq_R sc y own cc nL ret rm mc ms n0 res pc ls (.ref k :: st) ws cells slots := by
  subst hn
  intro p l e s m args below meth c H locs D cA em A la h
  obtain ⟨C, T, N, ty0, ⟨hc, hw, -, -⟩, hjN, -, -, -, hl⟩ := fr
  have hts : ∀ w ∈ u_ws C T N, w.before args s = true := fun w hm => h.1.2.2.2.2.2.2.1 w (hw w hm).1 (by rw [(hw w hm).2]; rfl)
  have hv : (fs.map (zq_cv em))[j]? = some (zq_cv em v) := by rw [List.getElem?_map, hj]; rfl
  have kk := K p l e s m args below meth c H locs D cA em A la h
  rcases hl with hl | ⟨host, hl⟩
  · exact va_get (D := D) (ci := ci) (C := C) (T := T) (N := N) h.1.1 h.1.2.1 hts (fun w hm => hm) h.1.2.2.2.2.2.1 h.2.1.1 h.2.1.2.1 k (zq_wl_get hk) hc j hjN (h.1.2.2.2.2.2.2.1 _ hl rfl) (fun _ h9 => h9) hv hd kk
  · exact va_getN (D := D) (ci := ci) (C := C) (T := T) (N := N) h.1.1 h.1.2.1 hts (fun w hm => hm) h.1.2.2.2.2.2.1 h.2.1.1 h.2.1.2.1 k (zq_wl_get hk) hc j hjN (h.1.2.2.2.2.2.2.1 _ hl rfl) (fun _ h9 => h9) hv hd kk
theorem zq_put {k ci j idx : Nat} {fs : List Value} {v : Value} {ty : FieldType} (fr : zq_fr own idx ci j false ty) (hv : ∀ em, narrow ty (zq_cv em v) = zq_cv em v ∧ fits ty (zq_cv em v) = true) (hk : ws[k]? = some (.inr (ci, fs))) (hj : j < fs.length) (hd : decode cc pc = .ok (.putfield idx, 3)) (hn : pc + 3 = pc') (K : zq_R sc y own cc nL ret rm mc ms n0 res pc' ls st (ws.set k (.inr (ci, fs.set j v))) cells slots) : zq_R sc y own cc nL ret rm mc ms n0 res pc ls (v :: .ref k :: st) ws cells slots := by
  subst hn
  intro p l e s m args below meth c H locs D cA em A la h
  obtain ⟨C, T, N, ty0, ⟨hc, hw, ht, hnm⟩, hjN, hfin, hty, hC, hl⟩ := fr
  have hts : ∀ w ∈ u_ws C T N, w.before args s = true := fun w hm => h.1.2.2.2.2.2.2.1 w (hw w hm).1 (by rw [(hw w hm).2]; rfl)
  have hd2 : parseFieldDescriptor (T j).2.2.1 = some ty := by rw [ht j hjN, hty]
  have e1 : zq_ce cA em (.inr (ci, fs.set j v)) = .inr (ci, (fs.map (zq_cv em)).set j (zq_cv em v)) := by
    show Sum.inr (ci, (fs.set j v).map (zq_cv em)) = _
    rw [List.map_set]
  have kk : ∀ (H1 : Heap) (locs1 : List Loc), va_P D vwCl ((zq_wl cA em ws).set k (em k, .inr (ci, (fs.map (zq_cv em)).set j (zq_cv em v)))) H1 → va_D A ((zq_wl cA em ws).set k (em k, .inr (ci, (fs.map (zq_cv em)).set j (zq_cv em v)))) → va_S A s.heap H1 locs1 → W p l e rm s m args below meth c H1 locs1 cells slots (zq_Z sc mc ms res below s args D cA em A) (F0 m (pc + 3) la (st.map (zq_cv em))) := by
    intro H1 locs1 hP hD hS
    rw [← e1, zq_wl_set] at hP hD
    exact K p l e s m args below meth c H1 locs1 D cA em A la ⟨h.1, ⟨h.2.1.1, hP, hD, hS, h.2.1.2.2.2.2⟩, h.2.2⟩
  rcases hl with hl | ⟨host, hl⟩
  · exact va_put (D := D) (ci := ci) (C := C) (T := T) (N := N) h.1.1 h.1.2.1 hts (fun w hm => hm) ty0 ht hnm h.1.2.2.2.2.2.1 h.2.1.1 h.2.1.2.1 h.2.1.2.2.1 h.2.1.2.2.2.1 k (zq_wl_get hk) hc j hjN (h.1.2.2.2.2.2.2.1 _ hl rfl) (fun _ h9 => h9) hfin hd2 (hv em).1 (hv em).2 (by simpa using hj) hd kk
  · exact va_putN (D := D) (ci := ci) (C := C) (T := T) (N := N) h.1.1 h.1.2.1 hts (fun w hm => hm) ty0 ht hnm h.1.2.2.2.2.2.1 h.2.1.1 h.2.1.2.1 h.2.1.2.2.1 h.2.1.2.2.2.1 k (zq_wl_get hk) hc j hjN (h.1.2.2.2.2.2.2.1 _ hl rfl) (fun _ h9 => h9) hfin hd2 (hv em).1 (hv em).2 (by simpa using hj) hd kk
theorem zq_putF {k ci j idx : Nat} {fs : List Value} {v : Value} {ty : FieldType} (fr : ∃ (C : String) (T : u_T) (N : Nat) (ty0 : Nat → FieldType), zq_cl ci C T N ty0 ∧ j < N ∧ (T j).2.2.2 = true ∧ ty0 j = ty ∧ (T j).1 = own ∧ Cond.fieldLink own idx (T j).1 (T j).2.1 (T j).2.2.1 ∈ lw_tbl) (hy : y.name = "<init>") (hv : ∀ em, narrow ty (zq_cv em v) = zq_cv em v ∧ fits ty (zq_cv em v) = true) (hk : ws[k]? = some (.inr (ci, fs))) (hj : j < fs.length) (hd : decode cc pc = .ok (.putfield idx, 3)) (hn : pc + 3 = pc') (K : zq_R sc y own cc nL ret rm mc ms n0 res pc' ls st (ws.set k (.inr (ci, fs.set j v))) cells slots) : zq_R sc y own cc nL ret rm mc ms n0 res pc ls (v :: .ref k :: st) ws cells slots := by
  subst hn
  intro p l e s m args below meth c H locs D cA em A la h
  obtain ⟨C, T, N, ty0, ⟨hc, hw, ht, hnm⟩, hjN, hfin, hty, hC, hl⟩ := fr
  have hts : ∀ w ∈ u_ws C T N, w.before args s = true := fun w hm => h.1.2.2.2.2.2.2.1 w (hw w hm).1 (by rw [(hw w hm).2]; rfl)
  have hd2 : parseFieldDescriptor (T j).2.2.1 = some ty := by rw [ht j hjN, hty]
  have e1 : zq_ce cA em (.inr (ci, fs.set j v)) = .inr (ci, (fs.map (zq_cv em)).set j (zq_cv em v)) := by
    show Sum.inr (ci, (fs.set j v).map (zq_cv em)) = _
    rw [List.map_set]
  refine va_putF (D := D) (ci := ci) (C := C) (T := T) (N := N) h.1.1 h.1.2.1 hts (fun w hm => hm) ty0 ht hnm h.1.2.2.2.2.2.1 h.2.1.1 h.2.1.2.1 h.2.1.2.2.1 h.2.1.2.2.2.1 k (zq_wl_get hk) hc j hjN (h.1.2.2.2.2.2.2.1 _ hl rfl) (fun _ h9 => h9) hfin (h.1.2.2.2.2.2.2.2.trans hy) hC hd2 (hv em).1 (hv em).2 (by simpa using hj) hd (fun H1 locs1 hP hD hS => ?_)
  rw [← e1, zq_wl_set] at hP hD
  exact K p l e s m args below meth c H1 locs1 D cA em A la ⟨h.1, ⟨h.2.1.1, hP, hD, hS, h.2.1.2.2.2.2⟩, h.2.2⟩
theorem zq_iaload {k n : Nat} {f : Nat → Int32} {i : Int32} (hk : ws[k]? = some (.inl (0, n, .inl f))) (hin : vp_in i n) (hd : decode cc pc = .ok (.iaload, 1)) (hn : pc + 1 = pc') (K : zq_R sc y own cc nL ret rm mc ms n0 res pc' ls (.int (f i.toNatClampNeg) :: st) ws cells slots) : zq_R sc y own cc nL ret rm mc ms n0 res pc ls (.int i :: .ref k :: st) ws cells slots := by
  subst hn
  intro p l e s m args below meth c H locs D cA em A la h
  exact va_iald (D := D) h.1.1 h.1.2.1 h.2.1.1 h.2.1.2.1 k 0 (zq_wl_get hk) rfl hin hd (K p l e s m args below meth c H locs D cA em A la h)
theorem zq_baload {k n : Nat} {f : Nat → Int32} {i : Int32} (hk : ws[k]? = some (.inl (1, n, .inl f))) (hin : vp_in i n) (hd : decode cc pc = .ok (.baload, 1)) (hn : pc + 1 = pc') (K : zq_R sc y own cc nL ret rm mc ms n0 res pc' ls (.int (f i.toNatClampNeg) :: st) ws cells slots) : zq_R sc y own cc nL ret rm mc ms n0 res pc ls (.int i :: .ref k :: st) ws cells slots := by
  subst hn
  intro p l e s m args below meth c H locs D cA em A la h
  exact va_bald (D := D) h.1.1 h.1.2.1 h.2.1.1 h.2.1.2.1 k 1 (zq_wl_get hk) rfl hin hd (K p l e s m args below meth c H locs D cA em A la h)
theorem zq_zaload {k n : Nat} {f : Nat → Int32} {i : Int32} (hk : ws[k]? = some (.inl (2, n, .inl f))) (hin : vp_in i n) (hd : decode cc pc = .ok (.baload, 1)) (hn : pc + 1 = pc') (K : zq_R sc y own cc nL ret rm mc ms n0 res pc' ls (.int (f i.toNatClampNeg) :: st) ws cells slots) : zq_R sc y own cc nL ret rm mc ms n0 res pc ls (.int i :: .ref k :: st) ws cells slots := by
  subst hn
  intro p l e s m args below meth c H locs D cA em A la h
  exact va_zald (D := D) h.1.1 h.1.2.1 h.2.1.1 h.2.1.2.1 k 2 (zq_wl_get hk) rfl hin hd (K p l e s m args below meth c H locs D cA em A la h)
theorem zq_laload {k n : Nat} {f : Nat → Int64} {i : Int32} (hk : ws[k]? = some (.inl (3, n, .inr (.inl f)))) (hin : vp_in i n) (hd : decode cc pc = .ok (.laload, 1)) (hn : pc + 1 = pc') (K : zq_R sc y own cc nL ret rm mc ms n0 res pc' ls (.long (f i.toNatClampNeg) :: st) ws cells slots) : zq_R sc y own cc nL ret rm mc ms n0 res pc ls (.int i :: .ref k :: st) ws cells slots := by
  subst hn
  intro p l e s m args below meth c H locs D cA em A la h
  exact va_lald (D := D) h.1.1 h.1.2.1 h.2.1.1 h.2.1.2.1 k 3 (zq_wl_get hk) rfl hin hd (K p l e s m args below meth c H locs D cA em A la h)
theorem zq_iastore {k n : Nat} {f : Nat → Int32} {i : Int32} {x : Int32} (hk : ws[k]? = some (.inl (0, n, .inl f))) (hin : vp_in i n) (hd : decode cc pc = .ok (.iastore, 1)) (hn : pc + 1 = pc') (K : zq_R sc y own cc nL ret rm mc ms n0 res pc' ls st (ws.set k (.inl (0, n, .inl (upd f i.toNatClampNeg x)))) cells slots) : zq_R sc y own cc nL ret rm mc ms n0 res pc ls (.int x :: .int i :: .ref k :: st) ws cells slots := by
  subst hn
  intro p l e s m args below meth c H locs D cA em A la h
  refine va_iast (D := D) h.1.1 h.1.2.1 h.2.1.1 h.2.1.2.1 h.2.1.2.2.1 h.2.1.2.2.2.1 k 0 (zq_wl_get hk) rfl hin hd (fun H1 locs1 hP hD hS => ?_)
  have hP : va_P D vwCl ((zq_wl cA em ws).set k (em k, zq_ce cA em (.inl (0, n, .inl (upd f i.toNatClampNeg x))))) H1 := hP
  have hD : va_D A ((zq_wl cA em ws).set k (em k, zq_ce cA em (.inl (0, n, .inl (upd f i.toNatClampNeg x))))) := hD
  rw [zq_wl_set] at hP hD
  exact K p l e s m args below meth c H1 locs1 D cA em A la ⟨h.1, ⟨h.2.1.1, hP, hD, hS, h.2.1.2.2.2.2⟩, h.2.2⟩
theorem zq_bastore {k n : Nat} {f : Nat → Int32} {i : Int32} {x : Int32} (hk : ws[k]? = some (.inl (1, n, .inl f))) (hin : vp_in i n) (hd : decode cc pc = .ok (.bastore, 1)) (hn : pc + 1 = pc') (K : zq_R sc y own cc nL ret rm mc ms n0 res pc' ls st (ws.set k (.inl (1, n, .inl (upd f i.toNatClampNeg (vp_nar .byte x))))) cells slots) : zq_R sc y own cc nL ret rm mc ms n0 res pc ls (.int x :: .int i :: .ref k :: st) ws cells slots := by
  subst hn
  intro p l e s m args below meth c H locs D cA em A la h
  refine va_bast (D := D) h.1.1 h.1.2.1 h.2.1.1 h.2.1.2.1 h.2.1.2.2.1 h.2.1.2.2.2.1 k 1 (zq_wl_get hk) rfl hin hd (fun H1 locs1 hP hD hS => ?_)
  have hP : va_P D vwCl ((zq_wl cA em ws).set k (em k, zq_ce cA em (.inl (1, n, .inl (upd f i.toNatClampNeg (vp_nar .byte x)))))) H1 := hP
  have hD : va_D A ((zq_wl cA em ws).set k (em k, zq_ce cA em (.inl (1, n, .inl (upd f i.toNatClampNeg (vp_nar .byte x)))))) := hD
  rw [zq_wl_set] at hP hD
  exact K p l e s m args below meth c H1 locs1 D cA em A la ⟨h.1, ⟨h.2.1.1, hP, hD, hS, h.2.1.2.2.2.2⟩, h.2.2⟩
theorem zq_zastore {k n : Nat} {f : Nat → Int32} {i : Int32} {x : Int32} (hk : ws[k]? = some (.inl (2, n, .inl f))) (hin : vp_in i n) (hd : decode cc pc = .ok (.bastore, 1)) (hn : pc + 1 = pc') (K : zq_R sc y own cc nL ret rm mc ms n0 res pc' ls st (ws.set k (.inl (2, n, .inl (upd f i.toNatClampNeg (vp_nar .boolean x))))) cells slots) : zq_R sc y own cc nL ret rm mc ms n0 res pc ls (.int x :: .int i :: .ref k :: st) ws cells slots := by
  subst hn
  intro p l e s m args below meth c H locs D cA em A la h
  refine va_zast (D := D) h.1.1 h.1.2.1 h.2.1.1 h.2.1.2.1 h.2.1.2.2.1 h.2.1.2.2.2.1 k 2 (zq_wl_get hk) rfl hin hd (fun H1 locs1 hP hD hS => ?_)
  have hP : va_P D vwCl ((zq_wl cA em ws).set k (em k, zq_ce cA em (.inl (2, n, .inl (upd f i.toNatClampNeg (vp_nar .boolean x)))))) H1 := hP
  have hD : va_D A ((zq_wl cA em ws).set k (em k, zq_ce cA em (.inl (2, n, .inl (upd f i.toNatClampNeg (vp_nar .boolean x)))))) := hD
  rw [zq_wl_set] at hP hD
  exact K p l e s m args below meth c H1 locs1 D cA em A la ⟨h.1, ⟨h.2.1.1, hP, hD, hS, h.2.1.2.2.2.2⟩, h.2.2⟩
theorem zq_lastore {k n : Nat} {f : Nat → Int64} {i : Int32} {x : Int64} (hk : ws[k]? = some (.inl (3, n, .inr (.inl f)))) (hin : vp_in i n) (hd : decode cc pc = .ok (.lastore, 1)) (hn : pc + 1 = pc') (K : zq_R sc y own cc nL ret rm mc ms n0 res pc' ls st (ws.set k (.inl (3, n, .inr (.inl (vp_updL f i.toNatClampNeg x))))) cells slots) : zq_R sc y own cc nL ret rm mc ms n0 res pc ls (.long x :: .int i :: .ref k :: st) ws cells slots := by
  subst hn
  intro p l e s m args below meth c H locs D cA em A la h
  refine va_last (D := D) h.1.1 h.1.2.1 h.2.1.1 h.2.1.2.1 h.2.1.2.2.1 h.2.1.2.2.2.1 k 3 (zq_wl_get hk) rfl hin hd (fun H1 locs1 hP hD hS => ?_)
  have hP : va_P D vwCl ((zq_wl cA em ws).set k (em k, zq_ce cA em (.inl (3, n, .inr (.inl (vp_updL f i.toNatClampNeg x)))))) H1 := hP
  have hD : va_D A ((zq_wl cA em ws).set k (em k, zq_ce cA em (.inl (3, n, .inr (.inl (vp_updL f i.toNatClampNeg x)))))) := hD
  rw [zq_wl_set] at hP hD
  exact K p l e s m args below meth c H1 locs1 D cA em A la ⟨h.1, ⟨h.2.1.1, hP, hD, hS, h.2.1.2.2.2.2⟩, h.2.2⟩
theorem zq_alen {k kd : Nat} {x : vp_A} (hk : ws[k]? = some (.inl (kd, x))) (hkd : kd < 4) (hd : decode cc pc = .ok (.arraylength, 1)) (hn : pc + 1 = pc') (K : zq_R sc y own cc nL ret rm mc ms n0 res pc' ls (.int (Int32.ofNat x.1) :: st) ws cells slots) : zq_R sc y own cc nL ret rm mc ms n0 res pc ls (.ref k :: st) ws cells slots := by
  subst hn
  intro p l e s m args below meth c H locs D cA em A la h
  obtain ⟨ty, ht⟩ : ∃ ty, (zq_ty cA)[kd]? = some (cA kd, ty) := by
    rcases (show kd = 0 ∨ kd = 1 ∨ kd = 2 ∨ kd = 3 by omega) with rfl | rfl | rfl | rfl <;> exact ⟨_, rfl⟩
  exact va_alen (D := D) h.1.1 h.1.2.1 h.2.1.1 h.2.1.2.1 k kd (zq_wl_get hk) ht rfl hd (K p l e s m args below meth c H locs D cA em A la h)
theorem zq_iret {x : Int32} (hr : ret = some .int) (hres : res = (some (.int x), ws)) (hc : cells = mc) (hs : slots = ms) (hd : decode cc pc = .ok (.ireturn, 1)) : zq_R none y own cc nL ret rm mc ms n0 res pc ls [.int x] ws cells slots := by
  subst hc
  subst hs
  intro p l e s m args below meth c H locs D cA em A la h
  obtain ⟨⟨hx, hb, hml, hrt, hlocks, hown, hts, hnm⟩, ⟨hK, hP, hD, hS, hA, hal, hsx⟩, hlo⟩ := h
  exact W.iret hx hb (hrt.trans hr) (fun t ht hW => ⟨by rw [hres]; rfl, by rw [hres, ht]; exact hP, by rw [hres]; exact hD, hS.F ht⟩) hS.2.2 hd hlocks
theorem zq_zret {x : Int32} {ty : FieldType} (hnr : narrow ty (.int x) = .int x) (hr : ret = some ty) (hres : res = (some (.int x), ws)) (hc : cells = mc) (hs : slots = ms) (hd : decode cc pc = .ok (.ireturn, 1)) : zq_R none y own cc nL ret rm mc ms n0 res pc ls [.int x] ws cells slots := by
  subst hc
  subst hs
  intro p l e s m args below meth c H locs D cA em A la h
  obtain ⟨⟨hx, hb, hml, hrt, hlocks, hown, hts, hnm⟩, ⟨hK, hP, hD, hS, hA, hal, hsx⟩, hlo⟩ := h
  exact W.zret hx hb (hrt.trans hr) hnr (fun t ht hW => ⟨by rw [hres]; rfl, by rw [hres, ht]; exact hP, by rw [hres]; exact hD, hS.F ht⟩) hS.2.2 hd hlocks
theorem zq_lret {x : Int64} (hr : ret = some .long) (hres : res = (some (.long x), ws)) (hc : cells = mc) (hs : slots = ms) (hd : decode cc pc = .ok (.lreturn, 1)) : zq_R none y own cc nL ret rm mc ms n0 res pc ls [.long x] ws cells slots := by
  subst hc
  subst hs
  intro p l e s m args below meth c H locs D cA em A la h
  obtain ⟨⟨hx, hb, hml, hrt, hlocks, hown, hts, hnm⟩, ⟨hK, hP, hD, hS, hA, hal, hsx⟩, hlo⟩ := h
  exact W.lret hx hb (hrt.trans hr) (fun t ht hW => ⟨by rw [hres]; rfl, by rw [hres, ht]; exact hP, by rw [hres]; exact hD, hS.F ht⟩) hS.2.2 hd hlocks
theorem zq_vret  (hr : ret = none) (hres : res = (none, ws)) (hc : cells = mc) (hs : slots = ms) (hd : decode cc pc = .ok (.return_, 1)) : zq_R none y own cc nL ret rm mc ms n0 res pc ls [] ws cells slots := by
  subst hc
  subst hs
  intro p l e s m args below meth c H locs D cA em A la h
  obtain ⟨⟨hx, hb, hml, hrt, hlocks, hown, hts, hnm⟩, ⟨hK, hP, hD, hS, hA, hal, hsx⟩, hlo⟩ := h
  exact W.vret hx hb (hrt.trans hr) (fun t ht hW => ⟨by rw [hres]; rfl, by rw [hres, ht]; exact hP, by rw [hres]; exact hD, hS.F ht⟩) hS.2.2 hd hlocks
theorem zq_aret {k : Nat} {C : String} (hr : ret = some (.object C)) (hres : res = (some (.ref k), ws)) (hc : cells = mc) (hs : slots = ms) (hd : decode cc pc = .ok (.areturn, 1)) : zq_R none y own cc nL ret rm mc ms n0 res pc ls [.ref k] ws cells slots := by
  subst hc
  subst hs
  intro p l e s m args below meth c H locs D cA em A la h
  obtain ⟨⟨hx, hb, hml, hrt, hlocks, hown, hts, hnm⟩, ⟨hK, hP, hD, hS, hA, hal, hsx⟩, hlo⟩ := h
  exact W.aret hx hb (hrt.trans hr) (Or.inl ⟨C, rfl⟩) (Or.inr ⟨em k, rfl⟩) (fun t ht hW => ⟨by rw [hres]; rfl, by rw [hres, ht]; exact hP, by rw [hres]; exact hD, hS.F ht⟩) hS.2.2 hd hlocks
end zqHeap
/-- a method's contract over abstract worlds -/
def zq_MC (y : MethodName) (cc : ByteArray) (nL : Nat) (ret : Option FieldType) (rm : Room) (mc ms : Nat) (av : List Value) (ws : List zq_AC) (res : Option Value × List zq_AC) : Prop :=
  ∀ (l : Launch) (D : va_G) (cA : Nat → ClassId) (em : Nat → Nat) (sz : Nat), Met l y (Cond.code y cc nL ret :: lw_tbl.filter goodWord) rm (va_Pc (av.map (zq_cv em)) (fun U => U.heap.size = sz ∧ va_P D vwCl (zq_wl cA em ws) U.heap ∧ va_K D vwCl (zq_ty cA) U ∧ va_D (fun _ => True) (zq_wl cA em ws) ∧ (∀ w ∈ lw_tbl, zq_nest w = true → va_Nw w U) ∧ (mc ≠ 0 → zq_al em U ws.length))) (zq_Q D cA em (va_A (zq_wl cA em ws) sz) res) mc ms (va_A (zq_wl cA em ws) sz)
def zq_sl (av : List Value) : List Value := av.flatMap (fun v => if v.category = 2 then [v, .null] else [v])
theorem zq_sl_len (em : Nat → Nat) (av : List Value) : (lg_sl (av.map (zq_cv em))).length = (zq_sl av).length := by
  induction av with
  | nil => rfl
  | cons v t ih =>
    simp only [lg_sl, zq_sl, List.map_cons, List.flatMap_cons, List.length_append, zq_cat] at ih ⊢
    rw [ih]
    by_cases h : v.category = 2 <;> simp [h]
theorem zq_sl_get (em : Nat → Nat) (av : List Value) (i : Nat) (v : Value) (h : (zq_sl av)[i]? = some v) (hv : v ≠ .null) : (lg_sl (av.map (zq_cv em)))[i]? = some (.val (zq_cv em v)) := by
  induction av generalizing i with
  | nil => simp [zq_sl] at h
  | cons u t ih =>
    simp only [lg_sl, zq_sl, List.map_cons, List.flatMap_cons, zq_cat] at ih h ⊢
    by_cases hc : u.category = 2
    · rw [if_pos hc] at h ⊢
      match i, h with
      | 0, h => simp at h; subst h; rfl
      | 1, h => simp at h; exact absurd h.symm hv
      | i + 2, h => simpa using ih i (by simpa using h)
    · rw [if_neg hc] at h ⊢
      match i, h with
      | 0, h => simp at h; subst h; rfl
      | i + 1, h => simpa using ih i (by simpa using h)
theorem zq_nest_tab {w : Cond} (h : zq_nest w = true) : w.onTables = true := by
  cases w <;> first | rfl | (simp [zq_nest] at h)
theorem zq_nest_warm {w : Cond} {s U : State} (h : zq_nest w = true) (hW : s.WarmedH U.vm) (hb : va_Nw w s) : va_Nw w U := by
  cases w <;> first | exact va_Nw.warmF hW hb | exact va_Nw.warmM hW hb | (simp [zq_nest] at h)
set_option maxHeartbeats 4000000 in
theorem zq_MC_of {y : MethodName} {own : String} {cc : ByteArray} {nL : Nat} {ret : Option FieldType} {rm : Room} {mc ms : Nat} {av : List Value} {ws : List zq_AC} {res : Option Value × List zq_AC} (ls : List Value) (hy : plainName y.cls = true) (ho : y.cls = own) (hl : zq_sl av ++ List.replicate (nL - (zq_sl av).length) .null = ls) (hle : (zq_sl av).length ≤ nL) (K : zq_R none y own cc nL ret rm mc ms ws.length res 0 ls [] ws 0 0) : zq_MC y cc nL ret rm mc ms av ws res := by
  intro l D cA em sz
  subst ho
  refine Met.ofW (cc := cc) (maxL := nL) (ret := ret) hy rfl ?_
  intro p e s m args below meth c s₁ B hml hv
  obtain ⟨rfl, hsz, hP, hK, hD0, hN, hal⟩ := hv
  subst hsz
  have hts := atoms_spec (ws := Cond.code y cc nL ret :: lw_tbl.filter goodWord) B.pre
  have hown : s.vm.findClass y.cls = some m.cls := findClass_of_methodNamed B.named
  have hw : zq_hw ((av.map (zq_cv em)).toArray) s := by
    intro w hm hg
    rcases Bool.or_eq_true_iff.mp hg with h1 | h1
    · exact hts w (List.mem_cons_of_mem _ (List.mem_filter.mpr ⟨hm, h1⟩))
    · exact va_Nw.use (zq_nest_tab h1) (hN w hm h1)
  have hlen : (lg_sl (av.map (zq_cv em))).length ≤ nL := by rw [zq_sl_len]; exact hle
  have hl0 := lv_entry (av.map (zq_cv em)) (n := nL) hlen
  rw [lg_entry_eq]
  refine K p l e s m _ below meth c s.heap [] D cA em (va_A (zq_wl cA em ws) s.heap.size) _ ⟨⟨B.exec, B.bytes, hml, B.returns, B.notSynchronized, hown, hw, (name_of_methodNamed B.named B.method).1⟩, ⟨hK, hP, hD0.self, va_S.rf, fun q h => Or.inr h, hal, trivial⟩, hl0.1, hl0.2.1, ?_⟩
  intro i v hi hv
  subst hl
  rw [List.getElem?_toArray]
  by_cases hlt : i < (zq_sl av).length
  · rw [List.getElem?_append_left hlt] at hi
    rw [List.getElem?_append_left (by rw [zq_sl_len]; exact hlt)]
    exact zq_sl_get em av i v hi hv
  · rw [List.getElem?_append_right (by omega)] at hi
    exact absurd (List.eq_of_mem_replicate (List.mem_of_getElem? hi)) hv
/-- a call's words: virtual; static; of a constructor -/
def zq_cb (own : String) (idx : Nat) (y : MethodName) (cc : ByteArray) (nL : Nat) (ret : Option FieldType) (n : Nat) : Prop :=
  Cond.methodLink own idx y ∈ lw_tbl ∧ Cond.initialized y.cls ∈ lw_tbl ∧ Cond.code y cc nL ret ∈ lw_tbl ∧ (y.cls ≠ "java/lang/invoke/MethodHandle" ∧ y.cls ≠ "java/lang/invoke/VarHandle" ∧ (parseMethodDescriptor y.desc).map (fun d => d.parameters.length) = some n)
def zq_cV (own : String) (idx ci : Nat) (y : MethodName) (cc : ByteArray) (nL : Nat) (ret : Option FieldType) (n : Nat) : Prop :=
  zq_cb own idx y cc nL ret n ∧ Cond.instanceMethod y ∈ lw_tbl ∧ Cond.selects y.cls y y ∈ lw_tbl ∧ ∃ q : vw_C, vwCl[ci]? = some q ∧ q.1 = y.cls
def zq_cS (own : String) (idx : Nat) (y : MethodName) (cc : ByteArray) (nL : Nat) (ret : Option FieldType) (n : Nat) : Prop :=
  zq_cb own idx y cc nL ret n ∧ Cond.static y ∈ lw_tbl
section zqCalls
variable {sc : Option (Nat × (Nat → Int32))} {y : MethodName} {own : String} {cc : ByteArray} {nL : Nat} {ret : Option FieldType} {rm : Room} {mc ms n0 : Nat} {res : Option Value × List zq_AC} {pc pc' : Nat} {ls st : List Value} {ws : List zq_AC} {cells slots : Nat}
theorem zq_callB {R : Room} {s : State} {args : Array Value} {idx n : Nat} {y' : MethodName} {cc' : ByteArray} {nL' : Nat} {ret' : Option FieldType} {rm' : Room} {mc' ms' : Nat} (hts : zq_hw args s) (h : zq_cb own idx y' cc' nL' ret' n) (hrc : rm'.cells = mc') (hrs : rm'.slots = ms') (hR : rm'.frames + 1 ≤ R.frames ∧ 8 + (nL' + 11) + rm'.locals ≤ R.locals) :
    CallB R s args own idx y' cc' nL' ret' (Cond.code y' cc' nL' ret' :: lw_tbl.filter goodWord) rm' mc' ms' n := by
  obtain ⟨h1, h2, h3, h4, h5, h6⟩ := h
  refine ⟨hrc, hrs, hR.1, hR.2, ?_, List.mem_cons_self, hts _ h3 rfl, hts _ h2 rfl, ⟨h4, h5⟩, fun sig hs => ?_, hts _ h1 rfl⟩
  · intro w hw a' U hW
    rcases List.mem_cons.mp hw with e | hw
    · subst e
      exact word_at hW (good_of_word (w := Cond.code y' cc' nL' ret') rfl) (hts _ h3 rfl)
    · obtain ⟨m1, m2⟩ := List.mem_filter.mp hw
      exact word_at hW (good_of_word m2) (hts w m1 (by rw [m2]; rfl))
  · rw [hs] at h6
    exact (Option.some.inj h6).symm
/-- how large the heap is, where the world's addresses follow one another -/
theorem zq_hsz {p : Program} {l : Launch} {e : Env} {s : State} {m : MethodId} {args : Array Value} {below : List Frame} {meth : Method} {c : Code} {H : Heap} {locs : List Loc} {D : va_G} {cA : Nat → ClassId} {em : Nat → Nat} {A : Nat → Prop} {la : Array Slot} {T : State}
    (h : zq_C sc mc y own cc nL ret n0 ls ws p s m args meth c H locs D cA em A la) (hmc : mc ≠ 0) (hcnt : cells + n0 = ws.length) (hlen : ws.length ≤ 1000000) (hT : T.heap = H) (X : Stand p l e rm s m args below meth c T locs cells slots) : ∃ base : Nat, H.size = base + ws.length ∧ s.heap.size = base + n0 ∧ ∀ k, k < 1000000 → em k = base + k := by
  obtain ⟨base, hb, hem⟩ := h.2.1.2.2.2.2.2.1 hmc
  refine ⟨base, ?_, hb, hem⟩
  have h1 : T.heap.size ≤ s.heap.size + cells := X.same.2.2.1
  rw [hT] at h1
  have h2 : s.heap.size ≤ H.size := h.2.1.2.2.2.1.1
  by_cases h0 : ws.length = 0
  · omega
  · obtain ⟨x, hx⟩ : ∃ x, ws[ws.length - 1]? = some x := ⟨_, List.getElem?_eq_getElem (by omega)⟩
    have h3 := (h.2.1.2.1 _ _ (zq_wl_get hx)).lt
    have h4 := hem (ws.length - 1) (by omega)
    rw [h4] at h3
    omega
/-- behind a call -/
theorem zq_behind {p : Program} {l : Launch} {e : Env} {s : State} {m : MethodId} {args : Array Value} {below : List Frame} {meth : Method} {c : Code} {H : Heap} {locs : List Loc} {D : va_G} {cA : Nat → ClassId} {em : Nat → Nat} {A : Nat → Prop} {la : Array Slot} {rv : Option Value} {ws' : List zq_AC} {rest st0 : List Value} {a : Array Value} {mc' ms' : Nat}
    (h : zq_C sc mc y own cc nL ret n0 ls ws p s m args meth c H locs D cA em A la)
    (hr : va_Run p l e rm s m args below meth c H locs cells slots mc' ms' (F0 m pc la st0) (rest.map (zq_cv em)) (zq_Q D cA em (va_A (zq_wl cA em ws) H.size) (rv, ws') a) (va_A (zq_wl cA em ws) H.size))
    (K : zq_R sc y own cc nL ret rm mc ms n0 res (pc + 3) ls (rv.toList ++ rest) ws' (cells + mc') (slots + ms')) : W p l e rm s m args below meth c H locs cells slots (zq_Z sc mc ms res below s args D cA em A) (F0 m pc la st0) := by
  obtain ⟨hst, ⟨hK, hP, hD, hS, hA, hal, hsx⟩, hlo⟩ := h
  have hsub : ∀ q, va_A (zq_wl cA em ws) H.size q → A q := by
    rintro q (⟨k, e', hk⟩ | hq)
    · exact hD.2 k _ hk
    · exact hA q (Nat.le_trans hS.1 hq)
  intro T hT X
  obtain ⟨v, st₀, t, T', L, h0, X', hL, e1, e2, ⟨hv, hP', hD', hz, hk⟩, stp⟩ := hr T hT X
  cases hv
  rw [h0] at hz hk
  have hH1 : H.size ≤ T'.heap.size := by rw [e1]; exact hz
  have hoff : ∀ q, q < H.size → ¬ va_A (zq_wl cA em ws) H.size q → T'.heap[q]? = H[q]? := fun q h1 h2 => by rw [e1]; exact hk q h1 h2
  have hS1 : va_S A s.heap T'.heap (locs ++ L) := ⟨Nat.le_trans hS.1 hH1, fun q h1 h2 => by rw [hoff q (Nat.lt_of_lt_of_le h1 hS.1) (fun z => h2 (hsub q z))]; exact hS.2.1 q h1 h2, fun q hq => by
    rcases List.mem_append.mp hq with h | h
    · exact hS.2.2 q h
    · exact hsub _ (hL q h)⟩
  obtain ⟨t2, a1, b1⟩ := K p l e s m args below meth c T'.heap (locs ++ L) D cA em A la ⟨hst, ⟨hK, by rw [e1]; exact hP', hD'.weaken (fun _ _ _ hq => hsub _ hq), hS1, hA, hal, hsx⟩, hlo⟩ T' rfl X'
  refine ⟨t2, stp t2 ?_, b1⟩
  have e3 : (List.map (zq_cv em) (rv.toList ++ rest)) = (rv.map (zq_cv em)).toList ++ rest.map (zq_cv em) := by cases rv <;> rfl
  rw [e3] at a1
  exact a1
theorem zq_blind {D : va_G} {cA : Nat → ClassId} {em : Nat → Nat} {sz mc' : Nat} {av : List Value} : FrameBlind (va_Pc av (fun U => U.heap.size = sz ∧ va_P D vwCl (zq_wl cA em ws) U.heap ∧ va_K D vwCl (zq_ty cA) U ∧ va_D (fun _ => True) (zq_wl cA em ws) ∧ (∀ w ∈ lw_tbl, zq_nest w = true → va_Nw w U) ∧ (mc' ≠ 0 → zq_al em U ws.length))) := by
  intro a U g mk q
  obtain ⟨q0, q1, qP, qK, qD, qN, qA⟩ := q
  exact ⟨q0, q1, qP, va_K.moved (u := U) (U := U.calling g mk a) (Vm.Alike.refl U.vm) qK, qD, fun w hm hn => va_Nw.same (u := U) (U := U.calling g mk a) (zq_nest_tab hn) rfl (qN w hm hn), qA⟩
theorem zq_pre {p : Program} {s : State} {m : MethodId} {args : Array Value} {meth : Method} {c : Code} {H : Heap} {locs : List Loc} {D : va_G} {cA : Nat → ClassId} {em : Nat → Nat} {A : Nat → Prop} {la : Array Slot} {av : List Value} {mc' : Nat} (h : zq_C sc mc y own cc nL ret n0 ls ws p s m args meth c H locs D cA em A la) (hal : mc' ≠ 0 → ∃ base : Nat, H.size = base + ws.length ∧ ∀ k, k < 1000000 → em k = base + k) : ∀ U : State, U.heap = H → s.WarmedH U.vm → va_Pc av (fun U => U.heap.size = H.size ∧ va_P D vwCl (zq_wl cA em ws) U.heap ∧ va_K D vwCl (zq_ty cA) U ∧ va_D (fun _ => True) (zq_wl cA em ws) ∧ (∀ w ∈ lw_tbl, zq_nest w = true → va_Nw w U) ∧ (mc' ≠ 0 → zq_al em U ws.length)) av.toArray U := by
  intro U hU hW
  exact ⟨rfl, by rw [hU], by rw [hU]; exact h.2.1.2.1, va_K.moved hW.alike h.2.1.1, h.2.1.2.2.1.weaken (fun _ _ _ _ => trivial), fun w hm hn => zq_nest_warm hn hW (va_Nw.of (zq_nest_tab hn) (h.1.2.2.2.2.2.2.1 w hm (by rw [hn, Bool.or_true]))), fun hm => by
    obtain ⟨base, h1, h2⟩ := hal hm
    exact ⟨base, by rw [hU]; exact h1, h2⟩⟩
theorem zq_csum (em : Nat → Nat) (rest : List Value) : ((rest.map (zq_cv em)).map fun v => v.category).sum = (rest.map fun v => v.category).sum := by
  rw [List.map_map]
  congr 1
  exact List.map_congr_left (fun v _ => zq_cat em v)
theorem zq_callV {y' : MethodName} {cc' : ByteArray} {nL' : Nat} {ret' : Option FieldType} {rm' : Room} {idx ci n k : Nat} {As rest : List Value} {fs : List Value} {rv : Option Value} {ws' : List zq_AC}
    (cv : zq_cV own idx ci y' cc' nL' ret' n) (hM : zq_MC y' cc' nL' ret' rm' 0 0 (.ref k :: As) ws (rv, ws')) (hk : ws[k]? = some (.inr (ci, fs))) (hn : As.length = n) (hrm : rm'.cells = 0 ∧ rm'.slots = 0 ∧ rm'.frames + 1 ≤ rm.frames ∧ 8 + (nL' + 11) + rm'.locals ≤ rm.locals) (hf : cells ≤ rm.cells ∧ slots ≤ rm.slots) (hst : (rest.map fun v => v.category).sum ≤ 8) (hd : decode cc pc = .ok (.invokevirtual idx, 3)) (hpc : pc + 3 = pc') {st1 : List Value} (hs1 : st1 = As.reverse ++ .ref k :: rest)
    (K : zq_R sc y own cc nL ret rm mc ms n0 res pc' ls (rv.toList ++ rest) ws' cells slots) : zq_R sc y own cc nL ret rm mc ms n0 res pc ls st1 ws cells slots := by
  subst hpc
  subst hs1
  intro p l e s m args below meth c H locs D cA em A la h
  obtain ⟨cb, hin, hse, q, hq, hqC⟩ := cv
  have hts := h.1.2.2.2.2.2.2.1
  refine zq_behind (mc' := 0) (ms' := 0) h (a := (Value.ref (em k) :: As.map (zq_cv em)).toArray) ?_ K
  refine va_runV (Ts := []) (As := As.map (zq_cv em)) (rest := rest.map (zq_cv em)) (b := em k) (C := y'.cls) ⟨h.1.1, h.1.2.1, h.1.2.2.1, h.1.2.2.2.2.2.1, fun _ z => absurd z List.not_mem_nil⟩ (hM l D cA em H.size) ⟨zq_callB hts cb hrm.1 hrm.2.1 hrm.2.2, hts _ hin rfl, hts _ hse rfl⟩ ⟨zq_blind, ?_, zq_pre h (fun z => absurd rfl z)⟩ rfl (by simpa using hn) h.2.2.1 ?_ (lv_room (by rw [zq_csum]; exact hst)) hd ⟨hf.1, hf.2⟩
  · have hr := va_recv h.2.1.1 h.2.1.2.1 hq (zq_wl_get hk)
    rw [hqC] at hr
    exact hr
  · show (As.reverse ++ Value.ref k :: rest).map (zq_cv em) = (As.map (zq_cv em)).reverse ++ Value.ref (em k) :: rest.map (zq_cv em)
    rw [List.map_append, List.map_reverse]
    rfl
theorem zq_callS {y' : MethodName} {cc' : ByteArray} {nL' : Nat} {ret' : Option FieldType} {rm' : Room} {idx n : Nat} {As rest : List Value} {rv : Option Value} {ws' : List zq_AC}
    (cv : zq_cS own idx y' cc' nL' ret' n) (hM : zq_MC y' cc' nL' ret' rm' 0 0 As ws (rv, ws')) (hn : As.length = n) (hrm : rm'.cells = 0 ∧ rm'.slots = 0 ∧ rm'.frames + 1 ≤ rm.frames ∧ 8 + (nL' + 11) + rm'.locals ≤ rm.locals) (hf : cells ≤ rm.cells ∧ slots ≤ rm.slots) (hst : (rest.map fun v => v.category).sum ≤ 8) (hd : decode cc pc = .ok (.invokestatic idx, 3)) (hpc : pc + 3 = pc') {st1 : List Value} (hs1 : st1 = As.reverse ++ rest)
    (K : zq_R sc y own cc nL ret rm mc ms n0 res pc' ls (rv.toList ++ rest) ws' cells slots) : zq_R sc y own cc nL ret rm mc ms n0 res pc ls st1 ws cells slots := by
  subst hpc
  subst hs1
  intro p l e s m args below meth c H locs D cA em A la h
  obtain ⟨cb, hstt⟩ := cv
  have hts := h.1.2.2.2.2.2.2.1
  refine zq_behind (mc' := 0) (ms' := 0) h (a := (As.map (zq_cv em)).toArray) ?_ K
  refine va_runS (Ts := []) (As := As.map (zq_cv em)) (rest := rest.map (zq_cv em)) ⟨h.1.1, h.1.2.1, h.1.2.2.1, h.1.2.2.2.2.2.1, fun _ z => absurd z List.not_mem_nil⟩ (hM l D cA em H.size) ⟨zq_callB hts cb hrm.1 hrm.2.1 hrm.2.2, hts _ hstt rfl⟩ ⟨zq_blind, zq_pre h (fun z => absurd rfl z)⟩ rfl (by simpa using hn) h.2.2.1 ?_ (lv_room (by rw [zq_csum]; exact hst)) hd ⟨hf.1, hf.2⟩
  show (As.reverse ++ rest).map (zq_cv em) = (As.map (zq_cv em)).reverse ++ rest.map (zq_cv em)
  rw [List.map_append, List.map_reverse]
end zqCalls
