abbrev zq_S : Type := (Nat → Nat → Int32) × (Nat → Bool) × (Nat → Nat → Int32) × (Nat → Nat → Int64)
def zgf (s : zq_S) (k j : Nat) : Int32 := s.1 k j
def zgb (s : zq_S) (i : Nat) : Bool := s.2.1 i
def zga (s : zq_S) (k : Nat) (i : Int32) : Int32 := s.2.2.1 k i.toNatClampNeg
def zgl (s : zq_S) (k : Nat) (i : Int32) : Int64 := s.2.2.2 k i.toNatClampNeg
def zpf (s : zq_S) (k j : Nat) (v : Int32) : zq_S := (fun a b => if a = k ∧ b = j then v else s.1 a b, s.2)
def zpb (s : zq_S) (i : Nat) (b : Bool) : zq_S := (s.1, fun a => if a = i then b else s.2.1 a, s.2.2)
def zsA (s : zq_S) (k : Nat) (f : Nat → Int32) : zq_S := (s.1, s.2.1, fun a => if a = k then f else s.2.2.1 a, s.2.2.2)
def zsL (s : zq_S) (k : Nat) (f : Nat → Int64) : zq_S := (s.1, s.2.1, s.2.2.1, fun a => if a = k then f else s.2.2.2 a)
def zpa (s : zq_S) (k : Nat) (i v : Int32) : zq_S := zsA s k (upd (s.2.2.1 k) i.toNatClampNeg v)
def zpab (s : zq_S) (k : Nat) (i v : Int32) : zq_S := zsA s k (upd (s.2.2.1 k) i.toNatClampNeg (vp_nar .byte v))
def zpaz (s : zq_S) (k : Nat) (i v : Int32) : zq_S := zsA s k (upd (s.2.2.1 k) i.toNatClampNeg (vp_nar .boolean v))
def zpl (s : zq_S) (k : Nat) (i : Int32) (v : Int64) : zq_S := zsL s k (vp_updL (s.2.2.2 k) i.toNatClampNeg v)
def zpfi (s : zq_S) (k n : Nat) (v : Int32) : zq_S := zsA s k (fun j => if j < n then v else s.2.2.1 k j)
def zpfl (s : zq_S) (k n : Nat) (v : Int64) : zq_S := zsL s k (fun j => if j < n then v else s.2.2.2 k j)
def zpcl (s : zq_S) (k0 : Nat) (sp : Int32) (k1 : Nat) (dp n : Int32) : zq_S := zsL s k1 (va_cpy (s.2.2.2 k0) (s.2.2.2 k1) sp.toNatClampNeg dp.toNatClampNeg n.toNatClampNeg)
def zs (b : Bool) : Nat := match b with
  | false => 2
  | true => 14
def zf (b : Bool) : Nat := match b with
  | false => 39
  | true => 51
def zfP (b : Bool) : Nat := match b with
  | false => 5120
  | true => 25
def zfS (b : Bool) : Nat := match b with
  | false => 1024
  | true => 5
def zq_ck {α : Type} (i : Int32) (n : Nat) (c : Option α) : Option α := if i < 0 ∨ n ≤ i.toNatClampNeg then none else c
def zq_let {α β : Type} (e : α) (f : α → β) : β := f e
def zq_b2 {α β : Type} (o : Option (α × zq_S)) (f : α → zq_S → Option β) : Option β := match o with
  | some v => f v.1 v.2
  | none => none
def zq_loop {α β : Type} (b : (α → Option β) → α → Option β) : Nat → α → Option β
  | 0, _ => none
  | n + 1, v => b (zq_loop b n) v
def zq_bz {α : Type} (x : Int32) (c : Option α) : Option α := if x = 0 ∨ x = 1 then c else none
def zq_nz {α : Type} (z : Int64) (c : Option α) : Option α := if z = 0 then none else c
def zq_cc {α : Type} (sp : Int32) (n0 : Nat) (dp : Int32) (n1 : Nat) (n : Int32) (c : Option α) : Option α := if ¬ sp < 0 ∧ ¬ dp < 0 ∧ ¬ n < 0 ∧ sp.toNatClampNeg + n.toNatClampNeg ≤ n0 ∧ dp.toNatClampNeg + n.toNatClampNeg ≤ n1 then c else none
def zq_sh : List ((Nat × Nat) ⊕ (Nat × List (Nat × Nat))) := [.inr (11, [(1, 26), (1, 31), (1, 38), (1, 42), (1, 44), (1, 46), (1, 49), (1, 51), (1, 56), (1, 54), (2, 0), (2, 1), (0, 0)]),
  .inl (3, 4096),
  .inr (7, [(1, 3), (0, 0), (0, 0), (1, 4), (1, 5), (1, 6), (0, 0), (0, 0), (0, 0), (1, 7), (1, 8), (1, 9), (1, 10), (1, 11), (1, 12), (1, 13)]),
  .inl (1, 400),
  .inl (0, 100),
  .inl (0, 100),
  .inl (0, 100),
  .inl (0, 10),
  .inl (0, 10),
  .inl (0, 10),
  .inl (0, 10),
  .inl (0, 10),
  .inl (0, 10),
  .inl (0, 10),
  .inr (7, [(1, 15), (0, 0), (0, 0), (1, 16), (1, 17), (1, 18), (0, 0), (0, 0), (0, 0), (1, 19), (1, 20), (1, 21), (1, 22), (1, 23), (1, 24), (1, 25)]),
  .inl (1, 400),
  .inl (0, 100),
  .inl (0, 100),
  .inl (0, 100),
  .inl (0, 10),
  .inl (0, 10),
  .inl (0, 10),
  .inl (0, 10),
  .inl (0, 10),
  .inl (0, 10),
  .inl (0, 10),
  .inr (5, [(1, 27), (0, 0), (0, 0), (2, 2), (0, 0), (1, 28), (0, 0), (0, 0), (0, 0), (0, 0), (1, 29), (1, 30)]),
  .inl (1, 400),
  .inl (0, 8),
  .inl (0, 10),
  .inl (0, 10),
  .inr (3, [(2, 3), (1, 32), (1, 33), (1, 34), (1, 35), (1, 36), (1, 37), (0, 0), (0, 0), (0, 0)]),
  .inl (0, 10),
  .inl (0, 4),
  .inl (0, 10),
  .inl (0, 10),
  .inl (0, 10),
  .inl (0, 1024),
  .inr (9, [(1, 39), (2, 4)]),
  .inr (8, [(0, 0), (1, 40), (1, 41)]),
  .inl (3, 5120),
  .inl (0, 1024),
  .inr (0, [(1, 43), (0, 0)]),
  .inl (3, 200),
  .inr (4, [(1, 31), (1, 38), (1, 42), (1, 1), (1, 45), (0, 0)]),
  .inl (3, 1024),
  .inr (6, [(1, 31), (1, 38), (1, 42), (1, 1), (1, 47), (1, 48), (0, 0), (0, 0)]),
  .inl (0, 10),
  .inl (3, 4),
  .inr (10, [(1, 31), (1, 38), (1, 1), (1, 50), (0, 0), (0, 0)]),
  .inl (0, 1024),
  .inr (8, [(0, 0), (1, 52), (1, 53)]),
  .inl (3, 25),
  .inl (0, 5),
  .inr (2, [(1, 55)]),
  .inl (3, 100),
  .inr (1, [(1, 31), (1, 38), (1, 51), (1, 54), (1, 1), (0, 0)]),
  .inr (12, [(0, 0), (1, 58), (1, 59), (1, 60), (1, 61), (0, 0), (0, 0), (1, 62), (1, 63), (1, 64), (1, 65), (1, 66), (1, 67), (1, 68), (1, 69), (1, 70), (0, 0), (0, 0), (0, 0), (0, 0), (0, 0), (0, 0), (1, 71), (1, 72), (1, 73), (1, 74), (1, 75), (0, 0), (0, 0), (0, 0), (0, 0), (0, 0), (1, 76), (0, 0), (0, 0), (1, 77), (0, 0), (0, 0), (1, 78), (1, 79), (1, 80), (1, 81), (1, 82), (1, 83), (0, 0), (1, 84), (1, 85), (1, 86), (1, 87), (1, 88), (1, 89), (1, 90), (0, 0), (1, 91), (0, 0), (1, 92), (1, 93), (1, 94), (1, 95), (0, 0), (1, 96), (1, 97)]),
  .inl (0, 400),
  .inl (0, 400),
  .inl (0, 400),
  .inl (0, 400),
  .inl (0, 10),
  .inl (0, 10),
  .inl (0, 10),
  .inl (0, 10),
  .inl (0, 10),
  .inl (0, 10),
  .inl (0, 10),
  .inl (2, 16),
  .inl (0, 400),
  .inl (0, 400),
  .inl (0, 400),
  .inl (0, 400),
  .inl (0, 400),
  .inl (0, 400),
  .inl (0, 8),
  .inl (0, 1600),
  .inl (2, 1024),
  .inl (0, 1024),
  .inl (3, 1024),
  .inl (3, 1024),
  .inl (0, 4096),
  .inl (0, 4096),
  .inl (0, 1024),
  .inl (0, 40960),
  .inl (3, 1024),
  .inl (0, 1024),
  .inl (0, 40),
  .inl (0, 40),
  .inl (0, 41),
  .inl (0, 40),
  .inl (0, 4),
  .inl (0, 160),
  .inl (3, 4096),
  .inl (3, 4096),
  .inl (2, 10000),
  .inl (3, 1024)]
def zq_fv (s : zq_S) (k j : Nat) (c : Nat × Nat) : Value := match c.1 with
  | 0 => .int (s.1 k j)
  | 1 => .ref c.2
  | _ => .ref (zs (s.2.1 c.2))
def zq_ec (s : zq_S) (k : Nat) (x : (Nat × Nat) ⊕ (Nat × List (Nat × Nat))) : zq_AC := match x with
  | .inl a => .inl (a.1, a.2, if a.1 = 3 then .inr (.inl (s.2.2.2 k)) else .inl (s.2.2.1 k))
  | .inr c => .inr (c.1, c.2.mapIdx (fun j q => zq_fv s k j q))
def zq_en (s : zq_S) : List zq_AC := zq_sh.mapIdx (fun k x => zq_ec s k x)
theorem zq_en_len (s : zq_S) : (zq_en s).length = 98 := by rw [zq_en, List.length_mapIdx]; rfl
theorem zq_en_get {s : zq_S} {k : Nat} {x : (Nat × Nat) ⊕ (Nat × List (Nat × Nat))} (h : zq_sh[k]? = some x) : (zq_en s)[k]? = some (zq_ec s k x) := by
  rw [zq_en, List.getElem?_mapIdx, h]
  rfl
theorem zq_en_ext {s s' : zq_S} {k : Nat} {x : (Nat × Nat) ⊕ (Nat × List (Nat × Nat))} {c : zq_AC} (h : zq_sh[k]? = some x) (hk : zq_ec s' k x = c) (ho : ∀ j z, j ≠ k → zq_sh[j]? = some z → zq_ec s' j z = zq_ec s j z) : (zq_en s).set k c = zq_en s' := by
  apply List.ext_getElem?
  intro i
  by_cases e : i = k
  · subst e
    have hl : i < (zq_en s).length := by
      rw [zq_en, List.length_mapIdx]
      exact (List.getElem?_eq_some_iff.mp h).1
    rw [List.getElem?_set_self hl, zq_en_get h, hk]
  · rw [List.getElem?_set_ne (Ne.symm e)]
    rw [zq_en, zq_en, List.getElem?_mapIdx, List.getElem?_mapIdx]
    cases hz : zq_sh[i]? with
    | none => rfl
    | some z => show some (zq_ec s i z) = some (zq_ec s' i z); rw [ho i z e hz]
def zq_fd (k ci j : Nat) (c : Nat × Nat) : Prop := ∃ fts : List (Nat × Nat), zq_sh[k]? = some (.inr (ci, fts)) ∧ fts[j]? = some c
def zq_ob (k ci : Nat) : Prop := ∃ fts : List (Nat × Nat), zq_sh[k]? = some (.inr (ci, fts))
theorem zq_fv_pf {s : zq_S} {k j a b : Nat} {v : Int32} {c : Nat × Nat} (h : ¬ (a = k ∧ b = j)) : zq_fv (zpf s k j v) a b c = zq_fv s a b c := by
  unfold zq_fv zpf
  split
  · simp only [if_neg h]
  · rfl
  · rfl
theorem zq_en_pf {s : zq_S} {k ci j x : Nat} {fts : List (Nat × Nat)} {v : Int32} (h : zq_sh[k]? = some (.inr (ci, fts))) (hj : fts[j]? = some (0, x)) : (zq_en s).set k (.inr (ci, (fts.mapIdx (fun j q => zq_fv s k j q)).set j (.int v))) = zq_en (zpf s k j v) := by
  refine zq_en_ext h ?_ ?_
  · show Sum.inr (ci, fts.mapIdx (fun b q => zq_fv (zpf s k j v) k b q)) = _
    congr 2
    apply List.ext_getElem?
    intro i
    by_cases e : i = j
    · subst e
      rw [List.getElem?_set_self (by rw [List.length_mapIdx]; exact (List.getElem?_eq_some_iff.mp hj).1), List.getElem?_mapIdx, hj]
      show some (zq_fv (zpf s k i v) k i (0, x)) = _
      simp [zq_fv, zpf]
    · rw [List.getElem?_set_ne (Ne.symm e), List.getElem?_mapIdx, List.getElem?_mapIdx]
      cases fts[i]? with
      | none => rfl
      | some q => show some (zq_fv (zpf s k j v) k i q) = some (zq_fv s k i q); rw [zq_fv_pf (fun z => e z.2)]
  · intro a z ha hz
    cases z with
    | inl q => rfl
    | inr q =>
      show Sum.inr (q.1, q.2.mapIdx (fun b c => zq_fv (zpf s k j v) a b c)) = Sum.inr (q.1, q.2.mapIdx (fun b c => zq_fv s a b c))
      have e9 : (fun b c => zq_fv (zpf s k j v) a b c) = (fun b c => zq_fv s a b c) := by
        funext b c
        exact zq_fv_pf (fun z => ha z.1)
      rw [e9]
theorem zq_en_sA {s : zq_S} {k kd n : Nat} {f : Nat → Int32} (h : zq_sh[k]? = some (.inl (kd, n))) (hk : kd ≠ 3) : (zq_en s).set k (.inl (kd, n, .inl f)) = zq_en (zsA s k f) := by
  refine zq_en_ext h ?_ ?_
  · show Sum.inl (kd, n, if kd = 3 then _ else Sum.inl ((zsA s k f).2.2.1 k)) = _
    rw [if_neg hk]
    simp [zsA]
  · intro a z ha hz
    cases z with
    | inl q =>
      show Sum.inl (q.1, q.2, if q.1 = 3 then Sum.inr (Sum.inl (s.2.2.2 a)) else Sum.inl ((zsA s k f).2.2.1 a)) = Sum.inl (q.1, q.2, if q.1 = 3 then Sum.inr (Sum.inl (s.2.2.2 a)) else Sum.inl (s.2.2.1 a))
      have : (zsA s k f).2.2.1 a = s.2.2.1 a := by simp [zsA, ha]
      rw [this]
    | inr q => rfl
theorem zq_en_sL {s : zq_S} {k n : Nat} {f : Nat → Int64} (h : zq_sh[k]? = some (.inl (3, n))) : (zq_en s).set k (.inl (3, n, .inr (.inl f))) = zq_en (zsL s k f) := by
  refine zq_en_ext h ?_ ?_
  · show Sum.inl (3, n, if 3 = 3 then Sum.inr (Sum.inl ((zsL s k f).2.2.2 k)) else _) = _
    rw [if_pos rfl]
    simp [zsL]
  · intro a z ha hz
    cases z with
    | inl q =>
      show Sum.inl (q.1, q.2, if q.1 = 3 then Sum.inr (Sum.inl ((zsL s k f).2.2.2 a)) else Sum.inl (s.2.2.1 a)) = Sum.inl (q.1, q.2, if q.1 = 3 then Sum.inr (Sum.inl (s.2.2.2 a)) else Sum.inl (s.2.2.1 a))
      have : (zsL s k f).2.2.2 a = s.2.2.2 a := by simp [zsL, ha]
      rw [this]
    | inr q => rfl
/-- pointer p is field j of cell k, and no other field -/
def zq_pt (p k ci j : Nat) : Prop := zq_fd k ci j (2, p) ∧ (zq_sh.zipIdx.all (fun q => match q.1 with
  | .inl _ => true
  | .inr c => c.2.zipIdx.all (fun r => decide (r.1 ≠ (2, p)) && decide (r.1.1 ≤ 2) || (decide (q.2 = k) && decide (r.2 = j))))) = true
theorem zq_en_pb {s : zq_S} {p k ci j : Nat} {b : Bool} {fts : List (Nat × Nat)} (hp : zq_pt p k ci j) (h : zq_sh[k]? = some (.inr (ci, fts))) (hj : fts[j]? = some (2, p)) : (zq_en s).set k (.inr (ci, (fts.mapIdx (fun j q => zq_fv s k j q)).set j (.ref (zs b)))) = zq_en (zpb s p b) := by
  have key : ∀ (a i : Nat) (c : Nat × List (Nat × Nat)) (q : Nat × Nat), zq_sh[a]? = some (.inr c) → c.2[i]? = some q → ¬ (a = k ∧ i = j) → zq_fv (zpb s p b) a i q = zq_fv s a i q := by
    intro a i c q ha hi hne
    have h1 := List.all_eq_true.mp hp.2 (.inr c, a) (List.mem_zipIdx_iff_getElem?.mpr ha)
    have h2 := List.all_eq_true.mp h1 (q, i) (List.mem_zipIdx_iff_getElem?.mpr hi)
    simp only [Bool.or_eq_true, Bool.and_eq_true, decide_eq_true_eq] at h2
    rcases h2 with h2 | h2
    · obtain ⟨q1, q2⟩ := q
      unfold zq_fv zpb
      dsimp only
      have h3 : q1 = 0 ∨ q1 = 1 ∨ q1 = 2 := by have := h2.2; dsimp only at this; omega
      rcases h3 with rfl | rfl | rfl
      · rfl
      · rfl
      · have h4 : q2 ≠ p := fun z => h2.1 (by rw [z])
        simp [h4]
    · exact absurd h2 hne
  refine zq_en_ext h ?_ ?_
  · show Sum.inr (ci, fts.mapIdx (fun b' q => zq_fv (zpb s p b) k b' q)) = _
    congr 2
    apply List.ext_getElem?
    intro i
    by_cases e : i = j
    · subst e
      rw [List.getElem?_set_self (by rw [List.length_mapIdx]; exact (List.getElem?_eq_some_iff.mp hj).1), List.getElem?_mapIdx, hj]
      show some (zq_fv (zpb s p b) k i (2, p)) = _
      simp [zq_fv, zpb]
    · rw [List.getElem?_set_ne (Ne.symm e), List.getElem?_mapIdx, List.getElem?_mapIdx]
      cases hq : fts[i]? with
      | none => rfl
      | some q => show some (zq_fv (zpb s p b) k i q) = some (zq_fv s k i q); rw [key k i (ci, fts) q h hq (fun z => e z.2)]
  · intro a z ha hz
    cases z with
    | inl q => rfl
    | inr q =>
      show Sum.inr (q.1, q.2.mapIdx (fun b' c => zq_fv (zpb s p b) a b' c)) = Sum.inr (q.1, q.2.mapIdx (fun b' c => zq_fv s a b' c))
      congr 2
      apply List.ext_getElem?
      intro i
      rw [List.getElem?_mapIdx, List.getElem?_mapIdx]
      cases hq : q.2[i]? with
      | none => rfl
      | some c => show some (zq_fv (zpb s p b) a i c) = some (zq_fv s a i c); rw [key a i q c hz hq (fun z => ha z.1)]
def zq_X {ρ : Type} (y : MethodName) (own : String) (cc : ByteArray) (nL : Nat) (ret : Option FieldType) (rm : Room) (rv : ρ → Option Value) (pc : Nat) (ls st : List Value) (s : zq_S) (code : Option (ρ × zq_S)) : Prop :=
  ∀ v, code = some v → zq_R none y own cc nL ret rm 0 0 98 (rv v.1, zq_en v.2) pc ls st (zq_en s) 0 0
def zv_i (r : Int32) : Option Value := some (.int r)
def zv_l (r : Int64) : Option Value := some (.long r)
def zv_v (_ : Unit) : Option Value := none
def zv_w (_ : Unit) : Option Value := some (.ref (zf false))
def zq_le : List Value → List Value → Prop
  | [], _ => True
  | _ :: _, [] => False
  | a :: l, b :: m => (a = .null ∨ a = b) ∧ zq_le l m
theorem zq_cn {m : List Value} : zq_le [] m := trivial
theorem zq_cr {a : Value} {l m : List Value} (h : zq_le l m) : zq_le (a :: l) (a :: m) := ⟨Or.inr rfl, h⟩
theorem zq_cz {b : Value} {l m : List Value} (h : zq_le l m) : zq_le (.null :: l) (b :: m) := ⟨Or.inl rfl, h⟩
theorem zq_le_get : ∀ {l m : List Value}, zq_le l m → ∀ (i : Nat) (v : Value), l[i]? = some v → v ≠ .null → m[i]? = some v
  | [], _, _, i, v, h, _ => by simp at h
  | _ :: _, [], hl, _, _, _, _ => absurd hl (by simp [zq_le])
  | a :: l, b :: m, hl, 0, v, h, hv => by
    simp at h
    subst h
    rcases hl.1 with e | e
    · exact absurd e hv
    · simp [e]
  | a :: l, b :: m, hl, i + 1, v, h, hv => by
    simpa using zq_le_get hl.2 i v (by simpa using h) hv
section zxRules
variable {ρ : Type} {y : MethodName} {own : String} {cc : ByteArray} {nL : Nat} {ret : Option FieldType} {rm : Room} {rv : ρ → Option Value} {pc pc' : Nat} {ls st : List Value} {s : zq_S} {code : Option (ρ × zq_S)}
theorem zx_lift {pc' : Nat} {ls' st' : List Value} (f : ∀ res, zq_R none y own cc nL ret rm 0 0 98 res pc' ls' st' (zq_en s) 0 0 → zq_R none y own cc nL ret rm 0 0 98 res pc ls st (zq_en s) 0 0) (K : zq_X y own cc nL ret rm rv pc' ls' st' s code) : zq_X y own cc nL ret rm rv pc ls st s code := fun v h => f _ (K v h)
theorem zx_less (ls' : List Value) (hl : zq_le ls' ls) (K : zq_X y own cc nL ret rm rv pc ls' st s code) : zq_X y own cc nL ret rm rv pc ls st s code := fun v h => zq_less ls' (zq_le_get hl) (K v h)
theorem zx_lessJ {ls' : List Value} (hl : zq_le ls' ls) (K : zq_X y own cc nL ret rm rv pc ls' st s code) : zq_X y own cc nL ret rm rv pc ls st s code := fun v h => zq_less ls' (zq_le_get hl) (K v h)
theorem zx_ite {c : Prop} [Decidable c] {a b : Option (ρ × zq_S)} (Kt : c → zq_X y own cc nL ret rm rv pc ls st s a) (Kf : ¬ c → zq_X y own cc nL ret rm rv pc ls st s b) : zq_X y own cc nL ret rm rv pc ls st s (if c then a else b) := by
  intro v h
  by_cases hc : c
  · rw [if_pos hc] at h; exact Kt hc v h
  · rw [if_neg hc] at h; exact Kf hc v h
theorem zx_litE {α : Type} {c : Prop} [Decidable c] {a b : α} {f : α → Option (ρ × zq_S)} (Kt : c → zq_X y own cc nL ret rm rv pc ls st s (zq_let a f)) (Kf : ¬ c → zq_X y own cc nL ret rm rv pc ls st s (zq_let b f)) : zq_X y own cc nL ret rm rv pc ls st s (zq_let (if c then a else b) f) := by
  intro v h
  by_cases hc : c
  · rw [if_pos hc] at h; exact Kt hc v h
  · rw [if_neg hc] at h; exact Kf hc v h
theorem zx_loop {α : Type} {lsH : α → List Value} {sH : α → zq_S} {b : (α → Option (ρ × zq_S)) → α → Option (ρ × zq_S)} (h : ∀ self : α → Option (ρ × zq_S), (∀ v, zq_X y own cc nL ret rm rv pc (lsH v) [] (sH v) (self v)) → ∀ v, zq_X y own cc nL ret rm rv pc (lsH v) [] (sH v) (b self v)) (N : Nat) (v : α) : zq_X y own cc nL ret rm rv pc (lsH v) [] (sH v) (zq_loop b N v) := by
  induction N generalizing v with
  | zero => intro u hu; cases hu
  | succ n ih => exact h (zq_loop b n) ih v
theorem zx_tern {α : Type} {e : α} {f : α → Option (ρ × zq_S)} {pcJ : Nat} {lsJ stJ : α → List Value} (h1 : ∀ x, zq_X y own cc nL ret rm rv pcJ (lsJ x) (stJ x) s (f x)) (h2 : ∀ f : α → Option (ρ × zq_S), (∀ x, zq_X y own cc nL ret rm rv pcJ (lsJ x) (stJ x) s (f x)) → zq_X y own cc nL ret rm rv pc ls st s (zq_let e f)) : zq_X y own cc nL ret rm rv pc ls st s (zq_let e f) := h2 f h1
theorem zx_nz {z : Int64} (K : ¬ z = 0 → zq_X y own cc nL ret rm rv pc ls st s code) : zq_X y own cc nL ret rm rv pc ls st s (zq_nz z code) := by
  intro v h
  unfold zq_nz at h
  by_cases hc : z = 0
  · rw [if_pos hc] at h; cases h
  · rw [if_neg hc] at h; exact K hc v h
theorem zq_ck_some {α : Type} {i : Int32} {n : Nat} {c : Option α} {v : α} (h : zq_ck i n c = some v) : vp_in i n ∧ c = some v := by
  unfold zq_ck at h
  by_cases hc : i < 0 ∨ n ≤ i.toNatClampNeg
  · rw [if_pos hc] at h; cases h
  · rw [if_neg hc] at h; exact ⟨hc, h⟩
theorem zx_if_eq {x : Int32} {off : Int} {tgt : Nat} {a b : Option (ρ × zq_S)} (hd : decode cc pc = .ok (.ifCond .eq off, 3)) (ht : (pc : Int) + off = (tgt : Int)) (hn : pc + 3 = pc') (Kt : x = 0 → zq_X y own cc nL ret rm rv tgt ls st s a) (Kf : ¬ (x = 0) → zq_X y own cc nL ret rm rv pc' ls st s b) : zq_X y own cc nL ret rm rv pc ls (.int x :: st) s (if x = 0 then a else b) := by
  refine zx_ite (fun hc => ?_) (fun hc => ?_)
  · exact fun v h => zq_if_eq hd ht hn (fun _ => Kt hc v h) (fun q => absurd hc q)
  · exact fun v h => zq_if_eq hd ht hn (fun q => absurd q hc) (fun _ => Kf hc v h)
theorem zx_lif_eq {x : Int32} {off : Int} {tgt : Nat} {α : Type} {a b : α} {f : α → Option (ρ × zq_S)} (hd : decode cc pc = .ok (.ifCond .eq off, 3)) (ht : (pc : Int) + off = (tgt : Int)) (hn : pc + 3 = pc') (Kt : x = 0 → zq_X y own cc nL ret rm rv tgt ls st s (zq_let a f)) (Kf : ¬ (x = 0) → zq_X y own cc nL ret rm rv pc' ls st s (zq_let b f)) : zq_X y own cc nL ret rm rv pc ls (.int x :: st) s (zq_let (if x = 0 then a else b) f) := by
  refine zx_litE (fun hc => ?_) (fun hc => ?_)
  · exact fun v h => zq_if_eq hd ht hn (fun _ => Kt hc v h) (fun q => absurd hc q)
  · exact fun v h => zq_if_eq hd ht hn (fun q => absurd q hc) (fun _ => Kf hc v h)
theorem zx_if_ne {x : Int32} {off : Int} {tgt : Nat} {a b : Option (ρ × zq_S)} (hd : decode cc pc = .ok (.ifCond .ne off, 3)) (ht : (pc : Int) + off = (tgt : Int)) (hn : pc + 3 = pc') (Kt : ¬ (x = 0) → zq_X y own cc nL ret rm rv tgt ls st s b) (Kf : x = 0 → zq_X y own cc nL ret rm rv pc' ls st s a) : zq_X y own cc nL ret rm rv pc ls (.int x :: st) s (if x = 0 then a else b) := by
  refine zx_ite (fun hc => ?_) (fun hc => ?_)
  · exact fun v h => zq_if_ne hd ht hn (fun q => absurd hc q) (fun _ => Kf hc v h)
  · exact fun v h => zq_if_ne hd ht hn (fun _ => Kt hc v h) (fun q => absurd q hc)
theorem zx_lif_ne {x : Int32} {off : Int} {tgt : Nat} {α : Type} {a b : α} {f : α → Option (ρ × zq_S)} (hd : decode cc pc = .ok (.ifCond .ne off, 3)) (ht : (pc : Int) + off = (tgt : Int)) (hn : pc + 3 = pc') (Kt : ¬ (x = 0) → zq_X y own cc nL ret rm rv tgt ls st s (zq_let b f)) (Kf : x = 0 → zq_X y own cc nL ret rm rv pc' ls st s (zq_let a f)) : zq_X y own cc nL ret rm rv pc ls (.int x :: st) s (zq_let (if x = 0 then a else b) f) := by
  refine zx_litE (fun hc => ?_) (fun hc => ?_)
  · exact fun v h => zq_if_ne hd ht hn (fun q => absurd hc q) (fun _ => Kf hc v h)
  · exact fun v h => zq_if_ne hd ht hn (fun _ => Kt hc v h) (fun q => absurd q hc)
theorem zx_if_lt {x : Int32} {off : Int} {tgt : Nat} {a b : Option (ρ × zq_S)} (hd : decode cc pc = .ok (.ifCond .lt off, 3)) (ht : (pc : Int) + off = (tgt : Int)) (hn : pc + 3 = pc') (Kt : x < 0 → zq_X y own cc nL ret rm rv tgt ls st s a) (Kf : ¬ (x < 0) → zq_X y own cc nL ret rm rv pc' ls st s b) : zq_X y own cc nL ret rm rv pc ls (.int x :: st) s (if x < 0 then a else b) := by
  refine zx_ite (fun hc => ?_) (fun hc => ?_)
  · exact fun v h => zq_if_lt hd ht hn (fun _ => Kt hc v h) (fun q => absurd hc q)
  · exact fun v h => zq_if_lt hd ht hn (fun q => absurd q hc) (fun _ => Kf hc v h)
theorem zx_lif_lt {x : Int32} {off : Int} {tgt : Nat} {α : Type} {a b : α} {f : α → Option (ρ × zq_S)} (hd : decode cc pc = .ok (.ifCond .lt off, 3)) (ht : (pc : Int) + off = (tgt : Int)) (hn : pc + 3 = pc') (Kt : x < 0 → zq_X y own cc nL ret rm rv tgt ls st s (zq_let a f)) (Kf : ¬ (x < 0) → zq_X y own cc nL ret rm rv pc' ls st s (zq_let b f)) : zq_X y own cc nL ret rm rv pc ls (.int x :: st) s (zq_let (if x < 0 then a else b) f) := by
  refine zx_litE (fun hc => ?_) (fun hc => ?_)
  · exact fun v h => zq_if_lt hd ht hn (fun _ => Kt hc v h) (fun q => absurd hc q)
  · exact fun v h => zq_if_lt hd ht hn (fun q => absurd q hc) (fun _ => Kf hc v h)
theorem zx_if_ge {x : Int32} {off : Int} {tgt : Nat} {a b : Option (ρ × zq_S)} (hd : decode cc pc = .ok (.ifCond .ge off, 3)) (ht : (pc : Int) + off = (tgt : Int)) (hn : pc + 3 = pc') (Kt : 0 ≤ x → zq_X y own cc nL ret rm rv tgt ls st s a) (Kf : ¬ (0 ≤ x) → zq_X y own cc nL ret rm rv pc' ls st s b) : zq_X y own cc nL ret rm rv pc ls (.int x :: st) s (if 0 ≤ x then a else b) := by
  refine zx_ite (fun hc => ?_) (fun hc => ?_)
  · exact fun v h => zq_if_ge hd ht hn (fun _ => Kt hc v h) (fun q => absurd hc q)
  · exact fun v h => zq_if_ge hd ht hn (fun q => absurd q hc) (fun _ => Kf hc v h)
theorem zx_lif_ge {x : Int32} {off : Int} {tgt : Nat} {α : Type} {a b : α} {f : α → Option (ρ × zq_S)} (hd : decode cc pc = .ok (.ifCond .ge off, 3)) (ht : (pc : Int) + off = (tgt : Int)) (hn : pc + 3 = pc') (Kt : 0 ≤ x → zq_X y own cc nL ret rm rv tgt ls st s (zq_let a f)) (Kf : ¬ (0 ≤ x) → zq_X y own cc nL ret rm rv pc' ls st s (zq_let b f)) : zq_X y own cc nL ret rm rv pc ls (.int x :: st) s (zq_let (if 0 ≤ x then a else b) f) := by
  refine zx_litE (fun hc => ?_) (fun hc => ?_)
  · exact fun v h => zq_if_ge hd ht hn (fun _ => Kt hc v h) (fun q => absurd hc q)
  · exact fun v h => zq_if_ge hd ht hn (fun q => absurd q hc) (fun _ => Kf hc v h)
theorem zx_if_gt {x : Int32} {off : Int} {tgt : Nat} {a b : Option (ρ × zq_S)} (hd : decode cc pc = .ok (.ifCond .gt off, 3)) (ht : (pc : Int) + off = (tgt : Int)) (hn : pc + 3 = pc') (Kt : 0 < x → zq_X y own cc nL ret rm rv tgt ls st s a) (Kf : ¬ (0 < x) → zq_X y own cc nL ret rm rv pc' ls st s b) : zq_X y own cc nL ret rm rv pc ls (.int x :: st) s (if 0 < x then a else b) := by
  refine zx_ite (fun hc => ?_) (fun hc => ?_)
  · exact fun v h => zq_if_gt hd ht hn (fun _ => Kt hc v h) (fun q => absurd hc q)
  · exact fun v h => zq_if_gt hd ht hn (fun q => absurd q hc) (fun _ => Kf hc v h)
theorem zx_lif_gt {x : Int32} {off : Int} {tgt : Nat} {α : Type} {a b : α} {f : α → Option (ρ × zq_S)} (hd : decode cc pc = .ok (.ifCond .gt off, 3)) (ht : (pc : Int) + off = (tgt : Int)) (hn : pc + 3 = pc') (Kt : 0 < x → zq_X y own cc nL ret rm rv tgt ls st s (zq_let a f)) (Kf : ¬ (0 < x) → zq_X y own cc nL ret rm rv pc' ls st s (zq_let b f)) : zq_X y own cc nL ret rm rv pc ls (.int x :: st) s (zq_let (if 0 < x then a else b) f) := by
  refine zx_litE (fun hc => ?_) (fun hc => ?_)
  · exact fun v h => zq_if_gt hd ht hn (fun _ => Kt hc v h) (fun q => absurd hc q)
  · exact fun v h => zq_if_gt hd ht hn (fun q => absurd q hc) (fun _ => Kf hc v h)
theorem zx_if_le {x : Int32} {off : Int} {tgt : Nat} {a b : Option (ρ × zq_S)} (hd : decode cc pc = .ok (.ifCond .le off, 3)) (ht : (pc : Int) + off = (tgt : Int)) (hn : pc + 3 = pc') (Kt : x ≤ 0 → zq_X y own cc nL ret rm rv tgt ls st s a) (Kf : ¬ (x ≤ 0) → zq_X y own cc nL ret rm rv pc' ls st s b) : zq_X y own cc nL ret rm rv pc ls (.int x :: st) s (if x ≤ 0 then a else b) := by
  refine zx_ite (fun hc => ?_) (fun hc => ?_)
  · exact fun v h => zq_if_le hd ht hn (fun _ => Kt hc v h) (fun q => absurd hc q)
  · exact fun v h => zq_if_le hd ht hn (fun q => absurd q hc) (fun _ => Kf hc v h)
theorem zx_lif_le {x : Int32} {off : Int} {tgt : Nat} {α : Type} {a b : α} {f : α → Option (ρ × zq_S)} (hd : decode cc pc = .ok (.ifCond .le off, 3)) (ht : (pc : Int) + off = (tgt : Int)) (hn : pc + 3 = pc') (Kt : x ≤ 0 → zq_X y own cc nL ret rm rv tgt ls st s (zq_let a f)) (Kf : ¬ (x ≤ 0) → zq_X y own cc nL ret rm rv pc' ls st s (zq_let b f)) : zq_X y own cc nL ret rm rv pc ls (.int x :: st) s (zq_let (if x ≤ 0 then a else b) f) := by
  refine zx_litE (fun hc => ?_) (fun hc => ?_)
  · exact fun v h => zq_if_le hd ht hn (fun _ => Kt hc v h) (fun q => absurd hc q)
  · exact fun v h => zq_if_le hd ht hn (fun q => absurd q hc) (fun _ => Kf hc v h)
theorem zx_icmp_eq {x z : Int32} {off : Int} {tgt : Nat} {a b : Option (ρ × zq_S)} (hd : decode cc pc = .ok (.if_icmp .eq off, 3)) (ht : (pc : Int) + off = (tgt : Int)) (hn : pc + 3 = pc') (Kt : x = z → zq_X y own cc nL ret rm rv tgt ls st s a) (Kf : ¬ (x = z) → zq_X y own cc nL ret rm rv pc' ls st s b) : zq_X y own cc nL ret rm rv pc ls (.int z :: .int x :: st) s (if x = z then a else b) := by
  refine zx_ite (fun hc => ?_) (fun hc => ?_)
  · exact fun v h => zq_icmp_eq hd ht hn (fun _ => Kt hc v h) (fun q => absurd hc q)
  · exact fun v h => zq_icmp_eq hd ht hn (fun q => absurd q hc) (fun _ => Kf hc v h)
theorem zx_licmp_eq {x z : Int32} {off : Int} {tgt : Nat} {α : Type} {a b : α} {f : α → Option (ρ × zq_S)} (hd : decode cc pc = .ok (.if_icmp .eq off, 3)) (ht : (pc : Int) + off = (tgt : Int)) (hn : pc + 3 = pc') (Kt : x = z → zq_X y own cc nL ret rm rv tgt ls st s (zq_let a f)) (Kf : ¬ (x = z) → zq_X y own cc nL ret rm rv pc' ls st s (zq_let b f)) : zq_X y own cc nL ret rm rv pc ls (.int z :: .int x :: st) s (zq_let (if x = z then a else b) f) := by
  refine zx_litE (fun hc => ?_) (fun hc => ?_)
  · exact fun v h => zq_icmp_eq hd ht hn (fun _ => Kt hc v h) (fun q => absurd hc q)
  · exact fun v h => zq_icmp_eq hd ht hn (fun q => absurd q hc) (fun _ => Kf hc v h)
theorem zx_icmp_ne {x z : Int32} {off : Int} {tgt : Nat} {a b : Option (ρ × zq_S)} (hd : decode cc pc = .ok (.if_icmp .ne off, 3)) (ht : (pc : Int) + off = (tgt : Int)) (hn : pc + 3 = pc') (Kt : ¬ (x = z) → zq_X y own cc nL ret rm rv tgt ls st s b) (Kf : x = z → zq_X y own cc nL ret rm rv pc' ls st s a) : zq_X y own cc nL ret rm rv pc ls (.int z :: .int x :: st) s (if x = z then a else b) := by
  refine zx_ite (fun hc => ?_) (fun hc => ?_)
  · exact fun v h => zq_icmp_ne hd ht hn (fun q => absurd hc q) (fun _ => Kf hc v h)
  · exact fun v h => zq_icmp_ne hd ht hn (fun _ => Kt hc v h) (fun q => absurd q hc)
theorem zx_licmp_ne {x z : Int32} {off : Int} {tgt : Nat} {α : Type} {a b : α} {f : α → Option (ρ × zq_S)} (hd : decode cc pc = .ok (.if_icmp .ne off, 3)) (ht : (pc : Int) + off = (tgt : Int)) (hn : pc + 3 = pc') (Kt : ¬ (x = z) → zq_X y own cc nL ret rm rv tgt ls st s (zq_let b f)) (Kf : x = z → zq_X y own cc nL ret rm rv pc' ls st s (zq_let a f)) : zq_X y own cc nL ret rm rv pc ls (.int z :: .int x :: st) s (zq_let (if x = z then a else b) f) := by
  refine zx_litE (fun hc => ?_) (fun hc => ?_)
  · exact fun v h => zq_icmp_ne hd ht hn (fun q => absurd hc q) (fun _ => Kf hc v h)
  · exact fun v h => zq_icmp_ne hd ht hn (fun _ => Kt hc v h) (fun q => absurd q hc)
theorem zx_icmp_lt {x z : Int32} {off : Int} {tgt : Nat} {a b : Option (ρ × zq_S)} (hd : decode cc pc = .ok (.if_icmp .lt off, 3)) (ht : (pc : Int) + off = (tgt : Int)) (hn : pc + 3 = pc') (Kt : x < z → zq_X y own cc nL ret rm rv tgt ls st s a) (Kf : ¬ (x < z) → zq_X y own cc nL ret rm rv pc' ls st s b) : zq_X y own cc nL ret rm rv pc ls (.int z :: .int x :: st) s (if x < z then a else b) := by
  refine zx_ite (fun hc => ?_) (fun hc => ?_)
  · exact fun v h => zq_icmp_lt hd ht hn (fun _ => Kt hc v h) (fun q => absurd hc q)
  · exact fun v h => zq_icmp_lt hd ht hn (fun q => absurd q hc) (fun _ => Kf hc v h)
theorem zx_licmp_lt {x z : Int32} {off : Int} {tgt : Nat} {α : Type} {a b : α} {f : α → Option (ρ × zq_S)} (hd : decode cc pc = .ok (.if_icmp .lt off, 3)) (ht : (pc : Int) + off = (tgt : Int)) (hn : pc + 3 = pc') (Kt : x < z → zq_X y own cc nL ret rm rv tgt ls st s (zq_let a f)) (Kf : ¬ (x < z) → zq_X y own cc nL ret rm rv pc' ls st s (zq_let b f)) : zq_X y own cc nL ret rm rv pc ls (.int z :: .int x :: st) s (zq_let (if x < z then a else b) f) := by
  refine zx_litE (fun hc => ?_) (fun hc => ?_)
  · exact fun v h => zq_icmp_lt hd ht hn (fun _ => Kt hc v h) (fun q => absurd hc q)
  · exact fun v h => zq_icmp_lt hd ht hn (fun q => absurd q hc) (fun _ => Kf hc v h)
theorem zx_icmp_ge {x z : Int32} {off : Int} {tgt : Nat} {a b : Option (ρ × zq_S)} (hd : decode cc pc = .ok (.if_icmp .ge off, 3)) (ht : (pc : Int) + off = (tgt : Int)) (hn : pc + 3 = pc') (Kt : z ≤ x → zq_X y own cc nL ret rm rv tgt ls st s a) (Kf : ¬ (z ≤ x) → zq_X y own cc nL ret rm rv pc' ls st s b) : zq_X y own cc nL ret rm rv pc ls (.int z :: .int x :: st) s (if z ≤ x then a else b) := by
  refine zx_ite (fun hc => ?_) (fun hc => ?_)
  · exact fun v h => zq_icmp_ge hd ht hn (fun _ => Kt hc v h) (fun q => absurd hc q)
  · exact fun v h => zq_icmp_ge hd ht hn (fun q => absurd q hc) (fun _ => Kf hc v h)
theorem zx_licmp_ge {x z : Int32} {off : Int} {tgt : Nat} {α : Type} {a b : α} {f : α → Option (ρ × zq_S)} (hd : decode cc pc = .ok (.if_icmp .ge off, 3)) (ht : (pc : Int) + off = (tgt : Int)) (hn : pc + 3 = pc') (Kt : z ≤ x → zq_X y own cc nL ret rm rv tgt ls st s (zq_let a f)) (Kf : ¬ (z ≤ x) → zq_X y own cc nL ret rm rv pc' ls st s (zq_let b f)) : zq_X y own cc nL ret rm rv pc ls (.int z :: .int x :: st) s (zq_let (if z ≤ x then a else b) f) := by
  refine zx_litE (fun hc => ?_) (fun hc => ?_)
  · exact fun v h => zq_icmp_ge hd ht hn (fun _ => Kt hc v h) (fun q => absurd hc q)
  · exact fun v h => zq_icmp_ge hd ht hn (fun q => absurd q hc) (fun _ => Kf hc v h)
theorem zx_icmp_gt {x z : Int32} {off : Int} {tgt : Nat} {a b : Option (ρ × zq_S)} (hd : decode cc pc = .ok (.if_icmp .gt off, 3)) (ht : (pc : Int) + off = (tgt : Int)) (hn : pc + 3 = pc') (Kt : z < x → zq_X y own cc nL ret rm rv tgt ls st s a) (Kf : ¬ (z < x) → zq_X y own cc nL ret rm rv pc' ls st s b) : zq_X y own cc nL ret rm rv pc ls (.int z :: .int x :: st) s (if z < x then a else b) := by
  refine zx_ite (fun hc => ?_) (fun hc => ?_)
  · exact fun v h => zq_icmp_gt hd ht hn (fun _ => Kt hc v h) (fun q => absurd hc q)
  · exact fun v h => zq_icmp_gt hd ht hn (fun q => absurd q hc) (fun _ => Kf hc v h)
theorem zx_licmp_gt {x z : Int32} {off : Int} {tgt : Nat} {α : Type} {a b : α} {f : α → Option (ρ × zq_S)} (hd : decode cc pc = .ok (.if_icmp .gt off, 3)) (ht : (pc : Int) + off = (tgt : Int)) (hn : pc + 3 = pc') (Kt : z < x → zq_X y own cc nL ret rm rv tgt ls st s (zq_let a f)) (Kf : ¬ (z < x) → zq_X y own cc nL ret rm rv pc' ls st s (zq_let b f)) : zq_X y own cc nL ret rm rv pc ls (.int z :: .int x :: st) s (zq_let (if z < x then a else b) f) := by
  refine zx_litE (fun hc => ?_) (fun hc => ?_)
  · exact fun v h => zq_icmp_gt hd ht hn (fun _ => Kt hc v h) (fun q => absurd hc q)
  · exact fun v h => zq_icmp_gt hd ht hn (fun q => absurd q hc) (fun _ => Kf hc v h)
theorem zx_icmp_le {x z : Int32} {off : Int} {tgt : Nat} {a b : Option (ρ × zq_S)} (hd : decode cc pc = .ok (.if_icmp .le off, 3)) (ht : (pc : Int) + off = (tgt : Int)) (hn : pc + 3 = pc') (Kt : x ≤ z → zq_X y own cc nL ret rm rv tgt ls st s a) (Kf : ¬ (x ≤ z) → zq_X y own cc nL ret rm rv pc' ls st s b) : zq_X y own cc nL ret rm rv pc ls (.int z :: .int x :: st) s (if x ≤ z then a else b) := by
  refine zx_ite (fun hc => ?_) (fun hc => ?_)
  · exact fun v h => zq_icmp_le hd ht hn (fun _ => Kt hc v h) (fun q => absurd hc q)
  · exact fun v h => zq_icmp_le hd ht hn (fun q => absurd q hc) (fun _ => Kf hc v h)
theorem zx_licmp_le {x z : Int32} {off : Int} {tgt : Nat} {α : Type} {a b : α} {f : α → Option (ρ × zq_S)} (hd : decode cc pc = .ok (.if_icmp .le off, 3)) (ht : (pc : Int) + off = (tgt : Int)) (hn : pc + 3 = pc') (Kt : x ≤ z → zq_X y own cc nL ret rm rv tgt ls st s (zq_let a f)) (Kf : ¬ (x ≤ z) → zq_X y own cc nL ret rm rv pc' ls st s (zq_let b f)) : zq_X y own cc nL ret rm rv pc ls (.int z :: .int x :: st) s (zq_let (if x ≤ z then a else b) f) := by
  refine zx_litE (fun hc => ?_) (fun hc => ?_)
  · exact fun v h => zq_icmp_le hd ht hn (fun _ => Kt hc v h) (fun q => absurd hc q)
  · exact fun v h => zq_icmp_le hd ht hn (fun q => absurd q hc) (fun _ => Kf hc v h)
theorem zx_istore_n {k : Fin 4} {i : Nat} {e : Int32} {f : Int32 → Option (ρ × zq_S)} {ls' : Int32 → List Value} (hi : (k : Nat) = i) (hb : i < nL) (hok : zq_ok ls i = true) (hl : ∀ x, ls.set i (.int x) = ls' x) (hd : decode cc pc = .ok (.istore_n k, 1)) (hn : pc + 1 = pc') (K : ∀ x, zq_X y own cc nL ret rm rv pc' (ls' x) st s (f x)) : zq_X y own cc nL ret rm rv pc ls (.int e :: st) s (zq_let e f) := fun v h => zq_istore_n hi hb hok (hl e) hd hn (K e v h)
theorem zx_istore {i : Nat} {e : Int32} {f : Int32 → Option (ρ × zq_S)} {ls' : Int32 → List Value} (hb : i < nL) (hok : zq_ok ls i = true) (hl : ∀ x, ls.set i (.int x) = ls' x) (hd : decode cc pc = .ok (.istore i, 2)) (hn : pc + 2 = pc') (K : ∀ x, zq_X y own cc nL ret rm rv pc' (ls' x) st s (f x)) : zq_X y own cc nL ret rm rv pc ls (.int e :: st) s (zq_let e f) := fun v h => zq_istore hb hok (hl e) hd hn (K e v h)
theorem zx_lstore_n {k : Fin 4} {i : Nat} {e : Int64} {f : Int64 → Option (ρ × zq_S)} {ls' : Int64 → List Value} (hi : (k : Nat) = i) (hb : i + 1 < nL) (hok : zq_ok ls i = true) (hl : ∀ x, (ls.set i (.long x)).set (i + 1) .null = ls' x) (hd : decode cc pc = .ok (.lstore_n k, 1)) (hn : pc + 1 = pc') (K : ∀ x, zq_X y own cc nL ret rm rv pc' (ls' x) st s (f x)) : zq_X y own cc nL ret rm rv pc ls (.long e :: st) s (zq_let e f) := fun v h => zq_lstore_n hi hb hok (hl e) hd hn (K e v h)
theorem zx_lstore {i : Nat} {e : Int64} {f : Int64 → Option (ρ × zq_S)} {ls' : Int64 → List Value} (hb : i + 1 < nL) (hok : zq_ok ls i = true) (hl : ∀ x, (ls.set i (.long x)).set (i + 1) .null = ls' x) (hd : decode cc pc = .ok (.lstore i, 2)) (hn : pc + 2 = pc') (K : ∀ x, zq_X y own cc nL ret rm rv pc' (ls' x) st s (f x)) : zq_X y own cc nL ret rm rv pc ls (.long e :: st) s (zq_let e f) := fun v h => zq_lstore hb hok (hl e) hd hn (K e v h)
theorem zx_iinc {i : Nat} {n : Int} {x c : Int32} {f : Int32 → Option (ρ × zq_S)} {ls' : Int32 → List Value} (hx : ls[i]? = some (.int x)) (hv : Int32.ofInt n = c) (hb : i < nL) (hok : zq_ok ls i = true) (hl : ∀ x, ls.set i (.int x) = ls' x) (hd : decode cc pc = .ok (.iinc i n, 3)) (hn : pc + 3 = pc') (K : ∀ x, zq_X y own cc nL ret rm rv pc' (ls' x) st s (f x)) : zq_X y own cc nL ret rm rv pc ls st s (zq_let (x + c) f) := fun v h => zq_iinc hx (by rw [hv]) hb hok (hl _) hd hn (K _ v h)
theorem zx_iaload {k n : Nat} {i : Int32} (hs : zq_sh[k]? = some (.inl (0, n))) (hd : decode cc pc = .ok (.iaload, 1)) (hn : pc + 1 = pc') (K : zq_X y own cc nL ret rm rv pc' ls (.int (zga s k i) :: st) s code) : zq_X y own cc nL ret rm rv pc ls (.int i :: .ref k :: st) s (zq_ck i n code) := fun v h => zq_iaload (zq_en_get hs) (zq_ck_some h).1 hd hn (K v (zq_ck_some h).2)
theorem zx_baload {k n : Nat} {i : Int32} (hs : zq_sh[k]? = some (.inl (1, n))) (hd : decode cc pc = .ok (.baload, 1)) (hn : pc + 1 = pc') (K : zq_X y own cc nL ret rm rv pc' ls (.int (zga s k i) :: st) s code) : zq_X y own cc nL ret rm rv pc ls (.int i :: .ref k :: st) s (zq_ck i n code) := fun v h => zq_baload (zq_en_get hs) (zq_ck_some h).1 hd hn (K v (zq_ck_some h).2)
theorem zx_zaload {k n : Nat} {i : Int32} (hs : zq_sh[k]? = some (.inl (2, n))) (hd : decode cc pc = .ok (.baload, 1)) (hn : pc + 1 = pc') (K : zq_X y own cc nL ret rm rv pc' ls (.int (zga s k i) :: st) s code) : zq_X y own cc nL ret rm rv pc ls (.int i :: .ref k :: st) s (zq_ck i n code) := fun v h => zq_zaload (zq_en_get hs) (zq_ck_some h).1 hd hn (K v (zq_ck_some h).2)
theorem zx_laload {k n : Nat} {i : Int32} (hs : zq_sh[k]? = some (.inl (3, n))) (hd : decode cc pc = .ok (.laload, 1)) (hn : pc + 1 = pc') (K : zq_X y own cc nL ret rm rv pc' ls (.long (zgl s k i) :: st) s code) : zq_X y own cc nL ret rm rv pc ls (.int i :: .ref k :: st) s (zq_ck i n code) := fun v h => zq_laload (zq_en_get hs) (zq_ck_some h).1 hd hn (K v (zq_ck_some h).2)
theorem zx_iastore {k n : Nat} {i : Int32} {x : Int32} {f : zq_S → Option (ρ × zq_S)} (hs : zq_sh[k]? = some (.inl (0, n))) (hd : decode cc pc = .ok (.iastore, 1)) (hn : pc + 1 = pc') (K : ∀ s', zq_X y own cc nL ret rm rv pc' ls st s' (f s')) : zq_X y own cc nL ret rm rv pc ls (.int x :: .int i :: .ref k :: st) s (zq_ck i n (zq_let (zpa s k i x) f)) := by
  intro v h
  refine zq_iastore (zq_en_get hs) (zq_ck_some h).1 hd hn ?_
  rw [zq_en_sA hs (by decide)]
  exact K _ v (zq_ck_some h).2
theorem zx_bastore {k n : Nat} {i : Int32} {x : Int32} {f : zq_S → Option (ρ × zq_S)} (hs : zq_sh[k]? = some (.inl (1, n))) (hd : decode cc pc = .ok (.bastore, 1)) (hn : pc + 1 = pc') (K : ∀ s', zq_X y own cc nL ret rm rv pc' ls st s' (f s')) : zq_X y own cc nL ret rm rv pc ls (.int x :: .int i :: .ref k :: st) s (zq_ck i n (zq_let (zpab s k i x) f)) := by
  intro v h
  refine zq_bastore (zq_en_get hs) (zq_ck_some h).1 hd hn ?_
  rw [zq_en_sA hs (by decide)]
  exact K _ v (zq_ck_some h).2
theorem zx_zastore {k n : Nat} {i : Int32} {x : Int32} {f : zq_S → Option (ρ × zq_S)} (hs : zq_sh[k]? = some (.inl (2, n))) (hd : decode cc pc = .ok (.bastore, 1)) (hn : pc + 1 = pc') (K : ∀ s', zq_X y own cc nL ret rm rv pc' ls st s' (f s')) : zq_X y own cc nL ret rm rv pc ls (.int x :: .int i :: .ref k :: st) s (zq_ck i n (zq_let (zpaz s k i x) f)) := by
  intro v h
  refine zq_zastore (zq_en_get hs) (zq_ck_some h).1 hd hn ?_
  rw [zq_en_sA hs (by decide)]
  exact K _ v (zq_ck_some h).2
theorem zx_lastore {k n : Nat} {i : Int32} {x : Int64} {f : zq_S → Option (ρ × zq_S)} (hs : zq_sh[k]? = some (.inl (3, n))) (hd : decode cc pc = .ok (.lastore, 1)) (hn : pc + 1 = pc') (K : ∀ s', zq_X y own cc nL ret rm rv pc' ls st s' (f s')) : zq_X y own cc nL ret rm rv pc ls (.long x :: .int i :: .ref k :: st) s (zq_ck i n (zq_let (zpl s k i x) f)) := by
  intro v h
  refine zq_lastore (zq_en_get hs) (zq_ck_some h).1 hd hn ?_
  rw [zq_en_sL hs]
  exact K _ v (zq_ck_some h).2
theorem zt_getI {res : Option Value × List zq_AC} {k ci j idx x : Nat} {fin : Bool} {ty : FieldType} (fr : zq_fr own idx ci j fin ty) (fd : zq_fd k ci j (0, x)) (hd : decode cc pc = .ok (.getfield idx, 3)) (hn : pc + 3 = pc') (K : zq_R none y own cc nL ret rm 0 0 98 res pc' ls (.int (zgf s k j) :: st) (zq_en s) 0 0) : zq_R none y own cc nL ret rm 0 0 98 res pc ls (.ref k :: st) (zq_en s) 0 0 := by
  obtain ⟨fts, h1, h2⟩ := fd
  exact zq_get fr (zq_en_get h1) (by rw [List.getElem?_mapIdx, h2]; rfl) hd hn K
theorem zt_getR {res : Option Value × List zq_AC} {k ci j idx c : Nat} {fin : Bool} {ty : FieldType} (fr : zq_fr own idx ci j fin ty) (fd : zq_fd k ci j (1, c)) (hd : decode cc pc = .ok (.getfield idx, 3)) (hn : pc + 3 = pc') (K : zq_R none y own cc nL ret rm 0 0 98 res pc' ls (.ref c :: st) (zq_en s) 0 0) : zq_R none y own cc nL ret rm 0 0 98 res pc ls (.ref k :: st) (zq_en s) 0 0 := by
  obtain ⟨fts, h1, h2⟩ := fd
  exact zq_get fr (zq_en_get h1) (by rw [List.getElem?_mapIdx, h2]; rfl) hd hn K
theorem zt_getP {res : Option Value × List zq_AC} {k ci j idx c : Nat} {fin : Bool} {ty : FieldType} (fr : zq_fr own idx ci j fin ty) (fd : zq_fd k ci j (2, c)) (hd : decode cc pc = .ok (.getfield idx, 3)) (hn : pc + 3 = pc') (K : zq_R none y own cc nL ret rm 0 0 98 res pc' ls (.ref (zs (zgb s c)) :: st) (zq_en s) 0 0) : zq_R none y own cc nL ret rm 0 0 98 res pc ls (.ref k :: st) (zq_en s) 0 0 := by
  obtain ⟨fts, h1, h2⟩ := fd
  exact zq_get fr (zq_en_get h1) (by rw [List.getElem?_mapIdx, h2]; rfl) hd hn K
theorem zx_putI {k ci j idx q : Nat} {x : Int32} {ty : FieldType} {f : zq_S → Option (ρ × zq_S)} (fr : zq_fr own idx ci j false ty) (hv : ∀ _em : Nat → Nat, narrow ty (.int x) = .int x ∧ fits ty (.int x) = true) (fd : zq_fd k ci j (0, q)) (hd : decode cc pc = .ok (.putfield idx, 3)) (hn : pc + 3 = pc') (K : ∀ s', zq_X y own cc nL ret rm rv pc' ls st s' (f s')) : zq_X y own cc nL ret rm rv pc ls (.int x :: .ref k :: st) s (zq_let (zpf s k j x) f) := by
  obtain ⟨fts, h1, h2⟩ := fd
  intro v h
  refine zq_put fr hv (zq_en_get h1) (by rw [List.length_mapIdx]; exact (List.getElem?_eq_some_iff.mp h2).1) hd hn ?_
  rw [zq_en_pf h1 h2]
  exact K _ v h
theorem zx_putP {p k ci j idx : Nat} {b : Bool} {ty : FieldType} {f : zq_S → Option (ρ × zq_S)} (fr : zq_fr own idx ci j false ty) (hv : ∀ (_em : Nat → Nat) (a : Nat), narrow ty (.ref a) = .ref a ∧ fits ty (.ref a) = true) (hp : zq_pt p k ci j) (hd : decode cc pc = .ok (.putfield idx, 3)) (hn : pc + 3 = pc') (K : ∀ s', zq_X y own cc nL ret rm rv pc' ls st s' (f s')) : zq_X y own cc nL ret rm rv pc ls (.ref (zs b) :: .ref k :: st) s (zq_let (zpb s p b) f) := by
  obtain ⟨fts, h1, h2⟩ := hp.1
  intro v h
  refine zq_put fr (fun em => hv em (em (zs b))) (zq_en_get h1) (by rw [List.length_mapIdx]; exact (List.getElem?_eq_some_iff.mp h2).1) hd hn ?_
  rw [zq_en_pb hp h1 h2]
  exact K _ v h
theorem zx_tabIn {dflt lo hi : Int} {offs : Array Int} {len : Nat} {x c : Int32} {off : Int} {tgt : Nat} (hc : x = c) (hd : decode cc pc = .ok (.tableswitch dflt lo hi offs, len)) (h1 : ¬ c.toInt < lo) (h2 : ¬ hi < c.toInt) (ho : offs[(c.toInt - lo).toNat]? = some off) (ht : (pc : Int) + off = (tgt : Int)) (K : zq_X y own cc nL ret rm rv tgt ls st s code) : zq_X y own cc nL ret rm rv pc ls (.int x :: st) s code := by
  subst hc
  exact fun v h => zq_tabIn hd h1 h2 ho ht (K v h)
theorem zx_tabOut {dflt lo hi : Int} {offs : Array Int} {len : Nat} {x : Int32} {tgt : Nat} (hd : decode cc pc = .ok (.tableswitch dflt lo hi offs, len)) (h1 : x.toInt < lo ∨ hi < x.toInt) (ht : (pc : Int) + dflt = (tgt : Int)) (K : zq_X y own cc nL ret rm rv tgt ls st s code) : zq_X y own cc nL ret rm rv pc ls (.int x :: st) s code := fun v h => zq_tabOut hd h1 ht (K v h)
theorem zx_look {dflt : Int} {ps : Array (Int × Int)} {len : Nat} {x c : Int32} {tgt : Nat} (hc : x = c) (hd : decode cc pc = .ok (.lookupswitch dflt ps, len)) (hp : (ps.toList.zip (ps.toList.drop 1)).all (fun (a, next) => a.1 < next.1) = true) (ho : (pc : Int) + Op.lookupswitch.offset ps.toList dflt c.toInt = (tgt : Int)) (h0 : True) (K : zq_X y own cc nL ret rm rv tgt ls st s code) : zq_X y own cc nL ret rm rv pc ls (.int x :: st) s code := by
  subst hc
  exact fun v h => zq_look hd hp rfl ho (K v h)
theorem zq_tn {x c : Int32} (h : ¬ x = c) : ¬ x.toInt = c.toInt := fun z => h (Int32.toInt_inj.mp z)
theorem zx_iret (hr : ret = some .int) {x : Int32} (hd : decode cc pc = .ok (.ireturn, 1)) : zq_X y own cc nL ret rm zv_i pc ls [.int x] s (some (x, s)) := by
  intro v h
  cases h
  exact zq_iret hr rfl rfl rfl hd
theorem zx_lret (hr : ret = some .long) {x : Int64} (hd : decode cc pc = .ok (.lreturn, 1)) : zq_X y own cc nL ret rm zv_l pc ls [.long x] s (some (x, s)) := by
  intro v h
  cases h
  exact zq_lret hr rfl rfl rfl hd
theorem zx_zret (hr : ret = some .boolean) {x : Int32} (hx : x &&& 1 = x) (hd : decode cc pc = .ok (.ireturn, 1)) : zq_X y own cc nL ret rm zv_i pc ls [.int x] s (some (x, s)) := by
  intro v h
  cases h
  exact zq_zret (by show Value.int (x &&& 1) = .int x; rw [hx]) hr rfl rfl rfl hd
theorem zx_zretg (hr : ret = some .boolean) {x : Int32} (hd : decode cc pc = .ok (.ireturn, 1)) : zq_X y own cc nL ret rm zv_i pc ls [.int x] s (zq_bz x (some (x, s))) := by
  intro v h
  unfold zq_bz at h
  by_cases hc : x = 0 ∨ x = 1
  · rw [if_pos hc] at h
    exact zx_zret hr (by rcases hc with rfl | rfl <;> rfl) hd v h
  · rw [if_neg hc] at h
    cases h
theorem zx_vret (hr : ret = none) (hd : decode cc pc = .ok (.return_, 1)) : zq_X y own cc nL ret rm zv_v pc ls [] s (some ((), s)) := by
  intro v h
  cases h
  exact zq_vret hr rfl rfl rfl hd
theorem zx_aret (hr : ret = some (.object "CrossedSheets$Shelf")) (hd : decode cc pc = .ok (.areturn, 1)) : zq_X y own cc nL ret rm zv_w pc ls [.ref (zf false)] s (some ((), s)) := by
  intro v h
  cases h
  exact zq_aret hr rfl rfl rfl hd
theorem zq_MC_x {av : List Value} (ls : List Value) (hy : plainName y.cls = true) (ho : y.cls = own) (hl : zq_sl av ++ List.replicate (nL - (zq_sl av).length) .null = ls) (hle : (zq_sl av).length ≤ nL) (K : zq_X y own cc nL ret rm rv 0 ls [] s code) {v : ρ × zq_S} (h : code = some v) : zq_MC y cc nL ret rm 0 0 av (zq_en s) (rv v.1, zq_en v.2) := by
  refine zq_MC_of ls hy ho hl hle ?_
  rw [zq_en_len]
  exact K v h
theorem zx_cVi {y' : MethodName} {cc' : ByteArray} {nL' : Nat} {ret' : Option FieldType} {rm' : Room} {idx ci n k : Nat} {As rest st1 : List Value} {fc : Option (Int32 × zq_S)} {K : Int32 → zq_S → Option (ρ × zq_S)} (cv : zq_cV own idx ci y' cc' nL' ret' n) (hM : ∀ v, fc = some v → zq_MC y' cc' nL' ret' rm' 0 0 (.ref k :: As) (zq_en s) (zv_i v.1, zq_en v.2)) (hk : zq_ob k ci) (hn : As.length = n) (hrm : rm'.cells = 0 ∧ rm'.slots = 0 ∧ rm'.frames + 1 ≤ rm.frames ∧ 8 + (nL' + 11) + rm'.locals ≤ rm.locals) (hst : (rest.map fun v => v.category).sum ≤ 8) (hd : decode cc pc = .ok (.invokevirtual idx, 3)) (hpc : pc + 3 = pc') (hs1 : st1 = As.reverse ++ .ref k :: rest) (KK : ∀ r s', zq_X y own cc nL ret rm rv pc' ls (.int r :: rest) s' (K r s')) : zq_X y own cc nL ret rm rv pc ls st1 s (zq_b2 fc K) := by
  intro v h
  cases hf : fc with
  | none => rw [hf] at h; cases h
  | some u =>
    rw [hf] at h
    obtain ⟨fts, hk⟩ := hk
    exact zq_callV cv (hM u hf) (zq_en_get hk) hn hrm ⟨Nat.zero_le _, Nat.zero_le _⟩ hst hd hpc hs1 (KK u.1 u.2 v h)
theorem zx_cSi {y' : MethodName} {cc' : ByteArray} {nL' : Nat} {ret' : Option FieldType} {rm' : Room} {idx n : Nat} {As rest st1 : List Value} {fc : Option (Int32 × zq_S)} {K : Int32 → zq_S → Option (ρ × zq_S)} (cv : zq_cS own idx y' cc' nL' ret' n) (hM : ∀ v, fc = some v → zq_MC y' cc' nL' ret' rm' 0 0 As (zq_en s) (zv_i v.1, zq_en v.2)) (hn : As.length = n) (hrm : rm'.cells = 0 ∧ rm'.slots = 0 ∧ rm'.frames + 1 ≤ rm.frames ∧ 8 + (nL' + 11) + rm'.locals ≤ rm.locals) (hst : (rest.map fun v => v.category).sum ≤ 8) (hd : decode cc pc = .ok (.invokestatic idx, 3)) (hpc : pc + 3 = pc') (hs1 : st1 = As.reverse ++ rest) (KK : ∀ r s', zq_X y own cc nL ret rm rv pc' ls (.int r :: rest) s' (K r s')) : zq_X y own cc nL ret rm rv pc ls st1 s (zq_b2 fc K) := by
  intro v h
  cases hf : fc with
  | none => rw [hf] at h; cases h
  | some u =>
    rw [hf] at h
    exact zq_callS cv (hM u hf) hn hrm ⟨Nat.zero_le _, Nat.zero_le _⟩ hst hd hpc hs1 (KK u.1 u.2 v h)
theorem zx_cVl {y' : MethodName} {cc' : ByteArray} {nL' : Nat} {ret' : Option FieldType} {rm' : Room} {idx ci n k : Nat} {As rest st1 : List Value} {fc : Option (Int64 × zq_S)} {K : Int64 → zq_S → Option (ρ × zq_S)} (cv : zq_cV own idx ci y' cc' nL' ret' n) (hM : ∀ v, fc = some v → zq_MC y' cc' nL' ret' rm' 0 0 (.ref k :: As) (zq_en s) (zv_l v.1, zq_en v.2)) (hk : zq_ob k ci) (hn : As.length = n) (hrm : rm'.cells = 0 ∧ rm'.slots = 0 ∧ rm'.frames + 1 ≤ rm.frames ∧ 8 + (nL' + 11) + rm'.locals ≤ rm.locals) (hst : (rest.map fun v => v.category).sum ≤ 8) (hd : decode cc pc = .ok (.invokevirtual idx, 3)) (hpc : pc + 3 = pc') (hs1 : st1 = As.reverse ++ .ref k :: rest) (KK : ∀ r s', zq_X y own cc nL ret rm rv pc' ls (.long r :: rest) s' (K r s')) : zq_X y own cc nL ret rm rv pc ls st1 s (zq_b2 fc K) := by
  intro v h
  cases hf : fc with
  | none => rw [hf] at h; cases h
  | some u =>
    rw [hf] at h
    obtain ⟨fts, hk⟩ := hk
    exact zq_callV cv (hM u hf) (zq_en_get hk) hn hrm ⟨Nat.zero_le _, Nat.zero_le _⟩ hst hd hpc hs1 (KK u.1 u.2 v h)
theorem zx_cSl {y' : MethodName} {cc' : ByteArray} {nL' : Nat} {ret' : Option FieldType} {rm' : Room} {idx n : Nat} {As rest st1 : List Value} {fc : Option (Int64 × zq_S)} {K : Int64 → zq_S → Option (ρ × zq_S)} (cv : zq_cS own idx y' cc' nL' ret' n) (hM : ∀ v, fc = some v → zq_MC y' cc' nL' ret' rm' 0 0 As (zq_en s) (zv_l v.1, zq_en v.2)) (hn : As.length = n) (hrm : rm'.cells = 0 ∧ rm'.slots = 0 ∧ rm'.frames + 1 ≤ rm.frames ∧ 8 + (nL' + 11) + rm'.locals ≤ rm.locals) (hst : (rest.map fun v => v.category).sum ≤ 8) (hd : decode cc pc = .ok (.invokestatic idx, 3)) (hpc : pc + 3 = pc') (hs1 : st1 = As.reverse ++ rest) (KK : ∀ r s', zq_X y own cc nL ret rm rv pc' ls (.long r :: rest) s' (K r s')) : zq_X y own cc nL ret rm rv pc ls st1 s (zq_b2 fc K) := by
  intro v h
  cases hf : fc with
  | none => rw [hf] at h; cases h
  | some u =>
    rw [hf] at h
    exact zq_callS cv (hM u hf) hn hrm ⟨Nat.zero_le _, Nat.zero_le _⟩ hst hd hpc hs1 (KK u.1 u.2 v h)
theorem zx_cVv {y' : MethodName} {cc' : ByteArray} {nL' : Nat} {ret' : Option FieldType} {rm' : Room} {idx ci n k : Nat} {As rest st1 : List Value} {fc : Option (Unit × zq_S)} {K : Unit → zq_S → Option (ρ × zq_S)} (cv : zq_cV own idx ci y' cc' nL' ret' n) (hM : ∀ v, fc = some v → zq_MC y' cc' nL' ret' rm' 0 0 (.ref k :: As) (zq_en s) (zv_v v.1, zq_en v.2)) (hk : zq_ob k ci) (hn : As.length = n) (hrm : rm'.cells = 0 ∧ rm'.slots = 0 ∧ rm'.frames + 1 ≤ rm.frames ∧ 8 + (nL' + 11) + rm'.locals ≤ rm.locals) (hst : (rest.map fun v => v.category).sum ≤ 8) (hd : decode cc pc = .ok (.invokevirtual idx, 3)) (hpc : pc + 3 = pc') (hs1 : st1 = As.reverse ++ .ref k :: rest) (KK : ∀ r s', zq_X y own cc nL ret rm rv pc' ls rest s' (K r s')) : zq_X y own cc nL ret rm rv pc ls st1 s (zq_b2 fc K) := by
  intro v h
  cases hf : fc with
  | none => rw [hf] at h; cases h
  | some u =>
    rw [hf] at h
    obtain ⟨fts, hk⟩ := hk
    exact zq_callV cv (hM u hf) (zq_en_get hk) hn hrm ⟨Nat.zero_le _, Nat.zero_le _⟩ hst hd hpc hs1 (KK u.1 u.2 v h)
theorem zx_cSv {y' : MethodName} {cc' : ByteArray} {nL' : Nat} {ret' : Option FieldType} {rm' : Room} {idx n : Nat} {As rest st1 : List Value} {fc : Option (Unit × zq_S)} {K : Unit → zq_S → Option (ρ × zq_S)} (cv : zq_cS own idx y' cc' nL' ret' n) (hM : ∀ v, fc = some v → zq_MC y' cc' nL' ret' rm' 0 0 As (zq_en s) (zv_v v.1, zq_en v.2)) (hn : As.length = n) (hrm : rm'.cells = 0 ∧ rm'.slots = 0 ∧ rm'.frames + 1 ≤ rm.frames ∧ 8 + (nL' + 11) + rm'.locals ≤ rm.locals) (hst : (rest.map fun v => v.category).sum ≤ 8) (hd : decode cc pc = .ok (.invokestatic idx, 3)) (hpc : pc + 3 = pc') (hs1 : st1 = As.reverse ++ rest) (KK : ∀ r s', zq_X y own cc nL ret rm rv pc' ls rest s' (K r s')) : zq_X y own cc nL ret rm rv pc ls st1 s (zq_b2 fc K) := by
  intro v h
  cases hf : fc with
  | none => rw [hf] at h; cases h
  | some u =>
    rw [hf] at h
    exact zq_callS cv (hM u hf) hn hrm ⟨Nat.zero_le _, Nat.zero_le _⟩ hst hd hpc hs1 (KK u.1 u.2 v h)
theorem zx_cVw {y' : MethodName} {cc' : ByteArray} {nL' : Nat} {ret' : Option FieldType} {rm' : Room} {idx ci n k : Nat} {As rest st1 : List Value} {fc : Option (Unit × zq_S)} {K : Unit → zq_S → Option (ρ × zq_S)} (cv : zq_cV own idx ci y' cc' nL' ret' n) (hM : ∀ v, fc = some v → zq_MC y' cc' nL' ret' rm' 0 0 (.ref k :: As) (zq_en s) (zv_w v.1, zq_en v.2)) (hk : zq_ob k ci) (hn : As.length = n) (hrm : rm'.cells = 0 ∧ rm'.slots = 0 ∧ rm'.frames + 1 ≤ rm.frames ∧ 8 + (nL' + 11) + rm'.locals ≤ rm.locals) (hst : (rest.map fun v => v.category).sum ≤ 8) (hd : decode cc pc = .ok (.invokevirtual idx, 3)) (hpc : pc + 3 = pc') (hs1 : st1 = As.reverse ++ .ref k :: rest) (KK : ∀ r s', zq_X y own cc nL ret rm rv pc' ls (.ref (zf false) :: rest) s' (K r s')) : zq_X y own cc nL ret rm rv pc ls st1 s (zq_b2 fc K) := by
  intro v h
  cases hf : fc with
  | none => rw [hf] at h; cases h
  | some u =>
    rw [hf] at h
    obtain ⟨fts, hk⟩ := hk
    exact zq_callV cv (hM u hf) (zq_en_get hk) hn hrm ⟨Nat.zero_le _, Nat.zero_le _⟩ hst hd hpc hs1 (KK u.1 u.2 v h)
theorem zx_cSw {y' : MethodName} {cc' : ByteArray} {nL' : Nat} {ret' : Option FieldType} {rm' : Room} {idx n : Nat} {As rest st1 : List Value} {fc : Option (Unit × zq_S)} {K : Unit → zq_S → Option (ρ × zq_S)} (cv : zq_cS own idx y' cc' nL' ret' n) (hM : ∀ v, fc = some v → zq_MC y' cc' nL' ret' rm' 0 0 As (zq_en s) (zv_w v.1, zq_en v.2)) (hn : As.length = n) (hrm : rm'.cells = 0 ∧ rm'.slots = 0 ∧ rm'.frames + 1 ≤ rm.frames ∧ 8 + (nL' + 11) + rm'.locals ≤ rm.locals) (hst : (rest.map fun v => v.category).sum ≤ 8) (hd : decode cc pc = .ok (.invokestatic idx, 3)) (hpc : pc + 3 = pc') (hs1 : st1 = As.reverse ++ rest) (KK : ∀ r s', zq_X y own cc nL ret rm rv pc' ls (.ref (zf false) :: rest) s' (K r s')) : zq_X y own cc nL ret rm rv pc ls st1 s (zq_b2 fc K) := by
  intro v h
  cases hf : fc with
  | none => rw [hf] at h; cases h
  | some u =>
    rw [hf] at h
    exact zq_callS cv (hM u hf) hn hrm ⟨Nat.zero_le _, Nat.zero_le _⟩ hst hd hpc hs1 (KK u.1 u.2 v h)
end zxRules
