/-! the sheet, and the walk through it -/
/-- items: 0 word, 1 2 3 the open brackets { [ <, 4 5 6 their closes, 7 star, 8 9 10 a row's open, mark, close -/
def zSh : Type := (Nat) × (Nat → Nat) × (Nat → Nat) × (Nat → Nat) × (Nat → Nat) × (Nat → Option Nat) × (Nat → Nat) × (Nat → Nat) × (Nat → List Nat)
def zSh.n (T : zSh) : Nat := T.1
def zSh.sg (T : zSh) : Nat → Nat := T.2.1
def zSh.mk (T : zSh) : Nat → Nat := T.2.2.1
def zSh.wd (T : zSh) : Nat → Nat := T.2.2.2.1
def zSh.lk (T : zSh) : Nat → Nat := T.2.2.2.2.1
def zSh.sd (T : zSh) : Nat → Option Nat := T.2.2.2.2.2.1
def zSh.op (T : zSh) : Nat → Nat := T.2.2.2.2.2.2.1
def zSh.st (T : zSh) : Nat → Nat := T.2.2.2.2.2.2.2.1
def zSh.stk (T : zSh) : Nat → List Nat := T.2.2.2.2.2.2.2.2
def zShW (T : zSh) : Prop :=
  (T.n ≤ 100) ∧
  (T.stk 0 = []) ∧
  (T.stk T.n = []) ∧
  (∀ p, p ≤ T.n → ∀ q, q ∈ T.stk p → q < p) ∧
  (∀ p, p < T.n → (T.sg p = 1 ∨ T.sg p = 2 ∨ T.sg p = 3) → T.stk (p + 1) = p :: T.stk p ∧ p < T.lk p ∧ T.lk p < T.n ∧ T.stk (T.lk p) = p :: T.stk p ∧ T.sg (T.lk p) = T.sg p + 3) ∧
  (∀ p, p < T.n → (T.sg p = 4 ∨ T.sg p = 5 ∨ T.sg p = 6) → ∃ q, T.stk p = q :: T.stk (p + 1) ∧ T.sg q + 3 = T.sg p ∧ T.mk q = T.mk p ∧ T.lk q = p) ∧
  (∀ p, p < T.n → (T.sg p = 0 ∨ 7 ≤ T.sg p) → T.stk (p + 1) = T.stk p) ∧
  (∀ p, p < T.n → T.sg p = 7 → (∀ q, q ∈ T.stk p → T.sg q ≠ 3) ∧ T.st (T.mk p) = p ∧ T.sg (T.op (T.mk p)) = 3 ∧ T.mk (T.op (T.mk p)) = T.mk p ∧ T.op (T.mk p) < T.n) ∧
  (∀ p, p < T.n → T.sg p = 3 → T.op (T.mk p) = p ∧ T.st (T.mk p) < T.n ∧ T.sg (T.st (T.mk p)) = 7 ∧ T.mk (T.st (T.mk p)) = T.mk p)
theorem zShW.n100 {T : zSh} (h : zShW T) : T.n ≤ 100 := h.1
theorem zShW.top {T : zSh} (h : zShW T) : T.stk 0 = [] := h.2.1
theorem zShW.bot {T : zSh} (h : zShW T) : T.stk T.n = [] := h.2.2.1
theorem zShW.mem {T : zSh} (h : zShW T) : ∀ p, p ≤ T.n → ∀ q, q ∈ T.stk p → q < p := h.2.2.2.1
theorem zShW.opn {T : zSh} (h : zShW T) : ∀ p, p < T.n → (T.sg p = 1 ∨ T.sg p = 2 ∨ T.sg p = 3) → T.stk (p + 1) = p :: T.stk p ∧ p < T.lk p ∧ T.lk p < T.n ∧ T.stk (T.lk p) = p :: T.stk p ∧ T.sg (T.lk p) = T.sg p + 3 := h.2.2.2.2.1
theorem zShW.cls {T : zSh} (h : zShW T) : ∀ p, p < T.n → (T.sg p = 4 ∨ T.sg p = 5 ∨ T.sg p = 6) → ∃ q, T.stk p = q :: T.stk (p + 1) ∧ T.sg q + 3 = T.sg p ∧ T.mk q = T.mk p ∧ T.lk q = p := h.2.2.2.2.2.1
theorem zShW.els {T : zSh} (h : zShW T) : ∀ p, p < T.n → (T.sg p = 0 ∨ 7 ≤ T.sg p) → T.stk (p + 1) = T.stk p := h.2.2.2.2.2.2.1
theorem zShW.str {T : zSh} (h : zShW T) : ∀ p, p < T.n → T.sg p = 7 → (∀ q, q ∈ T.stk p → T.sg q ≠ 3) ∧ T.st (T.mk p) = p ∧ T.sg (T.op (T.mk p)) = 3 ∧ T.mk (T.op (T.mk p)) = T.mk p ∧ T.op (T.mk p) < T.n := h.2.2.2.2.2.2.2.1
theorem zShW.arr {T : zSh} (h : zShW T) : ∀ p, p < T.n → T.sg p = 3 → T.op (T.mk p) = p ∧ T.st (T.mk p) < T.n ∧ T.sg (T.st (T.mk p)) = 7 ∧ T.mk (T.st (T.mk p)) = T.mk p := h.2.2.2.2.2.2.2.2
/-- the step behind item p, for the set S -/
def zsp (T : zSh) (S p : Nat) : Nat :=
  if T.sg p = 1 then (if S.testBit (T.mk p) then p + 1 else T.lk p + 1)
  else if T.sg p = 2 then (if S.testBit (T.mk p) ∧ ¬ (∃ d, T.sd (T.mk p) = some d ∧ S.testBit d) then T.lk p + 1 else p + 1)
  else if T.sg p = 3 then (if S.testBit (T.mk p) then T.lk p + 1 else p + 1)
  else if T.sg p = 7 then (if S.testBit (T.mk p) then T.op (T.mk p) + 1 else p + 1)
  else if T.sg p = 6 then (if S.testBit (T.mk p) then T.st (T.mk p) + 1 else p + 1)
  else p + 1
/-- an arrow that is made -/
def zmv (T : zSh) (S q : Nat) : Bool := decide (T.sg q = 3) && S.testBit (T.mk q)
/-- the innermost made arrow around p -/
def zow (T : zSh) (S p : Nat) : Option Nat := (T.stk p).find? (zmv T S)
def zK (T : zSh) (S p : Nat) : Nat := match zow T S p with
  | none => 101 * p
  | some q => 101 * T.st (T.mk q) + (p - q)
theorem zK_none {T : zSh} {S p : Nat} (h : zow T S p = none) : zK T S p = 101 * p := by unfold zK; rw [h]
theorem zK_some {T : zSh} {S p q : Nat} (h : zow T S p = some q) : zK T S p = 101 * T.st (T.mk q) + (p - q) := by unfold zK; rw [h]
theorem zow_mem {T : zSh} {S p q : Nat} (h : zow T S p = some q) : q ∈ T.stk p ∧ T.sg q = 3 ∧ S.testBit (T.mk q) = true := by
  have a := List.find?_some h
  unfold zmv at a
  rw [Bool.and_eq_true, decide_eq_true_eq] at a
  exact ⟨List.mem_of_find?_eq_some h, a⟩
theorem zK_grow {T : zSh} (hT : zShW T) {S p r : Nat} (hr : r ≤ T.n) (hp : p < r) (h : zow T S r = zow T S p) : zK T S p < zK T S r := by
  cases e : zow T S p with
  | none => rw [zK_none e, zK_none (h.trans e)]; omega
  | some q =>
    have := hT.mem p (by omega) q (zow_mem e).1
    rw [zK_some e, zK_some (h.trans e)]; omega
theorem zow_eq {T : zSh} {S p r : Nat} (h : T.stk r = T.stk p) : zow T S r = zow T S p := by unfold zow; rw [h]
theorem zow_cons {T : zSh} {S p r q : Nat} (h : T.stk r = q :: T.stk p) (hq : zmv T S q = false) : zow T S r = zow T S p := by
  unfold zow; rw [h, List.find?_cons, hq]
theorem zow_hit {T : zSh} {S r q : Nat} {l : List Nat} (h : T.stk r = q :: l) (hq : zmv T S q = true) : zow T S r = some q := by
  unfold zow; rw [h, List.find?_cons, hq]
theorem zmv_no {T : zSh} {S q : Nat} (h : T.sg q ≠ 3 ∨ S.testBit (T.mk q) = false) : zmv T S q = false := by
  unfold zmv
  rcases h with h | h
  · rw [decide_eq_false h, Bool.false_and]
  · rw [h, Bool.and_false]
theorem zmv_yes {T : zSh} {S q : Nat} (h : T.sg q = 3) (h2 : S.testBit (T.mk q) = true) : zmv T S q = true := by
  unfold zmv; rw [decide_eq_true h, h2]; rfl
/-- where the step goes: the made arrow around stays, but at a made star and at a made close -/
theorem zsp_cases {T : zSh} (hT : zShW T) {S p : Nat} (hp : p < T.n) :
    (p < zsp T S p ∧ zsp T S p ≤ T.n ∧ zow T S (zsp T S p) = zow T S p ∧ ¬ (T.sg p = 7 ∧ S.testBit (T.mk p) = true) ∧ ¬ (T.sg p = 6 ∧ S.testBit (T.mk p) = true)) ∨
    (T.sg p = 7 ∧ S.testBit (T.mk p) = true ∧ zow T S p = none ∧ zsp T S p = T.op (T.mk p) + 1 ∧ zow T S (zsp T S p) = some (T.op (T.mk p)) ∧ T.op (T.mk p) < T.n) ∨
    (T.sg p = 6 ∧ S.testBit (T.mk p) = true ∧ zow T S p = some (T.op (T.mk p)) ∧ T.lk (T.op (T.mk p)) = p ∧ zsp T S p = T.st (T.mk p) + 1 ∧ zow T S (zsp T S p) = none ∧ T.st (T.mk p) < T.n) := by
  have skip : (T.sg p = 1 ∨ T.sg p = 2 ∨ T.sg p = 3) → T.lk p < T.n ∧ p < T.lk p ∧ zow T S (T.lk p + 1) = zow T S p := by
    intro h
    obtain ⟨_, b, c, d, e⟩ := hT.opn p hp h
    refine ⟨c, b, ?_⟩
    obtain ⟨q, q1, _⟩ := hT.cls (T.lk p) c (by omega)
    rw [d] at q1
    exact zow_eq (List.cons.inj q1).2.symm
  have enter : (T.sg p = 1 ∨ T.sg p = 2 ∨ T.sg p = 3) → (T.sg p ≠ 3 ∨ S.testBit (T.mk p) = false) → zow T S (p + 1) = zow T S p := by
    intro h h2
    exact zow_cons (hT.opn p hp h).1 (zmv_no h2)
  unfold zsp
  by_cases h1 : T.sg p = 1
  · left
    rw [if_pos h1]
    split
    · exact ⟨by omega, by omega, enter (by omega) (by omega), by omega, by omega⟩
    · have := skip (by omega)
      exact ⟨by omega, by omega, this.2.2, by omega, by omega⟩
  rw [if_neg h1]
  by_cases h2 : T.sg p = 2
  · left
    rw [if_pos h2]
    split
    · have := skip (by omega)
      exact ⟨by omega, by omega, this.2.2, by omega, by omega⟩
    · exact ⟨by omega, by omega, enter (by omega) (by omega), by omega, by omega⟩
  rw [if_neg h2]
  by_cases h3 : T.sg p = 3
  · left
    rw [if_pos h3]
    split
    · have := skip (by omega)
      exact ⟨by omega, by omega, this.2.2, by omega, by omega⟩
    · rename_i hb
      exact ⟨by omega, by omega, enter (by omega) (Or.inr (Bool.eq_false_iff.mpr hb)), by omega, by omega⟩
  rw [if_neg h3]
  by_cases h7 : T.sg p = 7
  · rw [if_pos h7]
    obtain ⟨a, b, c, d, e⟩ := hT.str p hp h7
    by_cases hb : S.testBit (T.mk p) = true
    · right; left
      rw [if_pos hb]
      refine ⟨h7, hb, ?_, rfl, zow_hit (hT.opn _ e (by omega)).1 (zmv_yes c (by rw [d]; exact hb)), e⟩
      unfold zow
      rw [List.find?_eq_none]
      intro q hq
      rw [zmv_no (Or.inl (a q hq))]
      decide
    · left
      rw [if_neg hb]
      exact ⟨by omega, by omega, zow_eq (hT.els p hp (by omega)), fun x => hb x.2, by omega⟩
  rw [if_neg h7]
  by_cases h6 : T.sg p = 6
  · rw [if_pos h6]
    obtain ⟨q, q1, q2, q3, q4⟩ := hT.cls p hp (by omega)
    have hq : q < p := hT.mem p (by omega) q (by rw [q1]; exact List.mem_cons_self)
    by_cases hb : S.testBit (T.mk p) = true
    · right; right
      rw [if_pos hb]
      obtain ⟨a1, a2, a3, a4⟩ := hT.arr q (by omega) (by omega)
      rw [q3] at a1 a2 a3 a4
      obtain ⟨b1, _⟩ := hT.str _ a2 a3
      refine ⟨h6, hb, ?_, by rw [a1, q4], rfl, ?_, a2⟩
      · rw [a1]; exact zow_hit q1 (zmv_yes (by omega) (by rw [q3]; exact hb))
      · rw [zow_eq (hT.els _ a2 (by omega))]
        unfold zow
        rw [List.find?_eq_none]
        intro x hx
        rw [zmv_no (Or.inl (b1 x hx))]
        decide
    · left
      rw [if_neg hb]
      exact ⟨by omega, by omega, (zow_cons q1 (zmv_no (Or.inr (by rw [q3]; exact Bool.eq_false_iff.mpr hb)))).symm, fun x => by omega, fun x => hb x.2⟩
  rw [if_neg h6]
  left
  by_cases h45 : T.sg p = 4 ∨ T.sg p = 5
  · obtain ⟨q, q1, q2, q3, q4⟩ := hT.cls p hp (by omega)
    exact ⟨by omega, by omega, (zow_cons q1 (zmv_no (Or.inl (by omega)))).symm, by omega, by omega⟩
  · exact ⟨by omega, by omega, zow_eq (hT.els p hp (by omega)), by omega, by omega⟩
theorem zsp_le {T : zSh} (hT : zShW T) {S p : Nat} (hp : p < T.n) : zsp T S p ≤ T.n := by
  rcases zsp_cases hT (S := S) hp with h | h | h <;> omega
theorem zsp_K {T : zSh} (hT : zShW T) {S p : Nat} (hp : p < T.n) : zK T S p < zK T S (zsp T S p) := by
  rcases zsp_cases hT (S := S) hp with h | ⟨h1, h2, h3, h4, h5, h6⟩ | ⟨h1, h2, h3, h4, h5, h6, h7⟩
  · exact zK_grow hT h.2.1 h.1 h.2.2.1
  · obtain ⟨a, b, c, d, e⟩ := hT.str p hp h1
    rw [zK_none h3, zK_some h5, d, b, h4]; omega
  · have := hT.n100
    have hm := hT.mem p (by omega) _ (zow_mem h3).1
    obtain ⟨a1, a2, a3, a4⟩ := hT.arr _ (show T.op (T.mk p) < T.n by omega) (zow_mem h3).2.1
    have e : T.mk (T.op (T.mk p)) = T.mk p := by
      obtain ⟨q, q1, q2, q3, q4⟩ := hT.cls p hp (by omega)
      have hq : q < p := hT.mem p (by omega) q (by rw [q1]; exact List.mem_cons_self)
      have := (hT.arr q (by omega) (by omega)).1
      rw [q3] at this
      rw [this, q3]
    rw [zK_some h3, zK_none h6, h5, e]; omega
