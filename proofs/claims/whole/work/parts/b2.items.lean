/-! items that were read, newest first, and what follows from them -/
/-- sign, mark, word, stander + 1 (0 none), place -/
def zIt : Type := Nat × Nat × Nat × Nat × Nat
def zIt.sg (x : zIt) : Nat := x.1
def zIt.mk (x : zIt) : Nat := x.2.1
def zIt.wd (x : zIt) : Nat := x.2.2.1
def zIt.sd (x : zIt) : Nat := x.2.2.2.1
def zIt.ps (x : zIt) : Nat := x.2.2.2.2
def pzat : List zIt → Nat → zIt
  | [], _ => (0, 0, 0, 0, 0)
  | x :: R, p => if p = R.length then x else pzat R p
def pzpre : List zIt → Nat → List zIt
  | [], _ => []
  | x :: R, p => if R.length < p then x :: R else pzpre R p
def pzstk : List zIt → List Nat
  | [] => []
  | x :: R => if 1 ≤ x.sg ∧ x.sg ≤ 3 then R.length :: pzstk R else if 4 ≤ x.sg ∧ x.sg ≤ 6 then (pzstk R).tail else pzstk R
def pzrw : List zIt → Nat
  | [] => 0
  | x :: R => if x.sg = 8 then R.length else pzrw R
def pzph : List zIt → Nat
  | [] => 0
  | x :: _ => if x.sg = 8 then 1 else if x.sg = 9 then 2 else 0
def pzlk : List zIt → Nat → Nat
  | [], _ => 0
  | x :: R, p => if (4 ≤ x.sg ∧ x.sg ≤ 6 ∧ (pzstk R).head? = some p) ∨ (x.sg = 10 ∧ pzrw R = p) then R.length else pzlk R p
def pzop : List zIt → Nat → Nat
  | [], _ => 0
  | x :: R, m => if x.sg = 3 ∧ x.mk = m then R.length else pzop R m
def pzsx : List zIt → Nat → Nat
  | [], _ => 0
  | x :: R, m => if x.sg = 7 ∧ x.mk = m then R.length else pzsx R m
def pzsd : List zIt → Nat → Option Nat
  | [], _ => none
  | x :: R, m => if x.sg = 2 ∧ x.mk = m then (if x.sd = 0 then none else some (x.sd - 1)) else pzsd R m
/-- marks told, marks of arrows, marks of stars -/
def pzmk : List zIt → Nat
  | [] => 0
  | x :: R => pzmk R ||| (if (1 ≤ x.sg ∧ x.sg ≤ 3) ∨ x.sg = 9 then 2 ^ x.mk else 0) ||| (if x.sg = 2 ∧ x.sd ≠ 0 then 2 ^ (x.sd - 1) else 0)
def pzmv : List zIt → Nat
  | [] => 0
  | x :: R => pzmv R ||| (if x.sg = 3 then 2 ^ x.mk else 0)
def pzsr : List zIt → Nat
  | [] => 0
  | x :: R => pzsr R ||| (if x.sg = 7 then 2 ^ x.mk else 0)
def pzwn : List zIt → Nat
  | [] => 0
  | x :: R => pzwn R + (if x.sg = 0 ∨ x.sg = 8 ∨ x.sg = 9 then 1 else 0)
def pzok (R : List zIt) (x : zIt) : Prop :=
  (x.sg ≤ 10 ∧ x.mk < 10 ∧ x.wd < 100 ∧ x.sd ≤ 10 ∧ (x.sg ≠ 2 → x.sd = 0)) ∧
  ((pzph R = 0 → x.sg ≤ 8) ∧ (pzph R = 1 → x.sg = 9) ∧ (pzph R = 2 → x.sg = 9 ∨ x.sg = 10)) ∧
  (1 ≤ x.sg ∧ x.sg ≤ 3 → (pzstk R).length < 8 ∧ (pzmk R).testBit x.mk = false ∧ (x.sd ≠ 0 → x.sd - 1 ≠ x.mk ∧ (pzmk R).testBit (x.sd - 1) = false)) ∧
  (4 ≤ x.sg ∧ x.sg ≤ 6 → ∃ q l, pzstk R = q :: l ∧ (pzat R q).sg + 3 = x.sg ∧ (pzat R q).mk = x.mk ∧ q + 1 < R.length) ∧
  (x.sg = 7 → (∀ q, q ∈ pzstk R → (pzat R q).sg ≠ 3) ∧ (pzsr R).testBit x.mk = false) ∧
  (x.sg = 9 → (pzmk R).testBit x.mk = false) ∧
  (x.sg = 0 ∨ x.sg = 8 ∨ x.sg = 9 → pzwn R < 40)
def pzV : List zIt → Prop
  | [] => True
  | x :: R => pzV R ∧ pzok R x
def pzT (R : List zIt) : zSh := (R.length, fun p => (pzat R p).sg, fun p => (pzat R p).mk, fun p => (pzat R p).wd, pzlk R, pzsd R, pzop R, pzsx R, fun p => pzstk (pzpre R p))
theorem pzat_new (x : zIt) (R : List zIt) : pzat (x :: R) R.length = x := if_pos rfl
theorem pzat_old (x : zIt) {R : List zIt} {p : Nat} (h : p < R.length) : pzat (x :: R) p = pzat R p := if_neg (by omega)
theorem pzpre_old (x : zIt) {R : List zIt} {p : Nat} (h : p ≤ R.length) : pzpre (x :: R) p = pzpre R p := if_neg (by omega)
theorem pzpre_all (R : List zIt) : pzpre R R.length = R := by
  cases R with
  | nil => rfl
  | cons x R => exact if_pos (by rw [List.length_cons]; omega)
theorem pzpre_0 (R : List zIt) : pzpre R 0 = [] := by
  induction R with
  | nil => rfl
  | cons x R ih => rw [pzpre_old x (Nat.zero_le _), ih]
theorem pzpre_len (R : List zIt) : ∀ p, p ≤ R.length → (pzpre R p).length = p := by
  induction R with
  | nil => intro p h; rw [List.length_nil] at h; rw [show p = 0 by omega]; rfl
  | cons x R ih =>
    intro p h
    rw [List.length_cons] at h
    by_cases q : p ≤ R.length
    · rw [pzpre_old x q, ih p q]
    · rw [show p = (x :: R).length by rw [List.length_cons]; omega, pzpre_all]
theorem pzpre_s (R : List zIt) : ∀ p, p < R.length → pzpre R (p + 1) = pzat R p :: pzpre R p := by
  induction R with
  | nil => intro p h; rw [List.length_nil] at h; omega
  | cons x R ih =>
    intro p h
    rw [List.length_cons] at h
    by_cases q : p < R.length
    · rw [pzpre_old x q, pzpre_old x (Nat.le_of_lt q), pzat_old x q, ih p q]
    · obtain rfl : p = R.length := by omega
      rw [pzat_new, pzpre_old x (Nat.le_refl _), pzpre_all]
      exact if_pos (by omega)
theorem pzpre_pre (R : List zIt) : ∀ p q, q ≤ p → p ≤ R.length → pzpre (pzpre R p) q = pzpre R q := by
  induction R with
  | nil => intro p q h1 h2; rfl
  | cons x R ih =>
    intro p q h1 h2
    rw [List.length_cons] at h2
    by_cases z : p ≤ R.length
    · rw [pzpre_old x z, pzpre_old x (by omega), ih p q h1 z]
    · rw [show p = (x :: R).length by rw [List.length_cons]; omega, pzpre_all]
theorem pzat_pre (R : List zIt) : ∀ p q, q < p → p ≤ R.length → pzat (pzpre R p) q = pzat R q := by
  induction R with
  | nil => intro p q h1 h2; rfl
  | cons x R ih =>
    intro p q h1 h2
    rw [List.length_cons] at h2
    by_cases z : p ≤ R.length
    · rw [pzpre_old x z, pzat_old x (by omega), ih p q h1 z]
    · rw [show p = (x :: R).length by rw [List.length_cons]; omega, pzpre_all]
theorem pzV_pre (R : List zIt) : ∀ p, p ≤ R.length → pzV R → pzV (pzpre R p) := by
  induction R with
  | nil => intro p h1 h2; exact h2
  | cons x R ih =>
    intro p h1 h2
    rw [List.length_cons] at h1
    by_cases z : p ≤ R.length
    · rw [pzpre_old x z]; exact ih p z h2.1
    · rw [show p = (x :: R).length by rw [List.length_cons]; omega, pzpre_all]; exact h2
/-- each item was fit when it came -/
theorem pzV_at {R : List zIt} (h : pzV R) {p : Nat} (hp : p < R.length) : pzok (pzpre R p) (pzat R p) := by
  have := pzV_pre R (p + 1) hp h
  rw [pzpre_s R p hp] at this
  exact this.2
theorem pzstk_o {x : zIt} (R : List zIt) (h : 1 ≤ x.sg ∧ x.sg ≤ 3) : pzstk (x :: R) = R.length :: pzstk R := if_pos h
theorem pzstk_c {x : zIt} (R : List zIt) (h : 4 ≤ x.sg ∧ x.sg ≤ 6) : pzstk (x :: R) = (pzstk R).tail := by
  rw [pzstk, if_neg (by omega), if_pos h]
theorem pzstk_e {x : zIt} (R : List zIt) (h : x.sg = 0 ∨ 7 ≤ x.sg) : pzstk (x :: R) = pzstk R := by
  rw [pzstk, if_neg (by omega), if_neg (by omega)]
theorem pz_cases (x : zIt) : (1 ≤ x.sg ∧ x.sg ≤ 3) ∨ (4 ≤ x.sg ∧ x.sg ≤ 6) ∨ (x.sg = 0 ∨ 7 ≤ x.sg) := by omega
/-- the stack: what stands below an open bracket is the stack before it -/
theorem pzstk_S {R : List zIt} (h : pzV R) : ∀ l1 q l2, pzstk R = l1 ++ q :: l2 → q < R.length ∧ (1 ≤ (pzat R q).sg ∧ (pzat R q).sg ≤ 3) ∧ l2 = pzstk (pzpre R q) := by
  induction R with
  | nil => intro l1 q l2 e; cases l1 <;> cases e
  | cons x R ih =>
    intro l1 q l2 e
    have old : ∀ l1, pzstk R = l1 ++ q :: l2 → q < (x :: R).length ∧ (1 ≤ (pzat (x :: R) q).sg ∧ (pzat (x :: R) q).sg ≤ 3) ∧ l2 = pzstk (pzpre (x :: R) q) := by
      intro l1 e
      obtain ⟨a, b, c⟩ := ih h.1 l1 q l2 e
      rw [pzat_old x a, pzpre_old x (Nat.le_of_lt a), List.length_cons]
      exact ⟨by omega, b, c⟩
    rcases pz_cases x with z | z | z
    · rw [pzstk_o R z] at e
      cases l1 with
      | nil =>
        injection e with e1 e2
        subst e1
        rw [pzat_new, pzpre_old x (Nat.le_refl _), pzpre_all, List.length_cons]
        exact ⟨by omega, z, e2.symm⟩
      | cons a l1 =>
        injection e with e1 e2
        exact old l1 e2
    · obtain ⟨q', l, e1, _⟩ := h.2.2.2.2.1 z
      rw [pzstk_c R z, e1] at e
      exact old (q' :: l1) (by rw [e1, List.cons_append, ← e]; rfl)
    · rw [pzstk_e R z] at e
      exact old l1 e
theorem pzstk_mem {R : List zIt} (h : pzV R) {q : Nat} (hq : q ∈ pzstk R) : q < R.length ∧ (1 ≤ (pzat R q).sg ∧ (pzat R q).sg ≤ 3) := by
  obtain ⟨l1, l2, e⟩ := List.append_of_mem hq
  obtain ⟨a, b, _⟩ := pzstk_S h l1 q l2 e
  exact ⟨a, b⟩
theorem pzstk_hd {R : List zIt} (h : pzV R) {q : Nat} {l : List Nat} (e : pzstk R = q :: l) : l = pzstk (pzpre R q) ∧ q ∉ l := by
  obtain ⟨a, b, c⟩ := pzstk_S h [] q l e
  refine ⟨c, fun z => ?_⟩
  rw [c] at z
  have := (pzstk_mem (pzV_pre R q (Nat.le_of_lt a) h) z).1
  rw [pzpre_len R q (Nat.le_of_lt a)] at this
  omega
theorem pzrw_ok {R : List zIt} (h : pzV R) (hp : pzph R ≠ 0) : pzrw R < R.length ∧ (pzat R (pzrw R)).sg = 8 ∧ ∀ q, pzrw R < q → q < R.length → (pzat R q).sg = 9 := by
  induction R with
  | nil => exact absurd rfl hp
  | cons x R ih =>
    rw [List.length_cons]
    by_cases z : x.sg = 8
    · have e : pzrw (x :: R) = R.length := if_pos z
      rw [e, pzat_new]
      exact ⟨by omega, z, fun q a b => by omega⟩
    · have e : pzrw (x :: R) = pzrw R := if_neg z
      have z9 : x.sg = 9 := by
        rw [pzph, if_neg z] at hp
        by_cases y : x.sg = 9
        · exact y
        · rw [if_neg y] at hp; exact absurd rfl hp
      have hp' : pzph R ≠ 0 := by
        intro y
        have := h.2.2.1.1 y
        omega
      obtain ⟨a, b, c⟩ := ih h.1 hp'
      rw [e, pzat_old x a]
      refine ⟨by omega, b, fun q q1 q2 => ?_⟩
      by_cases y : q < R.length
      · rw [pzat_old x y]; exact c q q1 y
      · rw [show q = R.length by omega, pzat_new]; exact z9
theorem pzlk_old {x : zIt} {R : List zIt} {p : Nat} (h1 : ¬ (4 ≤ x.sg ∧ x.sg ≤ 6 ∧ (pzstk R).head? = some p)) (h2 : ¬ (x.sg = 10 ∧ pzrw R = p)) : pzlk (x :: R) p = pzlk R p := if_neg (fun z => z.elim h1 h2)
theorem pz_10 {R : List zIt} {x : zIt} (h : pzok R x) (hx : x.sg = 10) : pzph R ≠ 0 := by
  intro y
  have := h.2.1.1 y
  omega
/-- each bracket that was opened is open still, or was closed -/
theorem pz_opn {R : List zIt} (h : pzV R) : ∀ p, p < R.length → (1 ≤ (pzat R p).sg ∧ (pzat R p).sg ≤ 3) → p ∈ pzstk R ∨ (p ∉ pzstk R ∧ p < pzlk R p ∧ pzlk R p < R.length ∧ pzstk (pzpre R (pzlk R p)) = p :: pzstk (pzpre R p) ∧ (pzat R (pzlk R p)).sg = (pzat R p).sg + 3) := by
  induction R with
  | nil => intro p hp; rw [List.length_nil] at hp; omega
  | cons x R ih =>
    intro p hp ho
    rw [List.length_cons] at hp
    by_cases z : p < R.length
    · rw [pzat_old x z] at ho
      have no10 : ¬ (x.sg = 10 ∧ pzrw R = p) := by
        rintro ⟨y1, y2⟩
        have := (pzrw_ok h.1 (pz_10 h.2 y1)).2.1
        rw [y2] at this
        omega
      rcases ih h.1 p z ho with a | ⟨a1, a2, a3, a4, a5⟩
      · rcases pz_cases x with y | y | y
        · left; rw [pzstk_o R y]; exact List.mem_cons_of_mem _ a
        · obtain ⟨q, l, e1, e2, e3, e4⟩ := h.2.2.2.2.1 y
          by_cases w : p = q
          · right
            subst w
            have el : pzlk (x :: R) p = R.length := if_pos (Or.inl ⟨y.1, y.2, by rw [e1]; rfl⟩)
            obtain ⟨d1, d2⟩ := pzstk_hd h.1 e1
            rw [pzstk_c R y, e1, el, List.tail_cons, pzpre_old x (Nat.le_refl _), pzpre_all, pzpre_old x (Nat.le_of_lt z), pzat_new, pzat_old x z, List.length_cons, ← d1]
            exact ⟨d2, z, by omega, e1, e2.symm⟩
          · left
            rw [pzstk_c R y, e1, List.tail_cons]
            rw [e1] at a
            exact (List.mem_cons.1 a).resolve_left w
        · left; rw [pzstk_e R y]; exact a
      · right
        have el : pzlk (x :: R) p = pzlk R p := pzlk_old (fun y => a1 (List.mem_of_mem_head? y.2.2)) no10
        rw [el, pzpre_old x (Nat.le_of_lt a3), pzpre_old x (Nat.le_of_lt z), pzat_old x a3, pzat_old x z, List.length_cons]
        refine ⟨?_, a2, by omega, a4, a5⟩
        rcases pz_cases x with y | y | y
        · rw [pzstk_o R y]
          intro w
          rcases List.mem_cons.1 w with w | w
          · omega
          · exact a1 w
        · rw [pzstk_c R y]; exact fun w => a1 (List.mem_of_mem_tail w)
        · rw [pzstk_e R y]; exact a1
    · left
      obtain rfl : p = R.length := by omega
      rw [pzat_new] at ho
      rw [pzstk_o R ho]
      exact List.mem_cons_self
theorem pz_cls {R : List zIt} (h : pzV R) : ∀ p, p < R.length → (4 ≤ (pzat R p).sg ∧ (pzat R p).sg ≤ 6) → ∃ q, pzstk (pzpre R p) = q :: pzstk (pzpre R (p + 1)) ∧ (pzat R q).sg + 3 = (pzat R p).sg ∧ (pzat R q).mk = (pzat R p).mk ∧ pzlk R q = p ∧ q < p ∧ q ∉ pzstk R := by
  induction R with
  | nil => intro p hp; rw [List.length_nil] at hp; omega
  | cons x R ih =>
    intro p hp ho
    rw [List.length_cons] at hp
    by_cases z : p < R.length
    · rw [pzat_old x z] at ho
      obtain ⟨q, a1, a2, a3, a4, a5, a6⟩ := ih h.1 p z ho
      have no10 : ¬ (x.sg = 10 ∧ pzrw R = q) := by
        rintro ⟨y1, y2⟩
        have := (pzrw_ok h.1 (pz_10 h.2 y1)).2.1
        rw [y2] at this
        omega
      refine ⟨q, ?_, ?_, ?_, ?_, a5, ?_⟩
      · rw [pzpre_old x (by omega), pzpre_old x (by omega)]; exact a1
      · rw [pzat_old x z, pzat_old x (by omega)]; exact a2
      · rw [pzat_old x z, pzat_old x (by omega)]; exact a3
      · rw [pzlk_old (fun y => a6 (List.mem_of_mem_head? y.2.2)) no10]; exact a4
      · rcases pz_cases x with y | y | y
        · rw [pzstk_o R y]
          intro w
          rcases List.mem_cons.1 w with w | w
          · omega
          · exact a6 w
        · rw [pzstk_c R y]; exact fun w => a6 (List.mem_of_mem_tail w)
        · rw [pzstk_e R y]; exact a6
    · obtain rfl : p = R.length := by omega
      rw [pzat_new] at ho
      obtain ⟨q, l, e1, e2, e3, e4⟩ := h.2.2.2.2.1 ho
      have hl : pzlk (x :: R) q = R.length := if_pos (Or.inl ⟨ho.1, ho.2, by rw [e1]; rfl⟩)
      have := pzpre_all (x :: R)
      rw [List.length_cons] at this
      refine ⟨q, ?_, ?_, ?_, hl, by omega, ?_⟩
      · rw [pzpre_old x (Nat.le_refl _), pzpre_all, this, pzstk_c R ho, e1, List.tail_cons]
      · rw [pzat_new, pzat_old x (by omega)]; exact e2
      · rw [pzat_new, pzat_old x (by omega)]; exact e3
      · rw [pzstk_c R ho, e1, List.tail_cons]; exact (pzstk_hd h.1 e1).2

theorem zt_pow (a m : Nat) (j : Nat) : (a ||| 2 ^ m).testBit j = (a.testBit j || decide (m = j)) := by
  rw [Nat.testBit_or, Nat.testBit_two_pow]
/-- the mark of an item is told from then on -/
theorem pzmk_s (x : zIt) (R : List zIt) (j : Nat) : (pzmk (x :: R)).testBit j = ((pzmk R).testBit j || decide (((1 ≤ x.sg ∧ x.sg ≤ 3) ∨ x.sg = 9) ∧ x.mk = j) || decide ((x.sg = 2 ∧ x.sd ≠ 0) ∧ x.sd - 1 = j)) := by
  rw [pzmk, Nat.testBit_or, Nat.testBit_or]
  congr 1
  · congr 1
    split
    · rename_i z; rw [Nat.testBit_two_pow]; exact decide_eq_decide.2 ⟨fun y => ⟨z, y⟩, fun y => y.2⟩
    · rename_i z; rw [Nat.zero_testBit]; exact (decide_eq_false (fun y => z y.1)).symm
  · split
    · rename_i z; rw [Nat.testBit_two_pow]; exact decide_eq_decide.2 ⟨fun y => ⟨z, y⟩, fun y => y.2⟩
    · rename_i z; rw [Nat.zero_testBit]; exact (decide_eq_false (fun y => z y.1)).symm
theorem pzmv_s (x : zIt) (R : List zIt) (j : Nat) : (pzmv (x :: R)).testBit j = ((pzmv R).testBit j || decide (x.sg = 3 ∧ x.mk = j)) := by
  rw [pzmv, Nat.testBit_or]
  congr 1
  split
  · rename_i z; rw [Nat.testBit_two_pow]; exact decide_eq_decide.2 ⟨fun y => ⟨z, y⟩, fun y => y.2⟩
  · rename_i z; rw [Nat.zero_testBit]; exact (decide_eq_false (fun y => z y.1)).symm
theorem pzsr_s (x : zIt) (R : List zIt) (j : Nat) : (pzsr (x :: R)).testBit j = ((pzsr R).testBit j || decide (x.sg = 7 ∧ x.mk = j)) := by
  rw [pzsr, Nat.testBit_or]
  congr 1
  split
  · rename_i z; rw [Nat.testBit_two_pow]; exact decide_eq_decide.2 ⟨fun y => ⟨z, y⟩, fun y => y.2⟩
  · rename_i z; rw [Nat.zero_testBit]; exact (decide_eq_false (fun y => z y.1)).symm
theorem pzmv_mk {R : List zIt} {j : Nat} (h : (pzmv R).testBit j = true) : (pzmk R).testBit j = true := by
  induction R with
  | nil => rw [pzmv, Nat.zero_testBit] at h; cases h
  | cons x R ih =>
    rw [pzmv_s, Bool.or_eq_true, decide_eq_true_eq] at h
    rw [pzmk_s]
    rcases h with h | h
    · rw [ih h]; rfl
    · rw [decide_eq_true (show ((1 ≤ x.sg ∧ x.sg ≤ 3) ∨ x.sg = 9) ∧ x.mk = j from ⟨Or.inl (by omega), h.2⟩), Bool.or_true]; rfl
theorem pz_op {R : List zIt} {j : Nat} (h : (pzmv R).testBit j = true) : pzop R j < R.length ∧ (pzat R (pzop R j)).sg = 3 ∧ (pzat R (pzop R j)).mk = j := by
  induction R with
  | nil => rw [pzmv, Nat.zero_testBit] at h; cases h
  | cons x R ih =>
    rw [pzmv_s, Bool.or_eq_true, decide_eq_true_eq] at h
    rw [List.length_cons]
    by_cases z : x.sg = 3 ∧ x.mk = j
    · have e : pzop (x :: R) j = R.length := if_pos z
      rw [e, pzat_new]
      exact ⟨by omega, z⟩
    · have e : pzop (x :: R) j = pzop R j := if_neg z
      obtain ⟨a, b⟩ := ih (h.resolve_right z)
      rw [e, pzat_old x a]
      exact ⟨by omega, b⟩
theorem pz_sx {R : List zIt} {j : Nat} (h : (pzsr R).testBit j = true) : pzsx R j < R.length ∧ (pzat R (pzsx R j)).sg = 7 ∧ (pzat R (pzsx R j)).mk = j := by
  induction R with
  | nil => rw [pzsr, Nat.zero_testBit] at h; cases h
  | cons x R ih =>
    rw [pzsr_s, Bool.or_eq_true, decide_eq_true_eq] at h
    rw [List.length_cons]
    by_cases z : x.sg = 7 ∧ x.mk = j
    · have e : pzsx (x :: R) j = R.length := if_pos z
      rw [e, pzat_new]
      exact ⟨by omega, z⟩
    · have e : pzsx (x :: R) j = pzsx R j := if_neg z
      obtain ⟨a, b⟩ := ih (h.resolve_right z)
      rw [e, pzat_old x a]
      exact ⟨by omega, b⟩
/-- an arrow, a star: the only one of its mark -/
theorem pz_op1 {R : List zIt} (h : pzV R) : ∀ p, p < R.length → (pzat R p).sg = 3 → pzop R (pzat R p).mk = p ∧ (pzmv R).testBit (pzat R p).mk = true := by
  induction R with
  | nil => intro p hp; rw [List.length_nil] at hp; omega
  | cons x R ih =>
    intro p hp h3
    rw [List.length_cons] at hp
    by_cases z : p < R.length
    · rw [pzat_old x z] at h3 ⊢
      obtain ⟨a, b⟩ := ih h.1 p z h3
      have nx : ¬ (x.sg = 3 ∧ x.mk = (pzat R p).mk) := by
        rintro ⟨y1, y2⟩
        have := (h.2.2.2.1 (by omega)).2.1
        rw [y2, pzmv_mk b] at this
        cases this
      refine ⟨?_, by rw [pzmv_s, b]; rfl⟩
      rw [pzop, if_neg nx]
      exact a
    · obtain rfl : p = R.length := by omega
      rw [pzat_new] at h3 ⊢
      exact ⟨if_pos ⟨h3, rfl⟩, by rw [pzmv_s, decide_eq_true (And.intro h3 rfl), Bool.or_true]⟩
theorem pz_sx1 {R : List zIt} (h : pzV R) : ∀ p, p < R.length → (pzat R p).sg = 7 → pzsx R (pzat R p).mk = p ∧ (pzsr R).testBit (pzat R p).mk = true := by
  induction R with
  | nil => intro p hp; rw [List.length_nil] at hp; omega
  | cons x R ih =>
    intro p hp h3
    rw [List.length_cons] at hp
    by_cases z : p < R.length
    · rw [pzat_old x z] at h3 ⊢
      obtain ⟨a, b⟩ := ih h.1 p z h3
      have nx : ¬ (x.sg = 7 ∧ x.mk = (pzat R p).mk) := by
        rintro ⟨y1, y2⟩
        have := (h.2.2.2.2.2.1 y1).2
        rw [y2, b] at this
        cases this
      refine ⟨?_, by rw [pzsr_s, b]; rfl⟩
      rw [pzsx, if_neg nx]
      exact a
    · obtain rfl : p = R.length := by omega
      rw [pzat_new] at h3 ⊢
      exact ⟨if_pos ⟨h3, rfl⟩, by rw [pzsr_s, decide_eq_true (And.intro h3 rfl), Bool.or_true]⟩
/-- how many: marks, stars, words bound the items -/
def pzno : List zIt → Nat
  | [] => 0
  | x :: R => pzno R + (if 1 ≤ x.sg ∧ x.sg ≤ 3 then 1 else 0)
def pznv : List zIt → Nat
  | [] => 0
  | x :: R => pznv R + (if x.sg = 9 then 1 else 0)
def pzns7 : List zIt → Nat
  | [] => 0
  | x :: R => pzns7 R + (if x.sg = 7 then 1 else 0)
def pzc0 : List zIt → Nat
  | [] => 0
  | x :: R => pzc0 R + (if x.sg = 0 ∨ x.sg = 10 then 1 else 0)
theorem zcn_bit {a m n : Nat} (h : a.testBit m = false) (hm : m < n) : zcn (fun j => (a ||| 2 ^ m).testBit j) n = zcn (fun j => a.testBit j) n + 1 :=
  zcn_inc (p := m) h (by rw [zt_pow, decide_eq_true rfl, Bool.or_true]) n hm (fun q hq => by rw [zt_pow, decide_eq_false (fun y => hq y.symm), Bool.or_false])
theorem zcn_or_le {a b n : Nat} : zcn (fun j => a.testBit j) n ≤ zcn (fun j => (a ||| b).testBit j) n :=
  zcn_mono n (fun q _ h => by rw [Nat.testBit_or, h]; rfl)
theorem pz_marks {R : List zIt} (h : pzV R) : pzno R + pznv R ≤ zcn (fun j => (pzmk R).testBit j) 10 := by
  induction R with
  | nil => exact Nat.zero_le _
  | cons x R ih =>
    have a := ih h.1
    rw [pzno, pznv, pzmk]
    refine Nat.le_trans ?_ zcn_or_le
    by_cases z : (1 ≤ x.sg ∧ x.sg ≤ 3) ∨ x.sg = 9
    · have f : (pzmk R).testBit x.mk = false := by
        rcases z with z | z
        · exact (h.2.2.2.1 z).2.1
        · exact h.2.2.2.2.2.2.1 z
      rw [if_pos z, zcn_bit f h.2.1.2.1]
      rcases z with z | z
      · rw [if_pos z, if_neg (by omega)]; omega
      · rw [if_pos z, if_neg (by omega)]; omega
    · rw [if_neg z, if_neg (fun y => z (Or.inl y)), if_neg (fun y => z (Or.inr y)), Nat.or_zero]
      exact a
theorem pz_stars {R : List zIt} (h : pzV R) : pzns7 R ≤ zcn (fun j => (pzsr R).testBit j) 10 := by
  induction R with
  | nil => exact Nat.zero_le _
  | cons x R ih =>
    have a := ih h.1
    rw [pzns7, pzsr]
    by_cases z : x.sg = 7
    · rw [if_pos z, if_pos z, zcn_bit (h.2.2.2.2.2.1 z).2 h.2.1.2.1]; omega
    · rw [if_neg z, if_neg z, Nat.or_zero]; exact a
theorem pz_wn {R : List zIt} (h : pzV R) : pzwn R ≤ 40 := by
  induction R with
  | nil => exact Nat.zero_le _
  | cons x R ih =>
    have a := ih h.1
    rw [pzwn]
    by_cases z : x.sg = 0 ∨ x.sg = 8 ∨ x.sg = 9
    · rw [if_pos z]; have := h.2.2.2.2.2.2.2 z; omega
    · rw [if_neg z]; exact a
theorem pz_c0 {R : List zIt} (h : pzV R) : pzc0 R + (if pzph R = 0 then 0 else 1) ≤ pzwn R := by
  induction R with
  | nil => exact Nat.le_refl _
  | cons x R ih =>
    have a := ih h.1
    obtain ⟨b1, b2, b3⟩ := h.2.2.1
    rw [pzc0, pzwn, pzph]
    by_cases z8 : x.sg = 8
    · rw [if_pos z8, if_pos (show x.sg = 0 ∨ x.sg = 8 ∨ x.sg = 9 by omega), if_neg (show ¬ (x.sg = 0 ∨ x.sg = 10) by omega), if_neg (by omega)]; split at a <;> omega
    · by_cases z9 : x.sg = 9
      · rw [if_neg z8, if_pos z9, if_pos (show x.sg = 0 ∨ x.sg = 8 ∨ x.sg = 9 by omega), if_neg (show ¬ (x.sg = 0 ∨ x.sg = 10) by omega), if_neg (by omega)]; split at a <;> omega
      · rw [if_neg z8, if_neg z9, if_pos rfl]
        by_cases z0 : x.sg = 0
        · rw [if_pos (Or.inl z0), if_pos (Or.inl z0)]; split at a <;> omega
        · by_cases z10 : x.sg = 10
          · rw [if_neg (pz_10 h.2 z10)] at a
            rw [if_pos (Or.inr z10), if_neg (by omega)]; omega
          · rw [if_neg (by omega), if_neg (by omega)]; split at a <;> omega
/-- items: words, brackets opened and closed, stars, ends of rows -/
theorem pzph_le (R : List zIt) : pzph R ≤ 2 := by
  cases R with
  | nil => exact Nat.zero_le _
  | cons x R => rw [pzph]; split; omega; split <;> omega
theorem pz_len1 {R : List zIt} (h : pzV R) : R.length + (pzstk R).length + (if pzph R = 2 then 1 else 0) ≤ pzwn R + 2 * pzno R + pzns7 R + pznv R := by
  induction R with
  | nil => exact Nat.le_refl _
  | cons x R ih =>
    have a := ih h.1
    have hle := pzph_le R
    obtain ⟨b1, b2, b3⟩ := h.2.2.1
    have hsg := h.2.1.1
    have a' : pzph R = 2 → R.length + (pzstk R).length + 1 ≤ pzwn R + 2 * pzno R + pzns7 R + pznv R := fun y => by rw [if_pos y] at a; exact a
    have a0 : R.length + (pzstk R).length ≤ pzwn R + 2 * pzno R + pzns7 R + pznv R := by split at a <;> omega
    rw [pzwn, pzno, pzns7, pznv, pzph, List.length_cons]
    rcases pz_cases x with y | y | y
    · rw [pzstk_o R y, List.length_cons, if_neg (show ¬ x.sg = 8 by omega), if_neg (show ¬ x.sg = 9 by omega), if_neg (show ¬ (0 : Nat) = 2 by decide), if_neg (show ¬ (x.sg = 0 ∨ x.sg = 8 ∨ x.sg = 9) by omega), if_pos y, if_neg (show ¬ x.sg = 7 by omega)]
      omega
    · obtain ⟨q, l, e1, _⟩ := h.2.2.2.2.1 y
      rw [e1, List.length_cons] at a0
      rw [pzstk_c R y, e1, List.tail_cons, if_neg (show ¬ x.sg = 8 by omega), if_neg (show ¬ x.sg = 9 by omega), if_neg (show ¬ (0 : Nat) = 2 by decide), if_neg (show ¬ (x.sg = 0 ∨ x.sg = 8 ∨ x.sg = 9) by omega), if_neg (show ¬ (1 ≤ x.sg ∧ x.sg ≤ 3) by omega), if_neg (show ¬ x.sg = 7 by omega)]
      omega
    · rw [pzstk_e R y, if_neg (show ¬ (1 ≤ x.sg ∧ x.sg ≤ 3) by omega)]
      by_cases z8 : x.sg = 8
      · rw [if_pos z8, if_neg (show ¬ (1 : Nat) = 2 by decide), if_pos (show x.sg = 0 ∨ x.sg = 8 ∨ x.sg = 9 by omega)]
        omega
      · by_cases z9 : x.sg = 9
        · rw [if_neg z8, if_pos z9, if_pos rfl, if_pos (show x.sg = 0 ∨ x.sg = 8 ∨ x.sg = 9 by omega), if_pos z9]
          omega
        · rw [if_neg z8, if_neg z9, if_neg (show ¬ (0 : Nat) = 2 by decide), if_neg z9]
          by_cases z7 : x.sg = 7
          · rw [if_pos z7]; omega
          · by_cases z0 : x.sg = 0
            · rw [if_pos (show x.sg = 0 ∨ x.sg = 8 ∨ x.sg = 9 by omega)]; omega
            · have := pz_10 h.2 (by omega)
              have := a' (by omega)
              omega
theorem pz_len {R : List zIt} (h : pzV R) : R.length + (pzstk R).length ≤ 70 := by
  have a := pz_len1 h
  have b := pz_marks h
  have c := pz_stars h
  have d := pz_wn h
  have e := zcn_le (fun j => (pzmk R).testBit j) 10
  have f := zcn_le (fun j => (pzsr R).testBit j) 10
  split at a <;> omega
theorem pz_isw (R : List zIt) : ∀ k, k ≤ R.length → zcn (zisw (pzT R)) k = pzc0 (pzpre R k) := by
  intro k
  induction k with
  | zero => intro _; rw [pzpre_0]; rfl
  | succ k ih =>
    intro hk
    rw [pzpre_s R k hk, pzc0, ← ih (by omega), zcn]
    unfold zisw
    have e : (pzT R).sg k = (pzat R k).sg := rfl
    rw [e]
    by_cases z : (pzat R k).sg = 0 ∨ (pzat R k).sg = 10
    · rw [decide_eq_true z, if_pos rfl, if_pos z]
    · rw [decide_eq_false z, if_neg z, if_neg (by decide)]
theorem pz_Sh40 {R : List zIt} (h : pzV R) : zSh40 (pzT R) := by
  refine ⟨?_, fun p hp _ => (pzV_at h hp).1.2.2.1⟩
  have := pz_isw R R.length (Nat.le_refl _)
  rw [pzpre_all] at this
  have e : (pzT R).n = R.length := rfl
  rw [e, this]
  have a := pz_c0 h
  have b := pz_wn h
  omega
theorem pz_ShW {R : List zIt} (h : pzV R) (he : pzstk R = []) (hl : ∀ m, m < 10 → (pzmv R).testBit m = (pzsr R).testBit m) : zShW (pzT R) := by
  have hn : (pzT R).n = R.length := rfl
  refine ⟨?_, ?_, ?_, ?_, ?_, ?_, ?_, ?_, ?_⟩
  · have := pz_len h; rw [hn]; omega
  · exact congrArg pzstk (pzpre_0 R)
  · exact (congrArg pzstk (pzpre_all R)).trans he
  · intro p hp q hq
    rw [hn] at hp
    have := (pzstk_mem (pzV_pre R p hp h) hq).1
    rw [pzpre_len R p hp] at this
    exact this
  · intro p hp ho
    have ho' : 1 ≤ (pzat R p).sg ∧ (pzat R p).sg ≤ 3 := by
      have e : (pzT R).sg p = (pzat R p).sg := rfl
      rw [e] at ho; omega
    refine ⟨?_, ?_⟩
    · show pzstk (pzpre R (p + 1)) = p :: pzstk (pzpre R p)
      rw [pzpre_s R p hp, pzstk_o _ ho', pzpre_len R p (Nat.le_of_lt hp)]
    · rcases pz_opn h p hp ho' with a | ⟨a1, a2, a3, a4, a5⟩
      · rw [he] at a; cases a
      · exact ⟨a2, a3, a4, a5⟩
  · intro p hp ho
    have ho' : 4 ≤ (pzat R p).sg ∧ (pzat R p).sg ≤ 6 := by
      have e : (pzT R).sg p = (pzat R p).sg := rfl
      rw [e] at ho; omega
    obtain ⟨q, a1, a2, a3, a4, _⟩ := pz_cls h p hp ho'
    exact ⟨q, a1, a2, a3, a4⟩
  · intro p hp ho
    show pzstk (pzpre R (p + 1)) = pzstk (pzpre R p)
    rw [pzpre_s R p hp, pzstk_e _ ho]
  · intro p hp h7
    have hok := pzV_at h hp
    obtain ⟨a, b⟩ := pz_sx1 h p hp h7
    have b' := b
    rw [← hl _ hok.1.2.1] at b'
    obtain ⟨c1, c2, c3⟩ := pz_op b'
    refine ⟨fun q hq => ?_, a, c2, c3, c1⟩
    have hq1 := (pzstk_mem (pzV_pre R p (Nat.le_of_lt hp) h) hq).1
    rw [pzpre_len R p (Nat.le_of_lt hp)] at hq1
    have := (hok.2.2.2.2.1 h7).1 q hq
    rw [pzat_pre R p q hq1 (Nat.le_of_lt hp)] at this
    exact this
  · intro p hp h3
    have hok := pzV_at h hp
    obtain ⟨a, b⟩ := pz_op1 h p hp h3
    have b' := b
    rw [hl _ hok.1.2.1] at b'
    obtain ⟨c1, c2, c3⟩ := pz_sx b'
    exact ⟨a, c1, c2, c3⟩
theorem pz_row {R : List zIt} (h : pzV R) : ∀ p, p < R.length → (pzat R p).sg = 8 → (pzph R ≠ 0 ∧ pzrw R = p) ∨ (p < pzlk R p ∧ pzlk R p < R.length ∧ (pzat R (pzlk R p)).sg = 10 ∧ (∀ q, p < q → q < pzlk R p → (pzat R q).sg = 9) ∧ (pzph R ≠ 0 → pzrw R ≠ p)) := by
  induction R with
  | nil => intro p hp; rw [List.length_nil] at hp; omega
  | cons x R ih =>
    intro p hp h8
    rw [List.length_cons] at hp
    have hle := pzph_le R
    obtain ⟨b1, b2, b3⟩ := h.2.2.1
    by_cases z : p < R.length
    · rw [pzat_old x z] at h8
      rcases ih h.1 p z h8 with ⟨a1, a2⟩ | ⟨a1, a2, a3, a4, a5⟩
      · by_cases z10 : x.sg = 10
        · right
          have el : pzlk (x :: R) p = R.length := if_pos (Or.inr ⟨z10, a2⟩)
          obtain ⟨c1, c2, c3⟩ := pzrw_ok h.1 a1
          rw [el, pzat_new, List.length_cons]
          refine ⟨z, by omega, z10, fun q q1 q2 => ?_, fun y => ?_⟩
          · rw [pzat_old x q2]; exact c3 q (by omega) q2
          · rw [pzph, if_neg (by omega), if_neg (by omega)] at y; exact absurd rfl y
        · left
          have z9 : x.sg = 9 := by omega
          rw [pzph, pzrw, if_neg (by omega), if_pos z9, if_neg (by omega)]
          exact ⟨by decide, a2⟩
      · right
        have el : pzlk (x :: R) p = pzlk R p := by
          refine pzlk_old (fun y => ?_) (fun y => ?_)
          · have := (pzstk_mem h.1 (List.mem_of_mem_head? y.2.2)).2
            omega
          · exact a5 (pz_10 h.2 y.1) y.2
        rw [el, pzat_old x a2, List.length_cons]
        refine ⟨a1, by omega, a3, fun q q1 q2 => ?_, fun y => ?_⟩
        · rw [pzat_old x (by omega)]; exact a4 q q1 q2
        · rw [pzrw]
          by_cases z8 : x.sg = 8
          · rw [if_pos z8]; omega
          · rw [if_neg z8]
            refine a5 (fun w => ?_)
            have := b1 w
            rw [pzph, if_neg z8, if_neg (by omega)] at y
            exact y rfl
    · left
      obtain rfl : p = R.length := by omega
      rw [pzat_new] at h8
      rw [pzph, pzrw, if_pos h8, if_pos h8]
      exact ⟨by decide, rfl⟩
theorem pz_ShR {R : List zIt} (h : pzV R) (he : pzph R = 0) : zShR (pzT R) := by
  refine ⟨fun p hp h8 => ?_, fun p hp hq => ?_, fun hp => ?_⟩
  · rcases pz_row h p hp h8 with a | ⟨a1, a2, a3, a4, _⟩
    · exact absurd he a.1
    · exact ⟨a1, a2, a3, a4⟩
  · have hok := (pzV_at h hp).2.1
    rw [pzpre_s R p (by exact Nat.lt_of_succ_lt hp), pzph] at hok
    have e1 : (pzT R).sg (p + 1) = (pzat R (p + 1)).sg := rfl
    have e2 : (pzT R).sg p = (pzat R p).sg := rfl
    rw [e1] at hq
    rw [e2]
    by_cases z8 : (pzat R p).sg = 8
    · exact Or.inl z8
    · by_cases z9 : (pzat R p).sg = 9
      · exact Or.inr z9
      · rw [if_neg z8, if_neg z9] at hok
        have := hok.1 rfl
        omega
  · have hok := (pzV_at h hp).2.1
    rw [pzpre_0] at hok
    have := hok.1 rfl
    have e1 : (pzT R).sg 0 = (pzat R 0).sg := rfl
    rw [e1]
    omega
