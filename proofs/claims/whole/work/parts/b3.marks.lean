/-! the marks of the items: told once, their bases, kinds, depths, words -/
abbrev pztl (x : zIt) (m : Nat) : Prop := (((1 ≤ x.sg ∧ x.sg ≤ 3) ∨ x.sg = 9) ∧ x.mk = m) ∨ (x.sg = 2 ∧ x.sd = m + 1)
theorem pzmk_t (x : zIt) (R : List zIt) (j : Nat) : (pzmk (x :: R)).testBit j = ((pzmk R).testBit j || decide (pztl x j)) := by
  rw [pzmk_s, Bool.or_assoc]
  congr 1
  rw [← Bool.decide_or]
  refine decide_eq_decide.2 ⟨fun y => ?_, fun y => ?_⟩
  · rcases y with y | y
    · exact Or.inl y
    · exact Or.inr ⟨y.1.1, by omega⟩
  · rcases y with y | y
    · exact Or.inl y
    · exact Or.inr ⟨⟨y.1, by omega⟩, by omega⟩
theorem pz_told {R : List zIt} {m : Nat} : ∀ p, p < R.length → pztl (pzat R p) m → (pzmk R).testBit m = true := by
  induction R with
  | nil => intro p hp; rw [List.length_nil] at hp; omega
  | cons x R ih =>
    intro p hp h
    rw [List.length_cons] at hp
    rw [pzmk_t]
    by_cases z : p < R.length
    · rw [pzat_old x z] at h
      rw [ih p z h]; rfl
    · obtain rfl : p = R.length := by omega
      rw [pzat_new] at h
      rw [decide_eq_true h, Bool.or_true]
theorem pz_teller {R : List zIt} {m : Nat} (h : (pzmk R).testBit m = true) : ∃ p, p < R.length ∧ pztl (pzat R p) m := by
  induction R with
  | nil => rw [pzmk, Nat.zero_testBit] at h; cases h
  | cons x R ih =>
    rw [pzmk_t, Bool.or_eq_true, decide_eq_true_eq] at h
    rw [List.length_cons]
    rcases h with h | h
    · obtain ⟨p, a, b⟩ := ih h
      exact ⟨p, by omega, by rw [pzat_old x a]; exact b⟩
    · exact ⟨R.length, by omega, by rw [pzat_new]; exact h⟩
theorem pz_fresh {R : List zIt} {x : zIt} {m : Nat} (h : pzok R x) (ht : pztl x m) : (pzmk R).testBit m = false := by
  rcases ht with ⟨a, b⟩ | ⟨a, b⟩
  · rcases a with a | a
    · rw [← b]; exact (h.2.2.1 a).2.1
    · rw [← b]; exact h.2.2.2.2.2.1 a
  · have := ((h.2.2.1 (by omega)).2.2 (by omega)).2
    rw [show x.sd - 1 = m by omega] at this
    exact this
/-- what is settled where a mark is told stays -/
theorem pz_stay {α : Type} (F : List zIt → Nat → α) (h2 : ∀ x R m, ¬ pztl x m → F (x :: R) m = F R m) {R : List zIt} (h : pzV R) {m : Nat} : ∀ p, p < R.length → pztl (pzat R p) m → F R m = F (pzat R p :: pzpre R p) m := by
  induction R with
  | nil => intro p hp; rw [List.length_nil] at hp; omega
  | cons x R ih =>
    intro p hp ht
    rw [List.length_cons] at hp
    by_cases z : p < R.length
    · rw [pzat_old x z] at ht ⊢
      rw [pzpre_old x (Nat.le_of_lt z), h2 x R m ?_]
      · exact ih h.1 p z ht
      · intro y
        have := pz_fresh h.2 y
        rw [pz_told p z ht] at this
        cases this
    · obtain rfl : p = R.length := by omega
      rw [pzat_new, pzpre_old x (Nat.le_refl _), pzpre_all]
theorem pz_one {R : List zIt} (h : pzV R) {m p q : Nat} (hp : p < R.length) (hq : q < R.length) (h1 : pztl (pzat R p) m) (h2 : pztl (pzat R q) m) : p = q := by
  have key : ∀ p q, p < q → q < R.length → pztl (pzat R p) m → pztl (pzat R q) m → False := by
    intro p q hpq hq h1 h2
    have a := pz_fresh (pzV_at h hq) h2
    have e := pzat_pre R q p hpq (Nat.le_of_lt hq)
    rw [pz_told (R := pzpre R q) p (by rw [pzpre_len R q (Nat.le_of_lt hq)]; exact hpq) (by rw [e]; exact h1)] at a
    cases a
  rcases Nat.lt_trichotomy p q with z | z | z
  · exact (key p q z hq h1 h2).elim
  · exact z
  · exact (key q p z hp h2 h1).elim
theorem pz_tlm {x : zIt} (h : (1 ≤ x.sg ∧ x.sg ≤ 3) ∨ x.sg = 9) : pztl x x.mk := Or.inl ⟨h, rfl⟩
theorem pzsd_none {R : List zIt} {m : Nat} (h : (pzmk R).testBit m = false) : pzsd R m = none := by
  induction R with
  | nil => rfl
  | cons x R ih =>
    rw [pzmk_t, Bool.or_eq_false_iff, decide_eq_false_iff_not] at h
    rw [pzsd, if_neg (fun z => h.2 (Or.inl ⟨Or.inl (by omega), z.2⟩))]
    exact ih h.1
theorem pzsd_at {R : List zIt} (h : pzV R) {p : Nat} (hp : p < R.length) (ho : 1 ≤ (pzat R p).sg ∧ (pzat R p).sg ≤ 3) : pzsd R (pzat R p).mk = if (pzat R p).sd = 0 then none else some ((pzat R p).sd - 1) := by
  rw [pz_stay pzsd (fun x R m y => ?_) h p hp (pz_tlm (Or.inl ho)), pzsd]
  · by_cases z : (pzat R p).sg = 2
    · rw [if_pos ⟨z, rfl⟩]
    · rw [if_neg (fun y => z y.1), pzsd_none ((pzV_at h hp).2.2.1 ho).2.1, if_pos ((pzV_at h hp).1.2.2.2.2 z)]
  · rw [pzsd, if_neg]
    exact fun z => y (Or.inl ⟨Or.inl (by omega), z.2⟩)
-- what is put in around
def pzor (R : List zIt) : List Nat → Nat
  | [] => 0
  | q :: l => pzor R l ||| (if (pzat R q).sg = 1 then 2 ^ (pzat R q).mk else 0)
def pzar (R : List zIt) : Nat := pzor R (pzstk R)
theorem pzor_bit {R : List zIt} {j : Nat} : ∀ l, (pzor R l).testBit j = true → ∃ q, q ∈ l ∧ (pzat R q).sg = 1 ∧ (pzat R q).mk = j := by
  intro l
  induction l with
  | nil => intro h; rw [pzor, Nat.zero_testBit] at h; cases h
  | cons q l ih =>
    intro h
    rw [pzor, Nat.testBit_or, Bool.or_eq_true] at h
    rcases h with h | h
    · obtain ⟨a, b, c⟩ := ih h
      exact ⟨a, List.mem_cons_of_mem _ b, c⟩
    · by_cases z : (pzat R q).sg = 1
      · rw [if_pos z, Nat.testBit_two_pow, decide_eq_true_eq] at h
        exact ⟨q, List.mem_cons_self, z, h⟩
      · rw [if_neg z, Nat.zero_testBit] at h; cases h
theorem pzor_old (x : zIt) {R : List zIt} : ∀ l, (∀ q, q ∈ l → q < R.length) → pzor (x :: R) l = pzor R l := by
  intro l
  induction l with
  | nil => intro _; rfl
  | cons q l ih =>
    intro h
    rw [pzor, pzor, ih (fun a b => h a (List.mem_cons_of_mem _ b)), pzat_old x (h q List.mem_cons_self)]
def pzlr : List zIt → Nat
  | [] => 0
  | x :: _ => if x.sg = 9 then 2 ^ x.mk else 0
def pzba : List zIt → Nat → Nat
  | [], _ => 0
  | x :: R, m => pzba R m ||| (if pztl x m ∨ (x.sg = 7 ∧ x.mk = m) then pzar R else 0) ||| (if x.sg = 2 ∧ x.sd = m + 1 then 2 ^ x.mk else 0) ||| (if x.sg = 9 ∧ x.mk = m then pzlr R else 0)
def pzkd : List zIt → Nat → Nat
  | [], _ => 0
  | x :: R, m => if x.sg = 2 ∧ x.sd = m + 1 then 2 else if pztl x m then (if x.sg = 1 then 0 else if x.sg = 2 then 1 else if x.sg = 3 then 3 else 4) else pzkd R m
def pzdp : List zIt → Nat → Nat
  | [], _ => 0
  | x :: R, m => if pztl x m then (pzstk R).length else pzdp R m
def pzrk : List zIt → Nat → Nat
  | [], _ => 0
  | x :: R, m => if x.sg = 2 ∧ x.sd = m + 1 then 200 else if pztl x m then (if x.sg = 1 then R.length else if x.sg = 9 then 200 + R.length else 100) else pzrk R m
theorem pzrk_at {R : List zIt} (h : pzV R) {p m : Nat} (hp : p < R.length) (ht : pztl (pzat R p) m) : pzrk R m = if (pzat R p).sg = 2 ∧ (pzat R p).sd = m + 1 then 200 else if (pzat R p).sg = 1 then p else if (pzat R p).sg = 9 then 200 + p else 100 := by
  rw [pz_stay pzrk (fun x R m y => ?_) h p hp ht, pzrk, if_pos ht, pzpre_len R p (Nat.le_of_lt hp)]
  rw [pzrk, if_neg (fun z => y (Or.inr z)), if_neg y]
/-- where a base's bit comes from -/
theorem pzba_bit {R : List zIt} (h : pzV R) {m j : Nat} : (pzba R m).testBit j = true → ∃ p, p < R.length ∧ (((pztl (pzat R p) m ∨ ((pzat R p).sg = 7 ∧ (pzat R p).mk = m)) ∧ ∃ q, q < p ∧ (pzat R q).sg = 1 ∧ (pzat R q).mk = j) ∨ (((pzat R p).sg = 2 ∧ (pzat R p).sd = m + 1) ∧ (pzat R p).mk = j) ∨ (((pzat R p).sg = 9 ∧ (pzat R p).mk = m) ∧ ∃ q, p = q + 1 ∧ (pzat R q).sg = 9 ∧ (pzat R q).mk = j)) := by
  induction R with
  | nil => intro hb; rw [pzba, Nat.zero_testBit] at hb; cases hb
  | cons x R ih =>
    intro hb
    rw [pzba, Nat.testBit_or, Nat.testBit_or, Nat.testBit_or, Bool.or_eq_true, Bool.or_eq_true, Bool.or_eq_true] at hb
    rw [List.length_cons]
    rcases hb with ((hb | hb) | hb) | hb
    · obtain ⟨p, a, b⟩ := ih h.1 hb
      refine ⟨p, by omega, ?_⟩
      rw [pzat_old x a]
      rcases b with ⟨b, q, c1, c2⟩ | b | ⟨b, q, c1, c2⟩
      · exact Or.inl ⟨b, q, c1, by rw [pzat_old x (by omega)]; exact c2⟩
      · exact Or.inr (Or.inl b)
      · exact Or.inr (Or.inr ⟨b, q, c1, by rw [pzat_old x (by omega)]; exact c2⟩)
    · refine ⟨R.length, by omega, Or.inl ?_⟩
      rw [pzat_new]
      split at hb
      · rename_i z
        obtain ⟨q, a, b⟩ := pzor_bit _ hb
        have := (pzstk_mem h.1 a).1
        exact ⟨z, q, this, by rw [pzat_old x this]; exact b⟩
      · rw [Nat.zero_testBit] at hb; cases hb
    · refine ⟨R.length, by omega, Or.inr (Or.inl ?_)⟩
      rw [pzat_new]
      split at hb
      · rename_i z
        rw [Nat.testBit_two_pow, decide_eq_true_eq] at hb
        exact ⟨z, hb⟩
      · rw [Nat.zero_testBit] at hb; cases hb
    · refine ⟨R.length, by omega, Or.inr (Or.inr ?_)⟩
      rw [pzat_new]
      split at hb
      · rename_i z
        refine ⟨z, ?_⟩
        cases R with
        | nil => rw [pzlr, Nat.zero_testBit] at hb; cases hb
        | cons y R =>
          rw [pzlr] at hb
          refine ⟨R.length, rfl, ?_⟩
          rw [pzat_old x (by rw [List.length_cons]; omega), pzat_new]
          split at hb
          · rename_i w
            rw [Nat.testBit_two_pow, decide_eq_true_eq] at hb
            exact ⟨w, hb⟩
          · rw [Nat.zero_testBit] at hb; cases hb
      · rw [Nat.zero_testBit] at hb; cases hb
/-- bases grow in rank, and are told -/
theorem pz_rank {R : List zIt} (h : pzV R) (hl : ∀ m, m < 10 → (pzmv R).testBit m = (pzsr R).testBit m) {m j : Nat} (hb : (pzba R m).testBit j = true) : pzrk R j < pzrk R m ∧ (pzmk R).testBit j = true := by
  have hn := pz_len h
  obtain ⟨p, hp, hc⟩ := pzba_bit h hb
  rcases hc with ⟨a, q, c1, c2, c3⟩ | ⟨a, c⟩ | ⟨a, q, c1, c2, c3⟩
  · have hq : q < R.length := by omega
    have tq : pztl (pzat R q) j := by rw [← c3]; exact pz_tlm (by omega)
    refine ⟨?_, pz_told q hq tq⟩
    have e := pzrk_at h hq tq
    rw [if_neg (by omega), if_pos c2] at e
    rw [e]
    rcases a with a | a
    · rw [pzrk_at h hp a]
      split
      · omega
      · split
        · exact c1
        · split <;> omega
    · have b := (pz_sx1 h p hp a.1).2
      rw [a.2, ← hl m (by rw [← a.2]; exact (pzV_at h hp).1.2.1)] at b
      obtain ⟨d1, d2, d3⟩ := pz_op b
      have t : pztl (pzat R (pzop R m)) m := Or.inl ⟨Or.inl (by omega), d3⟩
      rw [pzrk_at h d1 t, if_neg (by omega), if_neg (by omega), if_neg (by omega)]
      omega
  · have t1 : pztl (pzat R p) m := Or.inr a
    have t2 : pztl (pzat R p) j := by rw [← c]; exact pz_tlm (by omega)
    refine ⟨?_, pz_told p hp t2⟩
    have := ((pzV_at h hp).2.2.1 (by omega)).2.2 (by omega)
    rw [pzrk_at h hp t1, pzrk_at h hp t2, if_pos a, if_neg (by omega), if_neg (by omega), if_neg (by omega)]
    omega
  · have t1 : pztl (pzat R p) m := by rw [← a.2]; exact pz_tlm (by omega)
    have t2 : pztl (pzat R q) j := by rw [← c3]; exact pz_tlm (by omega)
    refine ⟨?_, pz_told q (by omega) t2⟩
    rw [pzrk_at h hp t1, pzrk_at h (by omega) t2, if_neg (by omega), if_neg (by omega), if_pos c2, if_neg (by omega), if_neg (by omega), if_pos a.1]
    omega
theorem zwar_rank {n : Nat} {h : Nat → Nat} {rk : Nat → Nat} (hr : ∀ m j, (h m).testBit j = true → rk j < rk m) : ∀ k m j, (zwar n h k m).testBit j = true → rk j < rk m := by
  intro k
  induction k with
  | zero => exact hr
  | succ k ih =>
    intro m j hb
    rw [zwar] at hb
    unfold zfw at hb
    split at hb
    · rename_i z
      rw [Nat.testBit_or, Bool.or_eq_true] at hb
      rcases hb with hb | hb
      · exact ih m j hb
      · have := ih m k z.2
        have := ih k j hb
        omega
    · exact ih m j hb
theorem zcy_mk {mu : Nat → Nat} : ∀ n, (∀ m, m < n → (mu m).testBit m = false) → zcy mu n = false := by
  intro n
  induction n with
  | zero => intro _; rfl
  | succ n ih =>
    intro h
    rw [zcy, ih (fun m hm => h m (by omega)), h n (by omega)]
    rfl
theorem zini_no (ba : Nat → Nat) (ik : Nat → Nat) (m : Nat) : ∀ j, zini ba ik (fun _ _ => false) m j = ba m := by
  intro j
  induction j with
  | zero => rfl
  | succ j ih => rw [zini, ih, if_neg (by decide), Nat.or_zero]
theorem pz_cy {R : List zIt} (h : pzV R) (hl : ∀ m, m < 10 → (pzmv R).testBit m = (pzsr R).testBit m) (n : Nat) (ik : Nat → Nat) : zcy (zmu n (pzba R) ik (fun _ _ => false)) n = false := by
  refine zcy_mk n (fun m _ => ?_)
  unfold zmu
  cases e : (zwar n (fun m => zini (pzba R) ik (fun _ _ => false) m n) n m).testBit m with
  | false => rfl
  | true =>
    have := zwar_rank (rk := pzrk R) (fun m j hb => (pz_rank h hl (by rw [zini_no] at hb; exact hb)).1) n m m e
    omega
