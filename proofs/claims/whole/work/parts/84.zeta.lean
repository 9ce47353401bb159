/-! sums over the sets within a set, bit by bit; rows of times up and down -/
theorem zsi_add (f h : Nat → Int64) (k : Nat) : zsi 0 (fun m => f m + h m) k = zsi 0 f k + zsi 0 h k := by
  induction k with
  | zero => rfl
  | succ k ih =>
    rw [zsi, zsi, zsi, ih]
    simp only [Int64.add_assoc]
    congr 1
    rw [← Int64.add_assoc (zsi 0 h k), Int64.add_comm (zsi 0 h k), Int64.add_assoc]
theorem zsi_swap (f : Nat → Nat → Int64) (n m : Nat) : zsi 0 (fun i => zsi 0 (fun j => f i j) m) n = zsi 0 (fun j => zsi 0 (fun i => f i j) n) m := by
  induction n with
  | zero =>
    rw [zsi_zero (fun j => zsi 0 (fun i => f i j) 0) m (fun j _ => rfl)]
    rfl
  | succ n ih =>
    rw [zsi, ih]
    have : (fun j => zsi 0 (fun i => f i j) (n + 1)) = fun j => zsi 0 (fun i => f i j) n + f n j := rfl
    rw [this, zsi_add]
def zin (j P S : Nat) : Nat → Bool
  | 0 => true
  | i + 1 => zin j P S i && (if i < j then (!P.testBit i || S.testBit i) else (P.testBit i == S.testBit i))
theorem zin_iff (j P S : Nat) : ∀ n, zin j P S n = true ↔ ∀ i, i < n → (i < j → P.testBit i = true → S.testBit i = true) ∧ (¬ i < j → P.testBit i = S.testBit i) := by
  intro n
  induction n with
  | zero => simp [zin]
  | succ n ih =>
    rw [zin, Bool.and_eq_true, ih]
    constructor
    · rintro ⟨h1, h2⟩ i hi
      by_cases e : i = n
      · subst e
        by_cases q : i < j
        · rw [if_pos q] at h2
          refine ⟨fun _ z => ?_, fun z => absurd q z⟩
          rw [z] at h2
          simpa using h2
        · rw [if_neg q] at h2
          exact ⟨fun z => absurd z q, fun _ => by simpa using h2⟩
      · exact h1 i (by omega)
    · intro h
      refine ⟨fun i hi => h i (by omega), ?_⟩
      obtain ⟨a, b⟩ := h n (by omega)
      by_cases q : n < j
      · rw [if_pos q]
        cases z : P.testBit n with
        | false => rfl
        | true => rw [a q z]; rfl
      · rw [if_neg q, b q]
        simp
theorem zbit_ext {n P S : Nat} (hP : P < 2 ^ n) (hS : S < 2 ^ n) (h : ∀ i, i < n → P.testBit i = S.testBit i) : P = S := by
  apply Nat.eq_of_testBit_eq
  intro i
  by_cases q : i < n
  · exact h i q
  · rw [Nat.testBit_lt_two_pow (Nat.lt_of_lt_of_le hP (Nat.pow_le_pow_right (by decide) (by omega))), Nat.testBit_lt_two_pow (Nat.lt_of_lt_of_le hS (Nat.pow_le_pow_right (by decide) (by omega)))]
theorem zin_0 {n P S : Nat} (hP : P < 2 ^ n) (hS : S < 2 ^ n) : zin 0 P S n = true ↔ P = S := by
  rw [zin_iff]
  constructor
  · exact fun h => zbit_ext hP hS (fun i hi => (h i hi).2 (Nat.not_lt_zero _))
  · rintro rfl i hi
    exact ⟨fun z => absurd z (Nat.not_lt_zero _), fun _ => rfl⟩
theorem zsb_iff {n a S : Nat} (ha : a < 2 ^ n) : zsb a S = true ↔ ∀ i, i < n → a.testBit i = true → S.testBit i = true := by
  unfold zsb
  rw [beq_iff_eq]
  constructor
  · intro h i _ hb
    have := congrArg (fun x => x.testBit i) h
    simp only [Nat.testBit_and, hb, Bool.true_and] at this
    exact this
  · intro h
    apply Nat.eq_of_testBit_eq
    intro i
    rw [Nat.testBit_and]
    cases q : a.testBit i with
    | false => rfl
    | true =>
      by_cases c : i < n
      · rw [h i c q]; rfl
      · rw [Nat.testBit_lt_two_pow (Nat.lt_of_lt_of_le ha (Nat.pow_le_pow_right (by decide) (by omega)))] at q
        cases q
theorem zin_n {n P S : Nat} (hP : P < 2 ^ n) : zin n P S n = zsb P S := by
  rw [Bool.eq_iff_iff, zin_iff, zsb_iff hP]
  constructor
  · exact fun h i hi => (h i hi).1 hi
  · exact fun h i hi => ⟨fun _ => h i hi, fun z => absurd hi z⟩
theorem zxor_bit (S j i : Nat) : (S ^^^ 2 ^ j).testBit i = (if i = j then !S.testBit i else S.testBit i) := by
  rw [Nat.testBit_xor]
  by_cases e : i = j
  · subst e; rw [if_pos rfl, Nat.testBit_two_pow_self]; cases S.testBit i <;> rfl
  · rw [if_neg e, Nat.testBit_two_pow_of_ne (Ne.symm e), Bool.xor_false]
theorem zor_bit (S j i : Nat) : (S ||| 2 ^ j).testBit i = (if i = j then true else S.testBit i) := by
  rw [Nat.testBit_or]
  by_cases e : i = j
  · subst e; rw [if_pos rfl, Nat.testBit_two_pow_self, Bool.or_true]
  · rw [if_neg e, Nat.testBit_two_pow_of_ne (Ne.symm e), Bool.or_false]
/-- within: one bit more -/
theorem zin_dn {n j P S : Nat} (hj : j < n) (h : S.testBit j = false) : zin (j + 1) P S n = zin j P S n := by
  rw [Bool.eq_iff_iff, zin_iff, zin_iff]
  refine forall_congr' (fun i => forall_congr' (fun hi => ?_))
  by_cases e : i = j
  · subst e
    rw [h]
    constructor
    · rintro ⟨a, _⟩
      refine ⟨fun z => absurd z (Nat.lt_irrefl _), fun _ => ?_⟩
      cases q : P.testBit i with
      | false => rfl
      | true => exact absurd (a (by omega) q) (by decide)
    · rintro ⟨_, b⟩
      refine ⟨fun _ z => ?_, fun z => by omega⟩
      rw [b (Nat.lt_irrefl _)] at z
      exact z
  · have e1 : i < j + 1 ↔ i < j := by omega
    rw [e1]
theorem zin_up {n j P S : Nat} (hj : j < n) (h : S.testBit j = true) : (zin (j + 1) P S n = true ↔ zin j P S n = true ∨ zin j P (S ^^^ 2 ^ j) n = true) ∧ ¬ (zin j P S n = true ∧ zin j P (S ^^^ 2 ^ j) n = true) := by
  rw [zin_iff, zin_iff, zin_iff]
  constructor
  · constructor
    · intro a
      cases q : P.testBit j with
      | true =>
        left
        intro i hi
        obtain ⟨a1, a2⟩ := a i hi
        refine ⟨fun z => a1 (by omega), fun z => ?_⟩
        by_cases e : i = j
        · subst e; rw [q, h]
        · exact a2 (by omega)
      | false =>
        right
        intro i hi
        obtain ⟨a1, a2⟩ := a i hi
        rw [zxor_bit]
        by_cases e : i = j
        · subst e
          rw [if_pos rfl, h, q]
          exact ⟨fun z => absurd z (Nat.lt_irrefl _), fun _ => rfl⟩
        · rw [if_neg e]
          exact ⟨fun z => a1 (by omega), fun z => a2 (by omega)⟩
    · rintro (a | a)
      · intro i hi
        obtain ⟨a1, a2⟩ := a i hi
        refine ⟨fun z y => ?_, fun z => a2 (by omega)⟩
        by_cases e : i = j
        · subst e; exact h
        · exact a1 (by omega) y
      · intro i hi
        obtain ⟨a1, a2⟩ := a i hi
        rw [zxor_bit] at a1 a2
        by_cases e : i = j
        · subst e; exact ⟨fun _ _ => h, fun z => by omega⟩
        · rw [if_neg e] at a1 a2
          exact ⟨fun z => a1 (by omega), fun z => a2 (by omega)⟩
  · rintro ⟨a, b⟩
    have a2 := (a j hj).2 (Nat.lt_irrefl _)
    have b2 := (b j hj).2 (Nat.lt_irrefl _)
    rw [zxor_bit, if_pos rfl, ← a2] at b2
    cases q : P.testBit j <;> rw [q] at b2 <;> cases b2
/-- around: one bit more -/
theorem zon_dn {n j P S : Nat} (hj : j < n) (h : S.testBit j = true) : zin (j + 1) S P n = zin j S P n := by
  rw [Bool.eq_iff_iff, zin_iff, zin_iff]
  refine forall_congr' (fun i => forall_congr' (fun hi => ?_))
  by_cases e : i = j
  · subst e
    rw [h]
    constructor
    · rintro ⟨a, _⟩
      exact ⟨fun z => absurd z (Nat.lt_irrefl _), fun _ => (a (by omega) rfl).symm⟩
    · rintro ⟨_, b⟩
      exact ⟨fun _ _ => (b (Nat.lt_irrefl _)).symm, fun z => by omega⟩
  · have e1 : i < j + 1 ↔ i < j := by omega
    rw [e1]
theorem zon_up {n j P S : Nat} (hj : j < n) (h : S.testBit j = false) : (zin (j + 1) S P n = true ↔ zin j S P n = true ∨ zin j (S ||| 2 ^ j) P n = true) ∧ ¬ (zin j S P n = true ∧ zin j (S ||| 2 ^ j) P n = true) := by
  rw [zin_iff, zin_iff, zin_iff]
  constructor
  · constructor
    · intro a
      cases q : P.testBit j with
      | false =>
        left
        intro i hi
        obtain ⟨a1, a2⟩ := a i hi
        refine ⟨fun z => a1 (by omega), fun z => ?_⟩
        by_cases e : i = j
        · subst e; rw [q, h]
        · exact a2 (by omega)
      | true =>
        right
        intro i hi
        obtain ⟨a1, a2⟩ := a i hi
        rw [zor_bit]
        by_cases e : i = j
        · subst e
          rw [if_pos rfl, q]
          exact ⟨fun z => absurd z (Nat.lt_irrefl _), fun _ => rfl⟩
        · rw [if_neg e]
          exact ⟨fun z => a1 (by omega), fun z => a2 (by omega)⟩
    · rintro (a | a)
      · intro i hi
        obtain ⟨a1, a2⟩ := a i hi
        refine ⟨fun z y => ?_, fun z => a2 (by omega)⟩
        by_cases e : i = j
        · subst e; rw [h] at y; cases y
        · exact a1 (by omega) y
      · intro i hi
        obtain ⟨a1, a2⟩ := a i hi
        rw [zor_bit] at a1 a2
        by_cases e : i = j
        · subst e
          exact ⟨fun _ y => absurd (h.symm.trans y) (by decide), fun z => by omega⟩
        · rw [if_neg e] at a1 a2
          exact ⟨fun z => a1 (by omega), fun z => a2 (by omega)⟩
  · rintro ⟨a, b⟩
    have a2 := (a j hj).2 (Nat.lt_irrefl _)
    have b2 := (b j hj).2 (Nat.lt_irrefl _)
    rw [zor_bit, if_pos rfl, ← a2, h] at b2
    cases b2
/-- the sum of F over the sets that R names -/
def zsr (n : Nat) (R : Nat → Bool) (F : Nat → Int64) : Int64 := zsi 0 (fun P => if R P then F P else 0) (2 ^ n)
theorem zsr_congr {n : Nat} {R Q : Nat → Bool} {F G : Nat → Int64} (h : ∀ P, P < 2 ^ n → R P = Q P ∧ (R P = true → F P = G P)) : zsr n R F = zsr n Q G := by
  unfold zsr
  refine zsi_congr 0 _ (fun P hP => ?_)
  obtain ⟨a, b⟩ := h P hP
  rw [← a]
  cases q : R P with
  | false => rfl
  | true => rw [if_pos rfl, if_pos rfl, b q]
theorem zsr_or {n : Nat} {R A B : Nat → Bool} (F : Nat → Int64) (h : ∀ P, P < 2 ^ n → (R P = true ↔ A P = true ∨ B P = true) ∧ ¬ (A P = true ∧ B P = true)) : zsr n R F = zsr n A F + zsr n B F := by
  unfold zsr
  rw [← zsi_add]
  refine zsi_congr 0 _ (fun P hP => ?_)
  obtain ⟨a, b⟩ := h P hP
  cases qa : A P with
  | true =>
    have : B P = false := by
      cases qb : B P with
      | false => rfl
      | true => exact absurd ⟨qa, qb⟩ b
    rw [if_pos (a.mpr (Or.inl qa)), if_pos rfl, this, if_neg (by decide), Int64.add_zero]
  | false =>
    cases qb : B P with
    | true => rw [if_pos (a.mpr (Or.inr qb)), if_pos rfl, if_neg (by decide), Int64.zero_add]
    | false =>
      rw [if_neg, if_neg (by decide)]
      · rfl
      · intro z
        rcases a.mp z with z | z
        · rw [qa] at z; cases z
        · rw [qb] at z; cases z
theorem zsr_one {n S : Nat} (F : Nat → Int64) (hS : S < 2 ^ n) {R : Nat → Bool} (h : ∀ P, P < 2 ^ n → (R P = true ↔ P = S)) : zsr n R F = F S := by
  unfold zsr
  have e : zsi 0 (fun P => if R P then F P else 0) (2 ^ n) = zsi 0 (fun P => if P = S then (fun _ => (0 : Int64)) P + F S else (fun _ => (0 : Int64)) P) (2 ^ n) := by
    refine zsi_congr 0 _ (fun P hP => ?_)
    by_cases q : P = S
    · rw [if_pos ((h P hP).mpr q), if_pos q, q, Int64.zero_add]
    · rw [if_neg (fun z => q ((h P hP).mp z)), if_neg q]
  rw [e, zsi_point 0 (fun _ => 0) S (F S) _ hS, zsi_zero _ _ (fun _ _ => rfl), Int64.zero_add]
/-- one pass: sums from sets without mark m -/
def zaw (n m : Nat) (F : Nat → Int64) : Nat → Int64 := fun q => if q < 2 ^ n ∧ q.testBit m = true then F q + F (q ^^^ 2 ^ m) else F q
def zawk (n : Nat) (F : Nat → Int64) : Nat → (Nat → Int64)
  | 0 => F
  | m + 1 => zaw n m (zawk n F m)
theorem zxor_lt {n S m : Nat} (hS : S < 2 ^ n) (hm : m < n) : S ^^^ 2 ^ m < 2 ^ n := Nat.xor_lt_two_pow hS (Nat.pow_lt_pow_right (by decide) hm)
theorem zawk_eq {n : Nat} (F : Nat → Int64) : ∀ j, j ≤ n → ∀ S, S < 2 ^ n → zawk n F j S = zsr n (fun P => zin j P S n) F := by
  intro j
  induction j with
  | zero => exact fun _ S hS => (zsr_one F hS (fun P hP => zin_0 hP hS)).symm
  | succ j ih =>
    intro hj S hS
    rw [zawk, zaw, ih (by omega) S hS]
    cases q : S.testBit j with
    | false =>
      rw [if_neg (fun z => by cases z.2)]
      exact zsr_congr (fun P _ => ⟨(zin_dn (by omega) q).symm, fun _ => rfl⟩)
    | true =>
      rw [if_pos ⟨hS, rfl⟩, ih (by omega) _ (zxor_lt hS (by omega))]
      exact (zsr_or F (fun P _ => zin_up (by omega) q)).symm
/-- one pass: sums from sets with mark m; the table lies at 1024 -/
def zax (n m : Nat) (F : Nat → Int64) : Nat → Int64 := fun q => if q < 2 ^ n ∧ q.testBit m = false then F q + F (q ||| 2 ^ m) else F q
def zaxk (n : Nat) (F : Nat → Int64) : Nat → (Nat → Int64)
  | 0 => F
  | m + 1 => zax n m (zaxk n F m)
theorem zaxk_eq {n : Nat} (F : Nat → Int64) : ∀ j, j ≤ n → ∀ S, S < 2 ^ n → zaxk n F j S = zsr n (fun P => zin j S P n) F := by
  intro j
  induction j with
  | zero => exact fun _ S hS => (zsr_one F hS (fun P hP => ⟨fun z => ((zin_0 hS hP).mp z).symm, fun z => (zin_0 hS hP).mpr z.symm⟩)).symm
  | succ j ih =>
    intro hj S hS
    rw [zaxk, zax, ih (by omega) S hS]
    cases q : S.testBit j with
    | true =>
      rw [if_neg (fun z => by cases z.2)]
      exact zsr_congr (fun P _ => ⟨(zon_dn (by omega) q).symm, fun _ => rfl⟩)
    | false =>
      rw [if_pos ⟨hS, rfl⟩, ih (by omega) _ (zor_lt hS (by omega))]
      exact (zsr_or F (fun P _ => zon_up (by omega) q)).symm
-- rows of times
def ztm (g : zG) (c S : Nat) : Bool := zgd g.mu S g.n && decide (ztx g.T S = g.cp.getD c [])
def zUd (g : zG) : Nat → Nat → Int64
  | 0, _ => 1
  | c + 1, S => zsr g.n (fun P => zsb P S) (fun P => if ztm g c P then zUd g c P else 0)
def zWd (g : zG) : Nat → Nat → Int64
  | 0, _ => 1
  | d + 1, S => zsr g.n (fun P => zsb S P) (fun P => if ztm g (g.cp.length - 1 - d) P then zWd g d P else 0)
def zuT (g : zG) (c S : Nat) : Int64 := if ztm g c S then zUd g c S else 0
def zdT (g : zG) (d S : Nat) : Int64 := if ztm g (g.cp.length - 1 - d) S then zWd g d S else 0
theorem zrows_step (g : zG) {c d : Nat} (h : c + 1 + d + 1 = g.cp.length) : zsi 0 (fun S => if ztm g (c + 1) S then zUd g (c + 1) S * zWd g d S else 0) (2 ^ g.n) = zsi 0 (fun S => if ztm g c S then zUd g c S * zWd g (d + 1) S else 0) (2 ^ g.n) := by
  have e1 : ∀ S, S < 2 ^ g.n → (if ztm g (c + 1) S then zUd g (c + 1) S * zWd g d S else 0) = zsi 0 (fun P => (if zsb P S then zuT g c P * zdT g d S else 0)) (2 ^ g.n) := by
    intro S _
    have a : g.cp.length - 1 - d = c + 1 := by omega
    unfold zdT
    rw [a]
    cases q : ztm g (c + 1) S with
    | false =>
      rw [if_neg (by decide), if_neg (by decide)]
      exact (zsi_zero _ _ (fun P _ => by split <;> simp)).symm
    | true =>
      rw [if_pos rfl, if_pos rfl]
      show zsr g.n (fun P => zsb P S) (fun P => zuT g c P) * zWd g d S = _
      unfold zsr
      rw [Int64.mul_comm, ← zsi_mul]
      refine zsi_congr 0 _ (fun P _ => ?_)
      split
      · rw [Int64.mul_comm]
      · rw [Int64.mul_zero]
  have e2 : ∀ P, P < 2 ^ g.n → (if ztm g c P then zUd g c P * zWd g (d + 1) P else 0) = zsi 0 (fun S => (if zsb P S then zuT g c P * zdT g d S else 0)) (2 ^ g.n) := by
    intro P _
    unfold zuT
    cases q : ztm g c P with
    | false =>
      rw [if_neg (by decide), if_neg (by decide)]
      exact (zsi_zero _ _ (fun S _ => by split <;> simp)).symm
    | true =>
      rw [if_pos rfl, if_pos rfl]
      show zUd g c P * zsr g.n (fun S => zsb P S) (fun S => zdT g d S) = _
      unfold zsr
      rw [← zsi_mul]
      refine zsi_congr 0 _ (fun S _ => ?_)
      split
      · rfl
      · rw [Int64.mul_zero]
  rw [zsi_congr 0 _ e1, zsi_congr 0 _ e2, zsi_swap]
theorem zrows_all (g : zG) (h : 0 < g.cp.length) : zsi 0 (zuT g (g.cp.length - 1)) (2 ^ g.n) = zsi 0 (zdT g (g.cp.length - 1)) (2 ^ g.n) := by
  have key : ∀ d, d < g.cp.length → zsi 0 (fun S => if ztm g (g.cp.length - 1) S then zUd g (g.cp.length - 1) S * zWd g 0 S else 0) (2 ^ g.n) = zsi 0 (fun S => if ztm g (g.cp.length - 1 - d) S then zUd g (g.cp.length - 1 - d) S * zWd g d S else 0) (2 ^ g.n) := by
    intro d
    induction d with
    | zero => intro _; rfl
    | succ d ih =>
      intro hd
      rw [ih (by omega)]
      have := zrows_step g (c := g.cp.length - 1 - (d + 1)) (d := d) (by omega)
      rw [show g.cp.length - 1 - (d + 1) + 1 = g.cp.length - 1 - d by omega] at this
      exact this
  have := key (g.cp.length - 1) (by omega)
  rw [Nat.sub_self] at this
  have a : zsi 0 (zuT g (g.cp.length - 1)) (2 ^ g.n) = zsi 0 (fun S => if ztm g (g.cp.length - 1) S then zUd g (g.cp.length - 1) S * zWd g 0 S else 0) (2 ^ g.n) := by
    refine zsi_congr 0 _ (fun S _ => ?_)
    unfold zuT
    split
    · show _ = _ * (1 : Int64); rw [Int64.mul_one]
    · rfl
  have b : zsi 0 (zdT g (g.cp.length - 1)) (2 ^ g.n) = zsi 0 (fun S => if ztm g 0 S then zUd g 0 S * zWd g (g.cp.length - 1) S else 0) (2 ^ g.n) := by
    refine zsi_congr 0 _ (fun S _ => ?_)
    unfold zdT
    rw [Nat.sub_self]
    split
    · show _ = (1 : Int64) * _; rw [Int64.one_mul]
    · rfl
  rw [a, b, this]
