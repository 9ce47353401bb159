/-! the table of distances and its bits -/
/-- the table: e i j says that word i of the one is word j of the other -/
def zD (e : Nat → Nat → Bool) : Nat → Nat → Int
  | 0, j => j
  | i + 1, 0 => i + 1
  | i + 1, j + 1 => min (min (zD e i j + (if e i j then 0 else 1)) (zD e i (j + 1) + 1)) (zD e (i + 1) j + 1)
theorem zD_0 (e : Nat → Nat → Bool) (j : Nat) : zD e 0 j = j := by unfold zD; rfl
theorem zD_i0 (e : Nat → Nat → Bool) (i : Nat) : zD e i 0 = i := by cases i <;> (unfold zD; rfl)
theorem zD_ss (e : Nat → Nat → Bool) (i j : Nat) : zD e (i + 1) (j + 1) = min (min (zD e i j + (if e i j then 0 else 1)) (zD e i (j + 1) + 1)) (zD e (i + 1) j + 1) := by
  conv => lhs; unfold zD
/-- the table is the same from the other side -/
theorem zD_sym (e : Nat → Nat → Bool) : ∀ i j, zD (fun a b => e b a) j i = zD e i j := by
  intro i
  induction i with
  | zero => intro j; rw [zD_0, zD_i0]
  | succ i ih =>
    intro j
    induction j with
    | zero => rw [zD_0, zD_i0]
    | succ j jh =>
      rw [zD_ss, zD_ss, ih, ih, jh]
      omega
theorem zD_step (e : Nat → Nat → Bool) : ∀ i j,
    (-1 ≤ zD e (i + 1) j - zD e i j ∧ zD e (i + 1) j - zD e i j ≤ 1) ∧ (-1 ≤ zD e i (j + 1) - zD e i j ∧ zD e i (j + 1) - zD e i j ≤ 1) := by
  intro i
  induction i with
  | zero =>
    intro j
    induction j with
    | zero =>
      rw [zD_i0, zD_i0, zD_0]; omega
    | succ j jh =>
      have h := zD_ss e 0 j
      simp only [zD_0] at h jh ⊢
      split at h <;> omega
  | succ i ih =>
    intro j
    induction j with
    | zero =>
      have h := zD_ss e i 0
      have a := (ih 0).2
      rw [zD_i0, zD_i0]
      rw [zD_i0, zD_i0] at h
      rw [zD_i0] at a
      split at h <;> omega
    | succ j jh =>
      have a1 := ih (j + 1)
      have a2 := ih j
      have h := zD_ss e i j
      have h2 := zD_ss e (i + 1) j
      have h3 := zD_ss e i (j + 1)
      split at h <;> split at h2 <;> split at h3 <;> omega
theorem zD_le (e : Nat → Nat → Bool) : ∀ i j, 0 ≤ zD e i j ∧ zD e i j ≤ i + j := by
  intro i
  induction i with
  | zero => intro j; rw [zD_0]; omega
  | succ i ih =>
    intro j
    induction j with
    | zero => rw [zD_i0]; omega
    | succ j jh =>
      have a1 := ih (j + 1)
      have a2 := ih j
      have h := zD_ss e i j
      split at h <;> omega
/-- bit i of a long -/
def zbt (x : Int64) (i : Nat) : Bool := x.toBitVec.getLsbD i
theorem zbt_or (x y : Int64) (i : Nat) : zbt (x ||| y) i = (zbt x i || zbt y i) := by
  unfold zbt; rw [Int64.toBitVec_or, BitVec.getLsbD_or]
theorem zbt_and (x y : Int64) (i : Nat) : zbt (x &&& y) i = (zbt x i && zbt y i) := by
  unfold zbt; rw [Int64.toBitVec_and, BitVec.getLsbD_and]
theorem zbt_xor (x y : Int64) (i : Nat) : zbt (x ^^^ y) i = (zbt x i ^^ zbt y i) := by
  unfold zbt; rw [Int64.toBitVec_xor, BitVec.getLsbD_xor]
theorem zbt_m1 {i : Nat} (h : i < 64) : zbt (-1) i = true := by
  unfold zbt
  rw [show (-1 : Int64).toBitVec = BitVec.allOnes 64 from by decide, BitVec.getLsbD_allOnes]
  exact decide_eq_true h
theorem zbt_0 (i : Nat) : zbt 0 i = false := by
  unfold zbt
  rw [show (0 : Int64).toBitVec = 0#64 from by decide, BitVec.getLsbD_zero]
theorem zbt_1 (i : Nat) : zbt 1 i = decide (i = 0) := by
  unfold zbt
  rw [show (1 : Int64).toBitVec = 1#64 from by decide, BitVec.getLsbD_one]
  simp
theorem zbt_not (x : Int64) {i : Nat} (h : i < 64) : zbt (x ^^^ (-1)) i = !zbt x i := by
  rw [zbt_xor, zbt_m1 h, Bool.xor_true]
theorem zbt_add (x y : Int64) {i : Nat} (h : i < 64) : zbt (x + y) i = (zbt x i ^^ (zbt y i ^^ BitVec.carry i x.toBitVec y.toBitVec false)) := by
  unfold zbt; rw [Int64.toBitVec_add, BitVec.getLsbD_add h]
theorem zbt_shl1 (x : Int64) {i : Nat} (h : i < 64) : zbt (x <<< (Int32.toInt64 (1 : Int32) &&& 63)) i = (!decide (i < 1) && zbt x (i - 1)) := by
  unfold zbt
  have e : (x <<< (Int32.toInt64 (1 : Int32) &&& 63)).toBitVec = x.toBitVec <<< (1 : Nat) := rfl
  rw [e, BitVec.getLsbD_shiftLeft]
  simp [h]
theorem zD_cell (e : Bool) (a b c d : Int) (hd : d = min (min (a + (if e then 0 else 1)) (c + 1)) (b + 1)) (hb : -1 ≤ b - a ∧ b - a ≤ 1) (hc : -1 ≤ c - a ∧ c - a ≤ 1) :
    decide (d - b = -1) = (decide (b - a = 1) && (e || decide (c - a = -1))) ∧
    decide (d - b = 1) = (decide (b - a = -1) || !((e || decide (c - a = -1)) || decide (b - a = 1))) ∧
    decide (d - c = 1) = (decide (c - a = -1) || !((e || decide (b - a = -1)) || decide (c - a = 1))) ∧
    decide (d - c = -1) = (decide (c - a = 1) && (e || decide (b - a = -1))) := by
  cases e
  · rw [if_neg (by decide)] at hd
    refine ⟨?_, ?_, ?_, ?_⟩ <;> (rw [Bool.eq_iff_iff]; simp; omega)
  · rw [if_pos rfl] at hd
    refine ⟨?_, ?_, ?_, ?_⟩ <;> (rw [Bool.eq_iff_iff]; simp; omega)
/-- up and down are the steps of column j -/
def zUD (e : Nat → Nat → Bool) (j : Nat) (u d : Int64) : Prop :=
  ∀ i, i < 64 → zbt u i = decide (zD e (i + 1) j - zD e i j = 1) ∧ zbt d i = decide (zD e (i + 1) j - zD e i j = -1)
theorem zUD_0 (e : Nat → Nat → Bool) : zUD e 0 (-1) 0 := by
  intro i h
  rw [zbt_m1 h, zbt_0, zD_i0, zD_i0]
  constructor
  · exact (decide_eq_true (by omega)).symm
  · exact (decide_eq_false (by omega)).symm
theorem zMy_carry {e : Nat → Nat → Bool} {j : Nat} {u d t : Int64} (h : zUD e j u d) (ht : ∀ i, i < 64 → zbt t i = e i j) :
    ∀ i, i < 64 → BitVec.carry i (t &&& u).toBitVec u.toBitVec false = decide (zD e i (j + 1) - zD e i j = -1) := by
  intro i
  induction i with
  | zero =>
    intro _
    rw [BitVec.carry_zero, zD_0, zD_0]
    exact (decide_eq_false (by omega)).symm
  | succ i ih =>
    intro hi
    have hi' : i < 64 := by omega
    have c := zD_cell (e i j) _ _ _ _ (zD_ss e i j) (zD_step e i j).1 (zD_step e i j).2
    rw [BitVec.carry_succ, ih hi', c.1]
    have a1 : (t &&& u).toBitVec.getLsbD i = (zbt t i && zbt u i) := zbt_and t u i
    have a2 : u.toBitVec.getLsbD i = zbt u i := rfl
    rw [a1, a2, ht i hi', (h i hi').1]
    cases e i j <;> cases decide (zD e (i + 1) j - zD e i j = 1) <;> cases decide (zD e i (j + 1) - zD e i j = -1) <;> rfl
theorem zMy_side {e : Nat → Nat → Bool} {j : Nat} {u d t : Int64} (h : zUD e j u d) (ht : ∀ i, i < 64 → zbt t i = e i j) {i : Nat} (hi : i < 64) :
    zbt ((((t &&& u) + u) ^^^ u) ||| t) i = (e i j || decide (zD e i (j + 1) - zD e i j = -1)) := by
  rw [zbt_or, zbt_xor, zbt_add _ _ hi, zMy_carry h ht i hi, zbt_and, ht i hi, (h i hi).1]
  cases e i j <;> cases decide (zD e (i + 1) j - zD e i j = 1) <;> cases decide (zD e i (j + 1) - zD e i j = -1) <;> rfl
theorem zMy_fall {e : Nat → Nat → Bool} {j : Nat} {u d t : Int64} (h : zUD e j u d) (ht : ∀ i, i < 64 → zbt t i = e i j) {i : Nat} (hi : i < 64) :
    zbt (u &&& ((((t &&& u) + u) ^^^ u) ||| t)) i = decide (zD e (i + 1) (j + 1) - zD e (i + 1) j = -1) := by
  have c := zD_cell (e i j) _ _ _ _ (zD_ss e i j) (zD_step e i j).1 (zD_step e i j).2
  rw [zbt_and, zMy_side h ht hi, (h i hi).1, c.1]
theorem zMy_rise {e : Nat → Nat → Bool} {j : Nat} {u d t : Int64} (h : zUD e j u d) (ht : ∀ i, i < 64 → zbt t i = e i j) {i : Nat} (hi : i < 64) :
    zbt (d ||| ((((((t &&& u) + u) ^^^ u) ||| t) ||| u) ^^^ (-1))) i = decide (zD e (i + 1) (j + 1) - zD e (i + 1) j = 1) := by
  have c := zD_cell (e i j) _ _ _ _ (zD_ss e i j) (zD_step e i j).1 (zD_step e i j).2
  rw [zbt_or, zbt_not _ hi, zbt_or, zMy_side h ht hi, (h i hi).1, (h i hi).2, c.2.1]
theorem zMy_sh1 {e : Nat → Nat → Bool} {j : Nat} {r : Int64} {v : Int} (hv : v = 1 ∨ v = -1) (h : ∀ i, i < 64 → zbt r i = decide (zD e (i + 1) (j + 1) - zD e (i + 1) j = v)) {i : Nat} (hi : i < 64) :
    zbt (r <<< (Int32.toInt64 (1 : Int32) &&& 63)) i = (decide (¬ i = 0) && decide (zD e i (j + 1) - zD e i j = v)) := by
  rw [zbt_shl1 _ hi]
  cases i with
  | zero => rfl
  | succ i =>
    rw [Nat.add_sub_cancel, h i (by omega)]
    simp
/-- one column on -/
theorem zMy_next {e : Nat → Nat → Bool} {j : Nat} {u d t r f : Int64} (h : zUD e j u d) (ht : ∀ i, i < 64 → zbt t i = e i j)
    (hr : ∀ i, i < 64 → zbt r i = decide (zD e (i + 1) (j + 1) - zD e (i + 1) j = 1))
    (hf : ∀ i, i < 64 → zbt f i = decide (zD e (i + 1) (j + 1) - zD e (i + 1) j = -1)) :
    zUD e (j + 1) ((f <<< (Int32.toInt64 (1 : Int32) &&& 63)) ||| (((t ||| d) ||| ((r <<< (Int32.toInt64 (1 : Int32) &&& 63)) ||| (1 : Int64))) ^^^ (-1 : Int64)))
      (((r <<< (Int32.toInt64 (1 : Int32) &&& 63)) ||| (1 : Int64)) &&& (t ||| d)) := by
  intro i hi
  have c := zD_cell (e i j) _ _ _ _ (zD_ss e i j) (zD_step e i j).1 (zD_step e i j).2
  have hR : zbt ((r <<< (Int32.toInt64 (1 : Int32) &&& 63)) ||| (1 : Int64)) i = decide (zD e i (j + 1) - zD e i j = 1) := by
    rw [zbt_or, zMy_sh1 (Or.inl rfl) hr hi, zbt_1]
    cases i with
    | zero => rw [zD_0, zD_0]; simp; omega
    | succ i => simp
  have hF : zbt (f <<< (Int32.toInt64 (1 : Int32) &&& 63)) i = decide (zD e i (j + 1) - zD e i j = -1) := by
    rw [zMy_sh1 (Or.inr rfl) hf hi]
    cases i with
    | zero => rw [zD_0, zD_0]; simp; omega
    | succ i => simp
  constructor
  · rw [zbt_or, hF, zbt_not _ hi, zbt_or, hR, zbt_or, ht i hi, (h i hi).2, c.2.2.1]
  · rw [zbt_and, hR, zbt_or, ht i hi, (h i hi).2, c.2.2.2]
