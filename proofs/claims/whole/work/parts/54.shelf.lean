/-! words on a shelf: eight to a long -/
theorem zl_63 {a : Nat} (h : a < 64) : Int32.toInt64 (nI a) &&& 63 = lN a := by
  rw [nI_l (by omega)]
  have hh : ∀ a : Fin 64, lN a.1 &&& 63 = lN a.1 := by decide
  exact hh ⟨a, h⟩
theorem zl_sm {a : Nat} (h : a < 64) : ((lN a).toBitVec.smod 64).toNat = a := by
  have hh : ∀ a : Fin 64, ((lN a.1).toBitVec.smod 64).toNat = a.1 := by decide
  exact hh ⟨a, h⟩
theorem zbt_shl (x : Int64) {a i : Nat} (h : i < 64) (ha : a < 64) : zbt (x <<< (Int32.toInt64 (nI a) &&& 63)) i = (!decide (i < a) && zbt x (i - a)) := by
  rw [zl_63 ha]
  unfold zbt
  have e : (x <<< lN a).toBitVec = x.toBitVec <<< ((lN a).toBitVec.smod 64) := rfl
  rw [e, BitVec.shiftLeft_eq', zl_sm ha, BitVec.getLsbD_shiftLeft]
  simp [h]
theorem zl_63u {a : Nat} (h : a < 64) : (((Int32.toInt64 (nI a)).toUInt64 &&& Int64.toUInt64 63).toBitVec % 64).toNat = a := by
  rw [nI_l (by omega)]
  have hh : ∀ a : Fin 64, (((lN a.1).toUInt64 &&& Int64.toUInt64 63).toBitVec % 64).toNat = a.1 := by decide
  exact hh ⟨a, h⟩
theorem zbt_shr (x : Int64) {a : Nat} (i : Nat) (ha : a < 64) : zbt ((Int64.toUInt64 x >>> ((Int32.toInt64 (nI a)).toUInt64 &&& Int64.toUInt64 63)).toInt64) i = zbt x (a + i) := by
  unfold zbt
  have e : ((Int64.toUInt64 x >>> ((Int32.toInt64 (nI a)).toUInt64 &&& Int64.toUInt64 63)).toInt64).toBitVec = x.toBitVec >>> (((Int32.toInt64 (nI a)).toUInt64 &&& Int64.toUInt64 63).toBitVec % 64) := rfl
  rw [e, BitVec.ushiftRight_eq', zl_63u ha, BitVec.getLsbD_ushiftRight]
theorem zbt_nI {v : Nat} (h : v < 2 ^ 31) (i : Nat) : zbt (Int32.toInt64 (nI v)) i = (decide (i < 64) && v.testBit i) := by
  rw [nI_l h]
  unfold zbt
  rw [show (lN v).toBitVec = BitVec.ofNat 64 v from rfl, BitVec.getLsbD_ofNat]
theorem zbt_ext {x y : Int64} (h : ∀ i, i < 64 → zbt x i = zbt y i) : x = y := by
  apply Int64.toBitVec_inj.mp
  apply BitVec.eq_of_getLsbD_eq
  exact h
/-- the low byte of a long, as an int -/
theorem zbt_byte {x : Int64} {c : Nat} (hc : c < 256) (h : ∀ i, i < 8 → zbt x i = c.testBit i) : Int64.toInt32 x &&& 255 = nI c := by
  apply Int32.toBitVec_inj.mp
  rw [Int32.toBitVec_and, zn_bv]
  apply BitVec.eq_of_getLsbD_eq
  intro i hi
  have e : (Int64.toInt32 x).toBitVec = x.toBitVec.signExtend 32 := rfl
  have e2 : (255 : Int32).toBitVec = BitVec.ofNat 32 255 := rfl
  rw [BitVec.getLsbD_and, e, e2, BitVec.getLsbD_ofNat, BitVec.getLsbD_ofNat, BitVec.getLsbD_signExtend]
  by_cases q : i < 8
  · have := h i q
    unfold zbt at this
    rw [if_pos (by omega), this, show (255 : Nat) = 2 ^ 8 - 1 from rfl, Nat.testBit_two_pow_sub_one]
    simp [q, hi]
  · have a : (255 : Nat).testBit i = false := by
      rw [show (255 : Nat) = 2 ^ 8 - 1 from rfl, Nat.testBit_two_pow_sub_one]; simp; omega
    have b : c.testBit i = false := Nat.testBit_lt_two_pow (Nat.lt_of_lt_of_le (show c < 2 ^ 8 from hc) (Nat.pow_le_pow_right (by decide) (by omega)))
    rw [a, b]; simp
/-- five longs hold n words -/
def zRw (f : Nat → Int64) (n : Nat) (w : Nat → Nat) : Prop :=
  ∀ q, q < 5 → ∀ i, i < 64 → zbt (f q) i = (decide (8 * q + i / 8 < n) && (w (8 * q + i / 8)).testBit (i % 8))
theorem zRw_0 {f : Nat → Int64} {w : Nat → Nat} (h : ∀ q, q < 5 → f q = 0) : zRw f 0 w := by
  intro q hq i hi
  rw [h q hq, zbt_0]
  simp
theorem zRw_get {f : Nat → Int64} {n : Nat} {w : Nat → Nat} (h : zRw f n w) {k : Nat} (hk : k < n) (hn : n ≤ 40) (hw : w k < 256) :
    Int64.toInt32 ((Int64.toUInt64 (f (k / 8)) >>> ((Int32.toInt64 (nI (8 * (k % 8)))).toUInt64 &&& Int64.toUInt64 63)).toInt64) &&& 255 = nI (w k) := by
  apply zbt_byte hw
  intro i hi
  rw [zbt_shr _ _ (by omega), h (k / 8) (by omega) _ (by omega)]
  have e : 8 * (k / 8) + (8 * (k % 8) + i) / 8 = k := by omega
  have e2 : (8 * (k % 8) + i) % 8 = i := by omega
  rw [e, e2, decide_eq_true hk, Bool.true_and]
theorem zRw_put {f : Nat → Int64} {n : Nat} {w : Nat → Nat} (h : zRw f n w) (hn : n < 40) {v : Nat} (hv : v < 256) :
    zRw (fun q => if q = n / 8 then f (n / 8) ||| (Int32.toInt64 (nI v) <<< (Int32.toInt64 (nI (8 * (n % 8))) &&& 63)) else f q) (n + 1) (fun k => if k = n then v else w k) := by
  intro q hq i hi
  dsimp only
  by_cases e : q = n / 8
  · rw [if_pos e, zbt_or, ← e, h q hq i hi, zbt_shl _ hi (by omega), zbt_nI (by omega)]
    by_cases k : 8 * q + i / 8 < n
    · have a : ¬ 8 * q + i / 8 = n := by omega
      have b : i < 8 * (n % 8) := by omega
      have c : 8 * q + i / 8 < n + 1 := by omega
      simp [a, b, c, k]
    · by_cases k2 : 8 * q + i / 8 = n
      · have b : ¬ i < 8 * (n % 8) := by omega
        have c : i - 8 * (n % 8) = i % 8 := by omega
        have d : i % 8 < 64 := by omega
        simp [k2, b, c, d]
      · have b : ¬ i < 8 * (n % 8) := by omega
        have c : ¬ 8 * q + i / 8 < n + 1 := by omega
        have d : v.testBit (i - 8 * (n % 8)) = false := Nat.testBit_lt_two_pow (Nat.lt_of_lt_of_le (show v < 2 ^ 8 from hv) (Nat.pow_le_pow_right (by decide) (by omega)))
        simp [k, c, d]
  · rw [if_neg e, h q hq i hi]
    have a : ¬ 8 * q + i / 8 = n := by omega
    have b : 8 * q + i / 8 < n ↔ 8 * q + i / 8 < n + 1 := by omega
    rw [if_neg a]
    simp only [b]
theorem zRw_ext {f g : Nat → Int64} {n : Nat} {w u : Nat → Nat} (h : zRw f n w) (h2 : zRw g n u) (hn : n ≤ 40) (hw : ∀ k, k < n → w k < 256) (hu : ∀ k, k < n → u k < 256) :
    (∀ q, q < 5 → f q = g q) ↔ ∀ k, k < n → w k = u k := by
  constructor
  · intro e k hk
    apply Nat.eq_of_testBit_eq
    intro i
    by_cases q : i < 8
    · have a := h (k / 8) (by omega) (8 * (k % 8) + i) (by omega)
      have b := h2 (k / 8) (by omega) (8 * (k % 8) + i) (by omega)
      have e1 : 8 * (k / 8) + (8 * (k % 8) + i) / 8 = k := by omega
      have e2 : (8 * (k % 8) + i) % 8 = i := by omega
      rw [e1, e2, decide_eq_true hk, Bool.true_and] at a b
      rw [← a, ← b, e _ (by omega)]
    · have z : ∀ x : Nat, x < 256 → x.testBit i = false := fun x hx => Nat.testBit_lt_two_pow (Nat.lt_of_lt_of_le (show x < 2 ^ 8 from hx) (Nat.pow_le_pow_right (by decide) (by omega)))
      rw [z _ (hw k hk), z _ (hu k hk)]
  · intro e q hq
    apply zbt_ext
    intro i hi
    rw [h q hq i hi, h2 q hq i hi]
    by_cases k : 8 * q + i / 8 < n
    · rw [e _ k]
    · rw [decide_eq_false k, Bool.false_and, Bool.false_and]
