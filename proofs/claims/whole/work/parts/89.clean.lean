/-! clean orders: counted from the end by the class, from the start by the reference -/
theorem zsi_flip {n m : Nat} (hm : m < n) (f : Nat → Int64) : zsi 0 (fun S => f (S ^^^ 2 ^ m)) (2 ^ n) = zsi 0 f (2 ^ n) := by
  have xx : ∀ S, S ^^^ 2 ^ m ^^^ 2 ^ m = S := fun S => by rw [Nat.xor_assoc, Nat.xor_self, Nat.xor_zero]
  have e1 : ∀ S, S < 2 ^ n → f S = zsi 0 (fun T => if decide (T = S ^^^ 2 ^ m) then f S else 0) (2 ^ n) := by
    intro S hS
    exact (zsr_one (fun _ => f S) (zxor_lt hS hm) (fun P _ => decide_eq_true_iff)).symm
  have e2 : ∀ T, T < 2 ^ n → f (T ^^^ 2 ^ m) = zsi 0 (fun S => if decide (T = S ^^^ 2 ^ m) then f S else 0) (2 ^ n) := by
    intro T hT
    refine (zsr_one f (zxor_lt hT hm) (fun P _ => ?_)).symm
    rw [decide_eq_true_iff]
    constructor
    · rintro rfl; rw [xx]
    · rintro rfl; rw [xx]
  rw [zsi_congr 0 _ e1, zsi_congr 0 _ e2, zsi_swap]
/-- ways through: the same sum from both ends -/
theorem zthru {n : Nat} (mu : Nat → Nat) (C G : Nat → Int64) :
    zsi 0 (fun S => zsi 0 (fun m => if zed n mu S m then C S * G (S ||| 2 ^ m) else 0) n) (2 ^ n) = zsi 0 (fun T => zsi 0 (fun m => if T.testBit m && zed n mu (T ^^^ 2 ^ m) m then C (T ^^^ 2 ^ m) * G T else 0) n) (2 ^ n) := by
  rw [zsi_swap, zsi_swap (fun T m => if T.testBit m && zed n mu (T ^^^ 2 ^ m) m then C (T ^^^ 2 ^ m) * G T else 0)]
  refine zsi_congr 0 _ (fun m hm => ?_)
  rw [← zsi_flip hm (fun T => if T.testBit m && zed n mu (T ^^^ 2 ^ m) m then C (T ^^^ 2 ^ m) * G T else 0)]
  refine zsi_congr 0 _ (fun S _ => ?_)
  rw [Nat.xor_assoc, Nat.xor_self, Nat.xor_zero, zxor_bit, if_pos rfl]
  cases q : zed n mu S m with
  | false => rw [Bool.and_false]; rfl
  | true =>
    have h := (zed_lt q).2.1
    have e : S ^^^ 2 ^ m = S ||| 2 ^ m := by
      apply Nat.eq_of_testBit_eq
      intro i
      rw [zxor_bit, zor_bit]
      by_cases c : i = m
      · rw [if_pos c, if_pos c, c, h]; rfl
      · rw [if_neg c, if_neg c]
    rw [h, e]
    rfl
theorem zcR_ok {n : Nat} {mu : Nat → Nat} {c F : Nat → Int64} {S : Nat} (h : zcR n mu c F S) (hc : c S = 1) : F S = if S = 2 ^ n - 1 then 1 else zfv n (zed n mu S) S 0 F := by
  unfold zcR at h
  rw [hc, if_neg (show ¬ (1 : Int64) = 0 by decide)] at h
  exact h
theorem zcR_no {n : Nat} {mu : Nat → Nat} {c F : Nat → Int64} {S : Nat} (h : zcR n mu c F S) (hc : c S = 0) : F S = 0 := by
  unfold zcR at h
  rw [hc, if_pos rfl] at h
  exact h
/-- the reference's rule -/
def zcl (n : Nat) (mu : Nat → Nat) (ok : Nat → Bool) (C : Nat → Int64) (S : Nat) : Prop :=
  C S = if zgd mu S n && ok S then (if S = 0 then 1 else 0) + zsi 0 (fun m => if S.testBit m && zed n mu (S ^^^ 2 ^ m) m then C (S ^^^ 2 ^ m) else 0) n else 0
theorem zclean_eq {n : Nat} {mu : Nat → Nat} (hh : ∀ m, m < n → mu m < 2 ^ n) {ok : Nat → Bool} {C G : Nat → Int64} (hC : ∀ S, S < 2 ^ n → zcl n mu ok C S) (hG : ∀ S, S < 2 ^ n → zgd mu S n = true → zcR n mu (fun S => if ok S then 1 else 0) G S) : C (2 ^ n - 1) = G 0 := by
  have h0 : 0 < 2 ^ n := Nat.pow_pos (by decide)
  have i1 : ∀ S, S < 2 ^ n → C S * G S = (if S = 2 ^ n - 1 then C S else 0) + zsi 0 (fun m => if zed n mu S m then C S * G (S ||| 2 ^ m) else 0) n := by
    intro S hS
    have c := hC S hS
    unfold zcl at c
    by_cases q : (zgd mu S n && ok S) = true
    · rw [Bool.and_eq_true] at q
      have hg := zcR_ok (hG S hS q.1) (if_pos q.2)
      by_cases e : S = 2 ^ n - 1
      · rw [if_pos e] at hg ⊢
        rw [hg, Int64.mul_one, zsi_zero _ _ (fun m _ => by rw [e, zed_full]; rfl), Int64.add_zero]
      · rw [if_neg e] at hg ⊢
        rw [hg, Int64.zero_add, zfv, ← zsi_mul]
        refine zsi_congr 0 _ (fun m _ => ?_)
        split
        · rfl
        · rw [Int64.mul_zero]
    · rw [if_neg q] at c
      rw [c, Int64.zero_mul, ite_self, Int64.zero_add]
      exact (zsi_zero _ _ (fun m _ => by split <;> simp)).symm
  have i2 : ∀ S, S < 2 ^ n → C S * G S = (if S = 0 then G S else 0) + zsi 0 (fun m => if S.testBit m && zed n mu (S ^^^ 2 ^ m) m then C (S ^^^ 2 ^ m) * G S else 0) n := by
    intro S hS
    have c := hC S hS
    unfold zcl at c
    cases q1 : zgd mu S n with
    | false =>
      have ne : S ≠ 0 := by
        rintro rfl
        rw [zgd_zero] at q1
        cases q1
      rw [q1, Bool.false_and, if_neg (by decide)] at c
      rw [c, Int64.zero_mul, if_neg ne, Int64.zero_add]
      refine (zsi_zero _ _ (fun m _ => ?_)).symm
      rw [if_neg]
      intro z
      rw [Bool.and_eq_true] at z
      have := zgd_next z.2
      have e : (S ^^^ 2 ^ m) ||| 2 ^ m = S := by
        apply Nat.eq_of_testBit_eq
        intro i
        rw [zor_bit, zxor_bit]
        by_cases c : i = m
        · rw [if_pos c, c, z.1]
        · rw [if_neg c, if_neg c]
      rw [e, q1] at this
      cases this
    | true =>
      rw [q1, Bool.true_and] at c
      cases q2 : ok S with
      | false =>
        have hg := zcR_no (hG S hS q1) (by rw [q2]; rfl)
        rw [q2, if_neg (by decide)] at c
        rw [c, hg, Int64.zero_mul, ite_self, Int64.zero_add]
        exact (zsi_zero _ _ (fun m _ => by split <;> simp)).symm
      | true =>
        rw [q2, if_pos rfl] at c
        rw [c, Int64.add_mul]
        congr 1
        · split <;> simp
        · rw [Int64.mul_comm, ← zsi_mul]
          refine zsi_congr 0 _ (fun m _ => ?_)
          split
          · rw [Int64.mul_comm]
          · rw [Int64.mul_zero]
  have s1 : zsi 0 (fun S => C S * G S) (2 ^ n) = C (2 ^ n - 1) + zsi 0 (fun S => zsi 0 (fun m => if zed n mu S m then C S * G (S ||| 2 ^ m) else 0) n) (2 ^ n) := by
    rw [zsi_congr 0 _ i1, zsi_add]
    congr 1
    have := zsr_one (n := n) (S := 2 ^ n - 1) C (by omega) (R := fun P => decide (P = 2 ^ n - 1)) (fun P _ => decide_eq_true_iff)
    unfold zsr at this
    rw [← this]
    refine zsi_congr 0 _ (fun P _ => ?_)
    by_cases q : P = 2 ^ n - 1 <;> simp [q]
  have s2 : zsi 0 (fun S => C S * G S) (2 ^ n) = G 0 + zsi 0 (fun T => zsi 0 (fun m => if T.testBit m && zed n mu (T ^^^ 2 ^ m) m then C (T ^^^ 2 ^ m) * G T else 0) n) (2 ^ n) := by
    rw [zsi_congr 0 _ i2, zsi_add]
    congr 1
    have := zsr_one (n := n) (S := 0) G h0 (R := fun P => decide (P = 0)) (fun P _ => decide_eq_true_iff)
    unfold zsr at this
    rw [← this]
    refine zsi_congr 0 _ (fun P _ => ?_)
    by_cases q : P = 0 <;> simp [q]
  rw [s1, zthru mu C G] at s2
  exact (Int64.add_left_inj _).mp s2
