/-! how many ways on from each set, as a number -/
def zsn (f : Nat → Nat) : Nat → Nat
  | 0 => 0
  | k + 1 => zsn f k + f k
theorem zsn_congr {f g : Nat → Nat} (k : Nat) (h : ∀ m, m < k → f m = g m) : zsn f k = zsn g k := by
  induction k with
  | zero => rfl
  | succ k ih => rw [zsn, zsn, ih (fun m hm => h m (by omega)), h k (by omega)]
theorem zsn_le {f : Nat → Nat} {b : Nat} (k : Nat) (h : ∀ m, m < k → f m ≤ b) : zsn f k ≤ k * b := by
  induction k with
  | zero => exact Nat.zero_le _
  | succ k ih =>
    have h1 := ih (fun m hm => h m (by omega))
    have h2 := h k (by omega)
    rw [zsn, Nat.succ_mul]
    omega
theorem zsi_lN (f : Nat → Nat) (a k : Nat) : zsi (lN a) (fun m => lN (f m)) k = lN (a + zsn f k) := by
  induction k with
  | zero => rfl
  | succ k ih => rw [zsi, ih, lN_add, zsn, Nat.add_assoc]
def zWF (n : Nat) (mu : Nat → Nat) : Nat → Nat → Nat
  | 0, _ => 0
  | d + 1, S => if S = 2 ^ n - 1 then 1 else zsn (fun m => if zed n mu S m then zWF n mu d (S ||| 2 ^ m) else 0) n
theorem zWF_le {n : Nat} (hn : n ≤ 10) (mu : Nat → Nat) : ∀ d S, zWF n mu d S ≤ 10 ^ d := by
  intro d
  induction d with
  | zero => intro S; exact Nat.zero_le _
  | succ d ih =>
    intro S
    unfold zWF
    have hp : 0 < 10 ^ d := Nat.pow_pos (by decide)
    rw [Nat.pow_succ]
    split
    · omega
    · have h1 := zsn_le (f := fun m => if zed n mu S m then zWF n mu d (S ||| 2 ^ m) else 0) (b := 10 ^ d) n (fun m _ => by
        split
        · exact ih _
        · exact Nat.zero_le _)
      have h2 : n * 10 ^ d ≤ 10 * 10 ^ d := Nat.mul_le_mul_right _ hn
      omega
theorem zbc_or {S m : Nat} (h : S.testBit m = false) : ∀ k, zbc (S ||| 2 ^ m) k = zbc S k + (if m < k then 1 else 0) := by
  intro k
  induction k with
  | zero => simp [zbc]
  | succ k ih =>
    rw [zbc, zbc, ih, Nat.testBit_or]
    by_cases e : m = k
    · subst e
      rw [Nat.testBit_two_pow_self, h]
      simp
    · rw [Nat.testBit_two_pow_of_ne e, Bool.or_false]
      by_cases e2 : m < k
      · simp [e2, show m < k + 1 by omega]; omega
      · simp [e2, show ¬ m < k + 1 by omega]
theorem zWF_fuel {n : Nat} {mu : Nat → Nat} : ∀ d e S, n - zbc S n < d → n - zbc S n < e → zWF n mu d S = zWF n mu e S := by
  intro d
  induction d with
  | zero => intro e S h; omega
  | succ d ih =>
    intro e S h1 h2
    obtain ⟨e, rfl⟩ : ∃ e', e = e' + 1 := ⟨e - 1, by omega⟩
    unfold zWF
    split
    · rfl
    · refine zsn_congr n (fun m hm => ?_)
      cases q : zed n mu S m with
      | false => rfl
      | true =>
        have h3 := zbc_or (zed_lt q).2.1 n
        rw [if_pos hm] at h3
        have h4 := zbc_le (S ||| 2 ^ m) n
        simp [ih e (S ||| 2 ^ m) (by omega) (by omega)]
def zW (n : Nat) (mu : Nat → Nat) (S : Nat) : Nat := zWF n mu (n + 1) S
theorem zW_lt {n : Nat} (hn : n ≤ 10) (mu : Nat → Nat) (S : Nat) : zW n mu S < 2 ^ 62 := by
  have h1 := zWF_le hn mu (n + 1) S
  have h2 : 10 ^ (n + 1) ≤ 10 ^ 11 := Nat.pow_le_pow_right (by decide) (by omega)
  have h3 : 10 ^ 11 < 2 ^ 62 := by decide
  unfold zW
  omega
theorem zW_rec {n : Nat} (mu : Nat → Nat) (S : Nat) : zW n mu S = if S = 2 ^ n - 1 then 1 else zsn (fun m => if zed n mu S m then zW n mu (S ||| 2 ^ m) else 0) n := by
  show zWF n mu (n + 1) S = _
  rw [zWF]
  split
  · rfl
  · refine zsn_congr n (fun m hm => ?_)
    cases q : zed n mu S m with
    | false => rfl
    | true =>
      have h3 := zbc_or (zed_lt q).2.1 n
      rw [if_pos hm] at h3
      have h4 := zbc_le (S ||| 2 ^ m) n
      simp only [if_true]
      exact zWF_fuel _ _ _ (by omega) (by omega)
theorem zfull_bit {n m : Nat} (hm : m < n) : (2 ^ n - 1).testBit m = true := by
  rw [Nat.testBit_two_pow_sub_one]
  exact decide_eq_true hm
theorem zed_full {n : Nat} (mu : Nat → Nat) (m : Nat) : zed n mu (2 ^ n - 1) m = false := by
  cases q : zed n mu (2 ^ n - 1) m with
  | false => rfl
  | true =>
    obtain ⟨h1, h2, -⟩ := zed_lt q
    rw [zfull_bit h1] at h2
    cases h2
theorem zfv_full {n : Nat} (mu : Nat → Nat) (t : Int64) (F : Nat → Int64) : zfv n (zed n mu (2 ^ n - 1)) (2 ^ n - 1) t F = t := by
  unfold zfv
  have : ∀ k, zsi t (fun m => if zed n mu (2 ^ n - 1) m then F ((2 ^ n - 1) ||| 2 ^ m) else 0) k = t := by
    intro k
    induction k with
    | zero => rfl
    | succ k ih => rw [zsi, ih, zed_full]; simp
  exact this n
theorem zfv_W {n : Nat} {mu : Nat → Nat} (S : Nat) : zfv n (zed n mu S) S 0 (fun T => lN (zW n mu T)) = lN (zsn (fun m => if zed n mu S m then zW n mu (S ||| 2 ^ m) else 0) n) := by
  unfold zfv
  have e : (fun m => if zed n mu S m then (fun T => lN (zW n mu T)) (S ||| 2 ^ m) else (0 : Int64)) = fun m => lN (if zed n mu S m then zW n mu (S ||| 2 ^ m) else 0) := by
    funext m
    split <;> rfl
  rw [e, show (0 : Int64) = lN 0 from rfl, zsi_lN, Nat.zero_add]
theorem zW_recG {n : Nat} (mu : Nat → Nat) : zrecG n mu (fun S => if S = 2 ^ n - 1 then 1 else 0) (fun S => lN (zW n mu S)) := by
  intro S hS hg
  dsimp only
  by_cases e : S = 2 ^ n - 1
  · rw [if_pos e, zW_rec, if_pos e]
    subst e
    rw [zfv_full]
    rfl
  · rw [if_neg e, zfv_W, zW_rec, if_neg e]
/-- the reference's and the class's tables both hold zW on the good sets -/
theorem zrec_W {n : Nat} {mu : Nat → Nat} {F : Nat → Int64} (h : zrec n (zed n mu) (fun S => if S = 2 ^ n - 1 then 1 else 0) F) : ∀ S, S < 2 ^ n → zgd mu S n = true → F S = lN (zW n mu S) :=
  zrecG_uniq (fun S hS _ => h S hS) (zW_recG mu)
theorem zcR_W {n : Nat} {mu : Nat → Nat} {F : Nat → Int64} (h : ∀ S, S < 2 ^ n → zgd mu S n = true → zcR n mu (fun _ => 1) F S) : ∀ S, S < 2 ^ n → zgd mu S n = true → F S = lN (zW n mu S) := by
  refine zrecG_uniq (t := fun S => if S = 2 ^ n - 1 then 1 else 0) (fun S hS hg => ?_) (zW_recG mu)
  have h1 := h S hS hg
  unfold zcR at h1
  dsimp only at h1 ⊢
  rw [if_neg (show ¬ (1 : Int64) = 0 by decide)] at h1
  by_cases e : S = 2 ^ n - 1
  · rw [if_pos e] at h1
    rw [h1, if_pos e]
    subst e
    rw [zfv_full]
  · rw [if_neg e] at h1
    rw [if_neg e]
    exact h1
-- counting where the row of good sets may be out of date
theorem xcg_45 (N : Nat) {s s' : zq_S} {r : Int32} (h1 : mX3_goodCount N s = some (r, s')) (h2 : mX3_goodCount N s' = some (r, s')) : mX4_countWays_a45 N s = mX4_countWays_a45 N s' := by
  unfold mX4_countWays_a45
  rw [h1, h2]
theorem xcg_1 (N : Nat) {s s' : zq_S} {r : Int32} (h1 : mX3_goodCount N s = some (r, s')) (h2 : mX3_goodCount N s' = some (r, s')) : mX4_countWays_a1 N s = mX4_countWays_a1 N s' := by
  unfold mX4_countWays_a1
  rw [h1, h2]
/-- the class's row of ways holds -/
def zWV (s : zq_S) (n : Nat) (mu : Nat → Nat) : Prop := ∀ S, S < 2 ^ n → zgd mu S n = true → zL s 45 S = lN (zW n mu S)
/-- Orders.number: what changes is the row of good sets, the row of ways, and their versions -/
theorem mX4_number_eq (N : Nat) (hN : 5000 ≤ N) {s : zq_S} {n : Nat} {mu : Nat → Nat} (hX : zXM s n mu) (hc : zgf s 31 9 = zgf s 31 8 → zGD s n mu) (hw : zgf s 44 5 = zgf s 31 8 → zWV s n mu) :
    ∃ s', mX4_number N s = some (lN (zW n mu 0), s') ∧ zWV s' n mu ∧ zgf s' 44 5 = zgf s 31 8 ∧ (s' = s ∨ ∃ o T, s' = zsL (zG3 (zpf s 44 5 (zgf s 31 8)) (zli (zgL mu n (2 ^ n)) o) (nI (zgL mu n (2 ^ n)).length)) 45 T) := by
  have h0 : 0 < 2 ^ n := Nat.pow_pos (by decide)
  unfold mX4_number jX4_number_j41
  by_cases h : zgf s 44 5 = zgf s 31 8
  · refine ⟨s, ?_, hw h, h, Or.inl rfl⟩
    rw [if_pos h, show (0 : Int32) = nI 0 from rfl, zck_nI (by decide) (by decide), zgl_nI _ _ (by decide), hw h 0 h0 (zgd_zero mu n)]
  · rw [if_neg h]
    dsimp only [zq_let]
    have hz := zs_or (zgb s 3)
    have hX1 : zXM (zpfl (zpf s 44 5 (zgf s 31 8)) 45 1024 1) n mu := by
      obtain ⟨a1, a2, a3, a4⟩ := hX
      refine ⟨a1, ?_, a3, a4⟩
      rw [zpfl_eq, zgf_sL, zgb_sL, zgb_pf, zgf_pf, if_neg (by omega)]
      exact a2
    have hc1 : zgf (zpfl (zpf s 44 5 (zgf s 31 8)) 45 1024 1) 31 9 = zgf (zpfl (zpf s 44 5 (zgf s 31 8)) 45 1024 1) 31 8 → zGD (zpfl (zpf s 44 5 (zgf s 31 8)) 45 1024 1) n mu := hc
    obtain ⟨o, ho⟩ := mX3_goodCount_eq N hN hX1 hc1
    have hV := zGV_G3 hX1 o
    obtain ⟨T, hT, hR⟩ := xcw_45 N hN hV _ rfl
    have hR2 : ∀ S, S < 2 ^ n → zgd mu S n = true → zcR n mu (fun _ => 1) T S := by
      intro S h1 h2
      have h3 := hR S h1 h2
      have hp := zn_pow hX.1
      unfold zcR at h3 ⊢
      have e : zL (zG3 (zpfl (zpf s 44 5 (zgf s 31 8)) 45 1024 1) (zli (zgL mu n (2 ^ n)) o) (nI (zgL mu n (2 ^ n)).length)) 45 S = 1 := by
        rw [zG3_L, zpfl_eq, zL_self]
        exact if_pos (by omega)
      rw [e] at h3
      exact h3
    have hW := zcR_W hR2
    refine ⟨zsL (zG3 (zpf s 44 5 (zgf s 31 8)) (zli (zgL mu n (2 ^ n)) o) (nI (zgL mu n (2 ^ n)).length)) 45 T, ?_, ?_, rfl, Or.inr ⟨o, T, rfl⟩⟩
    · rw [xcg_45 N ho (mX3_goodCount_v N hV), hT, zb2_some]
      dsimp only
      rw [show (0 : Int32) = nI 0 from rfl, zck_nI (by decide) (by decide), zgl_nI _ _ (by decide), zL_self, hW 0 h0 (zgd_zero mu n)]
      congr 2
      refine zs_ext (fun _ _ => rfl) (fun _ => rfl) (fun _ => rfl) (fun k => ?_)
      rw [zL_sL, zL_sL, zG3_L, zG3_L, zpfl_eq, zL_sL]
      split <;> rfl
    · intro S h1 h2
      rw [zL_self]
      exact hW S h1 h2
