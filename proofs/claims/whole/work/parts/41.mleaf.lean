/-! the reference: its small methods -/
theorem lgc_cases (x z : Int64) : (x.toInt < z.toInt ∧ lg_cmp x z = -1) ∨ (x.toInt = z.toInt ∧ lg_cmp x z = 0) ∨ (z.toInt < x.toInt ∧ lg_cmp x z = 1) := by
  unfold lg_cmp
  simp only [gt_iff_lt, Int64.lt_iff_toInt_lt, ← Int64.toInt_inj]
  by_cases h1 : z.toInt < x.toInt
  · simp [h1]
  · by_cases h2 : x.toInt = z.toInt
    · simp [h2]
    · simp [h1, h2]; omega
theorem lgc_lt (x z : Int64) : lg_cmp x z < 0 ↔ x < z := by
  rw [Int64.lt_iff_toInt_lt]
  rcases lgc_cases x z with ⟨h, e⟩ | ⟨h, e⟩ | ⟨h, e⟩ <;> rw [e]
  · exact ⟨fun _ => h, fun _ => by decide⟩
  · exact ⟨fun q => absurd q (by decide), fun q => by omega⟩
  · exact ⟨fun q => absurd q (by decide), fun q => by omega⟩
theorem lgc_gt (x z : Int64) : 0 < lg_cmp x z ↔ z < x := by
  rw [Int64.lt_iff_toInt_lt]
  rcases lgc_cases x z with ⟨h, e⟩ | ⟨h, e⟩ | ⟨h, e⟩ <;> rw [e]
  · exact ⟨fun q => absurd q (by decide), fun q => by omega⟩
  · exact ⟨fun q => absurd q (by decide), fun q => by omega⟩
  · exact ⟨fun _ => h, fun _ => by decide⟩
theorem lgc_eq (x z : Int64) : lg_cmp x z = 0 ↔ x = z := by
  rw [← Int64.toInt_inj]
  rcases lgc_cases x z with ⟨h, e⟩ | ⟨h, e⟩ | ⟨h, e⟩ <;> rw [e]
  · exact ⟨fun q => absurd q (by decide), fun q => by omega⟩
  · exact ⟨fun _ => h, fun _ => rfl⟩
  · exact ⟨fun q => absurd q (by decide), fun q => by omega⟩
theorem zb2_some {α β : Type} (v : α × zq_S) (f : α → zq_S → Option β) : zq_b2 (some v) f = f v.1 v.2 := rfl
theorem zif_iff {c d : Prop} [Decidable c] [Decidable d] (h : c ↔ d) : (if c then (1 : Int32) else 0) = if d then 1 else 0 := by
  by_cases hc : c
  · rw [if_pos hc, if_pos (h.mp hc)]
  · rw [if_neg hc, if_neg (fun q => hc (h.mpr q))]
theorem mX12_in_eq (N : Nat) (a l m : Int64) (s : zq_S) : mX12_in N a l m s = some (if l ≤ a ∧ a ≤ m then 1 else 0, s) := by
  unfold mX12_in zq_let
  simp only [lgc_lt, lgc_gt, Int64.lt_iff_toInt_lt, Int64.le_iff_toInt_le]
  by_cases h1 : a.toInt < l.toInt
  · rw [if_pos h1, if_neg (by omega)]; rfl
  · rw [if_neg h1]
    by_cases h2 : m.toInt < a.toInt
    · rw [if_pos h2, if_neg (by omega)]; rfl
    · rw [if_neg h2, if_pos (by omega)]; rfl
theorem zb_if (c : Prop) [Decidable c] {α : Type} (x : Option α) : zq_bz (if c then (1 : Int32) else 0) x = x := by
  unfold zq_bz
  split <;> simp
theorem mX12_has_eq (N : Nat) {S j : Nat} (hS : S < 2 ^ 31) (hj : j < 32) (s : zq_S) : mX12_has N (nI S) (nI j) s = some (if S.testBit j then 1 else 0, s) := by
  unfold mX12_has zq_let
  rw [zn_bit hS hj]
  cases S.testBit j <;> rfl
theorem mX12_all_eq (N : Nat) {n : Nat} {s : zq_S} (hm : zgf s 57 6 = nI n) (hn : n ≤ 10) : mX12_all N s = some (nI (2 ^ n - 1), s) := by
  unfold mX12_all
  rw [hm, zn_full hn]
theorem mX12_isMark_eq (N : Nat) {n : Nat} {s : zq_S} (hm : zgf s 57 6 = nI n) (hn : n ≤ 10) (m : Int32) : mX12_isMark N m s = some (if ¬ m < 0 ∧ ¬ nI n ≤ m then 1 else 0, s) := by
  unfold mX12_isMark
  rw [mX12_in_eq, hm, zb2_some]
  dsimp only
  rw [zb_if]
  congr 2
  simp only [Int64.le_iff_toInt_le, Int32.toInt_toInt64, Int32.lt_iff_toInt_lt, Int32.le_iff_toInt_le, nI_toInt (show n < 2 ^ 31 by omega), Int32.toInt_zero]
  have e : (nI n - 1).toInt = (n : Int) - 1 := pk_sub_toInt (a := n) (b := 1) (by omega) (by omega)
  rw [e]
  have e0 : (0 : Int64).toInt = 0 := rfl
  rw [e0]
  exact zif_iff (by omega)
theorem mX12_areMarks_eq (N : Nat) {n : Nat} {s : zq_S} (hm : zgf s 57 6 = nI n) (hn : n ≤ 10) (x : Int32) : mX12_areMarks N x s = some (if ¬ x < 0 ∧ x ≤ nI (2 ^ n - 1) then 1 else 0, s) := by
  unfold mX12_areMarks
  rw [mX12_all_eq N hm hn, zb2_some]
  dsimp only
  rw [mX12_in_eq, zb2_some]
  dsimp only
  rw [zb_if]
  congr 2
  have hp := zn_pow hn
  simp only [Int64.le_iff_toInt_le, Int32.toInt_toInt64, Int32.lt_iff_toInt_lt, Int32.le_iff_toInt_le, Int32.toInt_zero]
  have e0 : (0 : Int64).toInt = 0 := rfl
  rw [e0]
  exact zif_iff (by omega)
/-- how many bits below k -/
def zbc (S : Nat) : Nat → Nat
  | 0 => 0
  | k + 1 => zbc S k + (if S.testBit k then 1 else 0)
theorem zbc_le (S k : Nat) : zbc S k ≤ k := by
  induction k with
  | zero => exact Nat.le_refl 0
  | succ k ih => unfold zbc; split <;> omega
theorem mX12_bits_eq (N : Nat) (hN : 5000 ≤ N) {S : Nat} (hS : S < 2 ^ 31) (s : zq_S) : mX12_bits N (nI S) s = some (nI (zbc S 10), s) := by
  unfold mX12_bits
  refine zq_up (r := some (nI (zbc S 10), s)) 10 (fun j => (nI (zbc S j), nI j, s)) (fun self => ?_) (fun self j hj => ?_) N 0 (by omega) (by omega)
  · rfl
  · unfold bX12_bits_4
    dsimp only
    rw [if_neg (show ¬ (10 : Int32) ≤ nI j from nI_ge hj (by decide)), zn_bit hS (by omega)]
    unfold zq_let
    have e1 : nI (zbc S j) + (if S.testBit j then (1 : Int32) else 0) = nI (zbc S (j + 1)) := by
      show _ = nI (zbc S j + (if S.testBit j then 1 else 0))
      rw [← nI_add]
      split <;> rfl
    rw [e1, nI_1]
