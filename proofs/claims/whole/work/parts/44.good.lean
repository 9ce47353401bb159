/-! good sets, and the marks that may come next -/
theorem zq_srch {α β : Type} {b : (α → Option β) → α → Option β} {rf rx : Option β} (e : Nat) (g : Nat → α) (Z : Nat → Bool) (hx : ∀ self, Z e = true → b self (g e) = rf) (hs : ∀ (self : α → Option β) (j : Nat), j < e → Z j = true → b self (g j) = if Z (j + 1) then self (g (j + 1)) else rx) (hZ : ∀ j, j < e → Z j = false → Z (j + 1) = false) :
    ∀ (n j : Nat), j ≤ e → e - j < n → Z j = true → zq_loop b n (g j) = if Z e then rf else rx := by
  intro n
  induction n with
  | zero => intro j _ h; omega
  | succ n ih =>
    intro j hj hn hz
    rw [zq_loop_s]
    by_cases h : j = e
    · subst h
      rw [hx _ hz, if_pos hz]
    · rw [hs _ j (by omega) hz]
      cases q : Z (j + 1) with
      | true => exact ih (j + 1) (by omega) (by omega) q
      | false =>
        have hf : ∀ r, j + 1 + r ≤ e → Z (j + 1 + r) = false := by
          intro r
          induction r with
          | zero => exact fun _ => q
          | succ r ihr => exact fun hr => hZ (j + 1 + r) (by omega) (ihr (by omega))
        have := hf (e - (j + 1)) (by omega)
        rw [show j + 1 + (e - (j + 1)) = e by omega] at this
        rw [this]
        rfl
def zsb (a S : Nat) : Bool := a &&& S == a
theorem zn_sub {a b : Nat} (ha : a < 2 ^ 31) : (nI a &&& (nI b ^^^ (-1))) = 0 ↔ zsb a b = true := by
  rw [zn_not, zn_and, nI_eq (Nat.lt_of_le_of_lt Nat.and_le_left ha) ha]
  unfold zsb
  simp
def zgd (mu : Nat → Nat) (S : Nat) : Nat → Bool
  | 0 => true
  | m + 1 => zgd mu S m && (!S.testBit m || zsb (mu m) S)
def znx (mu : Nat → Nat) (S : Nat) : Nat → Nat
  | 0 => 0
  | m + 1 => znx mu S m ||| (if !S.testBit m && zsb (mu m) S then 2 ^ m else 0)
theorem znx_lt {n : Nat} (mu : Nat → Nat) (S : Nat) : ∀ j, j ≤ n → znx mu S j < 2 ^ n := by
  intro j
  induction j with
  | zero => exact fun _ => Nat.pow_pos (by decide)
  | succ j ih =>
    intro hj
    refine Nat.or_lt_two_pow (ih (by omega)) ?_
    split
    · exact Nat.pow_lt_pow_right (by decide) (by omega)
    · exact Nat.pow_pos (by decide)
theorem znx_bit (mu : Nat → Nat) (S m : Nat) : ∀ j, (znx mu S j).testBit m = (decide (m < j) && (!S.testBit m && zsb (mu m) S)) := by
  intro j
  induction j with
  | zero => simp [znx]
  | succ j ih =>
    rw [znx, Nat.testBit_or, ih]
    by_cases e : m = j
    · subst e
      cases q : (!S.testBit m && zsb (mu m) S) <;> simp [Nat.testBit_two_pow_self]
    · have e2 : (if (!S.testBit j && zsb (mu j) S) = true then 2 ^ j else 0).testBit m = false := by
        split
        · exact Nat.testBit_two_pow_of_ne (Ne.symm e)
        · exact Nat.zero_testBit m
      rw [e2, Bool.or_false]
      by_cases e3 : m < j
      · simp [e3, show m < j + 1 by omega]
      · simp [e3, show ¬ m < j + 1 by omega]
theorem zgd_iff (mu : Nat → Nat) (S : Nat) : ∀ j, zgd mu S j = true ↔ ∀ m, m < j → S.testBit m = true → zsb (mu m) S = true := by
  intro j
  induction j with
  | zero => simp [zgd]
  | succ j ih =>
    rw [zgd, Bool.and_eq_true, ih]
    constructor
    · rintro ⟨h1, h2⟩ m hm hb
      by_cases e : m = j
      · subst e; simpa [hb] using h2
      · exact h1 m (by omega) hb
    · intro h
      refine ⟨fun m hm hb => h m (by omega) hb, ?_⟩
      cases q : S.testBit j with
      | false => rfl
      | true => simpa using h j (by omega) q
-- the class
theorem mX3_full_eq (N : Nat) {n : Nat} (hn : n ≤ 10) {s : zq_S} (hmk : zgf s (zs (zgb s 3)) 7 = nI n) : mX3_full N s = some (nI (2 ^ n - 1), s) := by
  unfold mX3_full
  rw [hmk, zn_full hn]
theorem mX3_hasMark_eq (N : Nat) {n : Nat} (hn : n ≤ 10) {s : zq_S} (hmk : zgf s (zs (zgb s 3)) 7 = nI n) (m : Int32) : mX3_hasMark N m s = some (if ¬ m < 0 ∧ ¬ nI n ≤ m then 1 else 0, s) := by
  dsimp only [mX3_hasMark, zq_let]
  rw [hmk]
  by_cases h1 : m < 0
  · rw [if_pos h1, if_neg (fun q => q.1 h1)]; rfl
  · rw [if_neg h1]
    by_cases h2 : nI n ≤ m
    · rw [if_pos h2, if_neg (fun q => q.2 h2)]; rfl
    · rw [if_neg h2, if_neg, if_pos ⟨h1, h2⟩]
      · rfl
      · intro h3
        apply h2
        rw [Int32.le_iff_toInt_le] at *
        rw [nI_toInt (by omega)]
        have : (10 : Int32).toInt = 10 := rfl
        omega
theorem mX3_hasBits_eq (N : Nat) {n : Nat} (hn : n ≤ 10) {s : zq_S} (hmk : zgf s (zs (zgb s 3)) 7 = nI n) (x : Int32) : mX3_hasBits N x s = some (if ¬ x < 0 ∧ x ≤ nI (2 ^ n - 1) then 1 else 0, s) := by
  dsimp only [mX3_hasBits, jX3_hasBits_j16, jX3_hasBits_j17]
  rw [mX3_full_eq N hn hmk, zb2_some]
  dsimp only
  by_cases h1 : x < 0
  · rw [if_pos h1, if_neg (fun q => q.1 h1)]; rfl
  · rw [if_neg h1]
    by_cases h2 : nI (2 ^ n - 1) < x
    · rw [if_pos h2, if_neg]
      · rfl
      · rintro ⟨_, q⟩
        rw [Int32.lt_iff_toInt_lt] at h2
        rw [Int32.le_iff_toInt_le] at q
        omega
    · have h3 : x ≤ nI (2 ^ n - 1) := by
        rw [Int32.lt_iff_toInt_lt] at h2
        rw [Int32.le_iff_toInt_le]
        omega
      rw [if_neg h2, if_pos ⟨h1, h3⟩]
      rfl
theorem mX3_isGood_eq (N : Nat) (hN : 5000 ≤ N) {n : Nat} (hn : n ≤ 10) {s : zq_S} {mu : Nat → Nat} (hmk : zgf s (zs (zgb s 3)) 7 = nI n) (h34 : ∀ m, m < n → zA s 34 m = nI (mu m)) (hh : ∀ m, m < n → mu m < 2 ^ n) {S : Nat} (hS : S < 2 ^ 31) : mX3_isGood N (nI S) s = some (if zgd mu S n then 1 else 0, s) := by
  unfold mX3_isGood
  have := zq_srch (b := bX3_isGood_2 N (nI S)) (rf := some ((1 : Int32), s)) (rx := some ((0 : Int32), s)) n (fun j => (nI j, s)) (zgd mu S) (fun self _ => ?_) (fun self j hj hz => ?_) (fun j hj hz => by rw [zgd, hz, Bool.false_and]) N 0 (by omega) (by omega) rfl
  · have e0 : ((0 : Int32), s) = (fun j => (nI j, s)) 0 := rfl
    rw [e0, this]
    split <;> rfl
  · dsimp only [bX3_isGood_2]
    rw [hmk, if_pos (nI_le (Nat.le_refl _) (by omega))]
  · have b1 := zp_lt hn (hh j hj)
    dsimp only [bX3_isGood_2, zq_let, jX3_isGood_j36]
    simp (disch := omega) only [hmk, nI_leI, Nat.not_le_of_lt hj, if_false, zn_bit, zck_nI, zga_nI, h34 j hj, zn_sub, nI_1, zgd, hz, Bool.true_and]
    cases S.testBit j <;> cases zsb (mu j) S <;> simp
theorem mX3_following_eq (N : Nat) (hN : 5000 ≤ N) {n : Nat} (hn : n ≤ 10) {s : zq_S} {mu : Nat → Nat} (hmk : zgf s (zs (zgb s 3)) 7 = nI n) (h34 : ∀ m, m < n → zA s 34 m = nI (mu m)) (hh : ∀ m, m < n → mu m < 2 ^ n) {S : Nat} (hS : S < 2 ^ 31) : mX3_following N (nI S) s = some (nI (znx mu S n), s) := by
  unfold mX3_following
  have e0 : ((0 : Int32), (0 : Int32), s) = (fun j => (nI (znx mu S j), nI j, s)) 0 := rfl
  rw [e0]
  refine zq_up n (fun j => (nI (znx mu S j), nI j, s)) (fun self => ?_) (fun self j hj => ?_) N 0 (by omega) (by omega)
  · dsimp only [bX3_following_4]
    rw [hmk, if_pos (nI_le (Nat.le_refl _) (by omega))]
  · have b1 := zp_lt hn (hh j hj)
    dsimp only [bX3_following_4, zq_let, jX3_following_j42]
    simp (disch := omega) only [hmk, nI_leI, Nat.not_le_of_lt hj, if_false, zn_bit, zck_nI, zga_nI, h34 j hj, zn_sub, nI_1, znx, zn_shl, zn_or]
    cases S.testBit j <;> cases zsb (mu j) S <;> simp
theorem mX3_refuse_eq (N : Nat) (hN : 5000 ≤ N) {n : Nat} (hn : n ≤ 10) {s : zq_S} {mu : Nat → Nat} (hmk : zgf s (zs (zgb s 3)) 7 = nI n) (h34 : ∀ m, m < n → zA s 34 m = nI (mu m)) (hh : ∀ m, m < n → mu m < 2 ^ n) (x : Int32) :
    (¬ (¬ x < 0 ∧ x ≤ nI (2 ^ n - 1)) ∧ mX3_refuse N x s = some (-1001, s)) ∨ ∃ S, S < 2 ^ n ∧ x = nI S ∧ mX3_refuse N x s = some (if zgd mu S n then 0 else -1003, s) := by
  by_cases hc : ¬ x < 0 ∧ x ≤ nI (2 ^ n - 1)
  · refine Or.inr ?_
    have hp := zn_pow hn
    have h0 : 0 < 2 ^ n := Nat.pow_pos (by decide)
    obtain ⟨S, h1, h2⟩ := nI_of2 (nI_toInt (by omega)) hc.1 hc.2
    refine ⟨S, by omega, h2, ?_⟩
    unfold mX3_refuse
    rw [mX3_hasBits_eq N hn hmk, if_pos hc, zb2_some]
    subst h2
    dsimp only [zq_let]
    rw [if_neg (by decide), mX3_isGood_eq N hN hn hmk h34 hh (by omega), zb2_some]
    dsimp only
    cases zgd mu S n <;> simp
  · refine Or.inl ⟨hc, ?_⟩
    unfold mX3_refuse
    rw [mX3_hasBits_eq N hn hmk, if_neg hc, zb2_some]
    rfl
-- the reference: behind
theorem mX12_behind_eq (N : Nat) (hN : 5000 ≤ N) {n : Nat} (hn : n ≤ 10) {s : zq_S} {mu : Nat → Nat} (hmk : zgf s 57 6 = nI n) (h65 : ∀ m, m < n → zA s 65 m = nI (mu m)) (hh : ∀ m, m < n → mu m < 2 ^ n) {k : Nat} (hk : k < 32) : mX12_behind N (nI k) s = some (nI (zbh mu k n), s) := by
  unfold mX12_behind
  have e0 : ((0 : Int32), (0 : Int32), s) = (fun j => (nI (zbh mu k j), nI j, s)) 0 := rfl
  rw [e0]
  refine zq_up n (fun j => (nI (zbh mu k j), nI j, s)) (fun self => ?_) (fun self j hj => ?_) N 0 (by omega) (by omega)
  · dsimp only [bX12_behind_4]
    rw [hmk, if_pos (nI_le (Nat.le_refl _) (by omega))]
  · have b1 := zp_lt hn (hh j hj)
    dsimp only [bX12_behind_4, zq_let]
    simp (disch := omega) only [hmk, nI_leI, Nat.not_le_of_lt hj, if_false, zck_nI, zga_nI, h65 j hj, mX12_has_eq, zb2_some, nI_1, zbh, zn_shl]
    cases (mu j).testBit k
    · simp
    · simp [zn_or]
