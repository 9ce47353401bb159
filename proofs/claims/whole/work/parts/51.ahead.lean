/-! in how many orders one mark is ahead of another: a sum over cuts, and a count with a bar -/
theorem zsi_point (t : Int64) (f : Nat → Int64) (p : Nat) (x : Int64) : ∀ k, p < k → zsi t (fun i => if i = p then f i + x else f i) k = zsi t f k + x := by
  intro k
  induction k with
  | zero => intro h; omega
  | succ k ih =>
    intro h
    rw [zsi, zsi]
    by_cases e : k = p
    · have : zsi t (fun i => if i = p then f i + x else f i) k = zsi t f k := zsi_congr t k (fun m hm => if_neg (by omega))
      rw [this, if_pos e, Int64.add_assoc]
    · rw [ih (by omega), if_neg e, Int64.add_assoc, Int64.add_assoc, Int64.add_comm x]
theorem zsi_zero (f : Nat → Int64) (k : Nat) (h : ∀ m, m < k → f m = 0) : zsi 0 f k = 0 := by
  induction k with
  | zero => rfl
  | succ k ih => rw [zsi, ih (fun m hm => h m (by omega)), h k (by omega)]; rfl
theorem zsi_mul (c : Int64) (f : Nat → Int64) (k : Nat) : zsi 0 (fun m => c * f m) k = c * zsi 0 f k := by
  induction k with
  | zero => simp [zsi]
  | succ k ih => rw [zsi, zsi, ih, Int64.mul_add]
/-- what is still on its way: the sets from k on that lack b, each with its ways so far and its ways on -/
def zRm (n b k : Nat) (T G : Nat → Int64) : Int64 := zsi 0 (fun S => if S < k then 0 else if S.testBit b then 0 else T S * G S) (2 ^ n)
theorem zRm_s {n b k : Nat} (hk : k < 2 ^ n) (T G : Nat → Int64) : zRm n b k T G = zRm n b (k + 1) T G + (if k.testBit b then 0 else T k * G k) := by
  unfold zRm
  rw [← zsi_point 0 _ k _ (2 ^ n) hk]
  refine zsi_congr 0 _ (fun S _ => ?_)
  by_cases e : S = k
  · subst e
    rw [if_pos rfl, if_neg (Nat.lt_irrefl _), if_pos (Nat.lt_succ_self _)]
    simp
  · rw [if_neg e]
    by_cases e2 : S < k
    · rw [if_pos e2, if_pos (by omega)]
    · rw [if_neg e2, if_neg (show ¬ S < k + 1 by omega)]
theorem zpu_low {E : Nat → Bool} {k : Nat} (hE : ∀ m, E m = true → k < k ||| 2 ^ m) (T : Nat → Int64) {S : Nat} (hS : S ≤ k) : ∀ m, zpu E k T m S = T S := by
  intro m
  induction m with
  | zero => rfl
  | succ m ih =>
    rw [zpu]
    cases q : E m with
    | false => simpa using ih
    | true =>
      have := hE m q
      simp only [if_true]
      rw [pk_uLn (by omega), ih]
theorem zRm_pu {n b k : Nat} {E : Nat → Bool} (hk : k < 2 ^ n) (hE : ∀ m, E m = true → k < k ||| 2 ^ m ∧ k ||| 2 ^ m < 2 ^ n) (T G : Nat → Int64) : ∀ m, zRm n b (k + 1) (zpu E k T m) G = zRm n b (k + 1) T G + zsi 0 (fun j => if E j then (if (k ||| 2 ^ j).testBit b then 0 else T k * G (k ||| 2 ^ j)) else 0) m := by
  intro m
  induction m with
  | zero => simp [zsi, zpu]
  | succ m ih =>
    rw [zsi, ← Int64.add_assoc, ← ih, zpu]
    cases q : E m with
    | false => simp
    | true =>
      obtain ⟨h1, h2⟩ := hE m q
      simp only [if_true]
      unfold zRm
      rw [← zsi_point 0 _ (k ||| 2 ^ m) _ (2 ^ n) h2]
      refine zsi_congr 0 _ (fun S _ => ?_)
      by_cases e : S = k ||| 2 ^ m
      · rw [if_pos e, e, if_neg (show ¬ k ||| 2 ^ m < k + 1 by omega), pk_uLs, if_neg (show ¬ k ||| 2 ^ m < k + 1 by omega), zpu_low (fun m hm => (hE m hm).1) T (Nat.le_refl _)]
        split
        · simp
        · rw [Int64.add_mul]
      · rw [if_neg e, pk_uLn e]
section zAh
variable {n : Nat} {mu : Nat → Nat} {a b : Nat} {c0 F G : Nat → Int64}
/-- the sets that the class lets pass -/
def zba (a b : Nat) (S : Nat) : Int64 := if S.testBit b then (if S.testBit a then 1 else 0) else 1
theorem zto_low (T : Nat → Int64) {S : Nat} : ∀ d, zto n (zed n mu) T (S + d) S = zto n (zed n mu) T S S := by
  intro d
  induction d with
  | zero => rfl
  | succ d ih =>
    rw [show S + (d + 1) = (S + d) + 1 by omega, zto, zpu_low (fun m hm => zed_gt _ m hm) _ (by omega), ih]
theorem zpu_bad {E : Nat → Bool} {k : Nat} {T : Nat → Int64} {S : Nat} (h : ∀ m, E m = true → S ≠ k ||| 2 ^ m) : ∀ m, zpu E k T m S = T S := by
  intro m
  induction m with
  | zero => rfl
  | succ m ih =>
    rw [zpu]
    cases q : E m with
    | false => simpa using ih
    | true => simp only [if_true]; rw [pk_uLn (h m q), ih]
theorem zto_bad (hc0 : ∀ S, S < 2 ^ n → c0 S = if S = 0 then 1 else 0) {S : Nat} (hS : S < 2 ^ n) (hg : zgd mu S n = false) : ∀ k, zto n (zed n mu) c0 k S = 0 := by
  intro k
  induction k with
  | zero =>
    rw [zto, hc0 S hS, if_neg]
    intro e
    rw [e, zgd_zero] at hg
    cases hg
  | succ k ih =>
    rw [zto, zpu_bad (fun m hm e => by rw [e, zgd_next hm] at hg; cases hg), ih]
/-- with both marks made, the class's table is the table of all ways -/
theorem zah_both (hF : zrecG n mu (fun S => if S = 2 ^ n - 1 then 1 else 0) F) (hG : ∀ S, S < 2 ^ n → zgd mu S n = true → zcR n mu (zba a b) G S) : ∀ d S, S < 2 ^ n → 2 ^ n - S ≤ d → zgd mu S n = true → S.testBit a = true → S.testBit b = true → G S = F S := by
  intro d
  induction d with
  | zero => intro S h1 h2; omega
  | succ d ih =>
    intro S h1 h2 hg ha hb
    have h3 := hG S h1 hg
    unfold zcR zba at h3
    simp only [ha, hb, if_true] at h3
    rw [if_neg (show ¬ (1 : Int64) = 0 by decide)] at h3
    rw [h3, hF S h1 hg]
    dsimp only
    by_cases e : S = 2 ^ n - 1
    · rw [if_pos e, if_pos e]
      subst e
      rw [zfv_full]
    · rw [if_neg e, if_neg e]
      refine zfv_congr (fun m hm he => ?_)
      have h4 := zed_gt S m he
      exact ih _ (zor_lt h1 hm) (by omega) (zgd_next he) (by rw [Nat.testBit_or, ha, Bool.true_or]) (by rw [Nat.testBit_or, hb, Bool.true_or])
def zAt (n : Nat) (mu : Nat → Nat) (a b : Nat) (T F : Nat → Int64) (S : Nat) : Int64 := if zgd mu S n && (S.testBit a && (znx mu S n).testBit b) then T S * F (S ||| 2 ^ b) else 0
theorem zah_step (hab : a ≠ b) (hb : b < n) (hc0 : ∀ S, S < 2 ^ n → c0 S = if S = 0 then 1 else 0) (hF : zrecG n mu (fun S => if S = 2 ^ n - 1 then 1 else 0) F) (hG : ∀ S, S < 2 ^ n → zgd mu S n = true → zcR n mu (zba a b) G S) {k : Nat} (hk : k < 2 ^ n) :
    zRm n b (k + 1) (zto n (zed n mu) c0 (k + 1)) G + zAt n mu a b (fun S => zto n (zed n mu) c0 S S) F k = zRm n b k (zto n (zed n mu) c0 k) G := by
  rw [zto, zRm_pu hk (fun m hm => ⟨zed_gt _ m hm, zor_lt hk (zed_lt hm).1⟩), zRm_s hk, Int64.add_assoc]
  congr 1
  generalize hT : zto n (zed n mu) c0 k k = t
  unfold zAt
  dsimp only
  rw [hT]
  cases hg : zgd mu k n with
  | false =>
    have hz : ∀ m, zed n mu k m = false := fun m => by rw [zed, hg, Bool.false_and]
    have ht : t = 0 := by rw [← hT]; exact zto_bad hc0 hk hg k
    rw [zsi_zero _ _ (fun m _ => by rw [hz]; rfl), ht]
    simp
  | true =>
    have hx : ∀ m, (znx mu k n).testBit m = zed n mu k m := fun m => by rw [zed, hg, Bool.true_and]
    rw [hx]
    cases hkb : k.testBit b with
    | true =>
      have hz : zed n mu k b = false := by
        cases q : zed n mu k b with
        | false => rfl
        | true => rw [(zed_lt q).2.1] at hkb; cases hkb
      rw [zsi_zero _ _ (fun m _ => by rw [Nat.testBit_or, hkb, Bool.true_or]; simp), hz]
      simp
    | false =>
      have h3 := hG k hk hg
      unfold zcR zba at h3
      have hnf : k ≠ 2 ^ n - 1 := fun e => by rw [e, zfull_bit hb] at hkb; cases hkb
      simp only [hkb, Bool.false_eq_true, if_false] at h3
      rw [if_neg (show ¬ (1 : Int64) = 0 by decide), if_neg hnf] at h3
      simp only [Bool.false_eq_true, if_false]
      rw [h3]
      unfold zfv
      rw [← zsi_mul]
      -- the term of b on the left is A, on the right G
      have hGb : zed n mu k b = true → G (k ||| 2 ^ b) = if k.testBit a then F (k ||| 2 ^ b) else 0 := by
        intro hz
        have hl := zor_lt hk hb
        have hgb := zgd_next hz
        have hbb : (k ||| 2 ^ b).testBit b = true := by rw [Nat.testBit_or, Nat.testBit_two_pow_self, Bool.or_true]
        have haa : (k ||| 2 ^ b).testBit a = k.testBit a := by rw [Nat.testBit_or, Nat.testBit_two_pow_of_ne (Ne.symm hab), Bool.or_false]
        cases hka : k.testBit a with
        | true => simp only [if_true]; exact zah_both hF hG _ _ hl (Nat.le_refl _) hgb (haa.trans hka) hbb
        | false =>
          have h4 := hG _ hl hgb
          unfold zcR zba at h4
          rw [hbb, haa, hka] at h4
          simpa using h4
      have e1 : (fun m => t * (if zed n mu k m then G (k ||| 2 ^ m) else 0)) = fun m => if m = b then (if zed n mu k m then (if (k ||| 2 ^ m).testBit b then 0 else t * G (k ||| 2 ^ m)) else 0) + (if (true && (k.testBit a && zed n mu k b)) = true then t * F (k ||| 2 ^ b) else 0) else (if zed n mu k m then (if (k ||| 2 ^ m).testBit b then 0 else t * G (k ||| 2 ^ m)) else 0) := by
        funext m
        by_cases e : m = b
        · subst e
          rw [if_pos rfl]
          cases hz : zed n mu k m with
          | false => simp
          | true =>
            rw [hGb hz]
            have hbb : (k ||| 2 ^ m).testBit m = true := by rw [Nat.testBit_or, Nat.testBit_two_pow_self, Bool.or_true]
            rw [hbb]
            cases k.testBit a <;> simp
        · rw [if_neg e]
          have hbb : (k ||| 2 ^ m).testBit b = false := by rw [Nat.testBit_or, Nat.testBit_two_pow_of_ne e, hkb]; rfl
          rw [hbb]
          cases zed n mu k m <;> simp
      rw [e1, zsi_point 0 _ b _ n hb]
theorem zah_sum (hab : a ≠ b) (hb : b < n) (hc0 : ∀ S, S < 2 ^ n → c0 S = if S = 0 then 1 else 0) (hF : zrecG n mu (fun S => if S = 2 ^ n - 1 then 1 else 0) F) (hG : ∀ S, S < 2 ^ n → zgd mu S n = true → zcR n mu (zba a b) G S) :
    zsi 0 (zAt n mu a b (zto n (zed n mu) c0 (2 ^ n)) F) (2 ^ n) = G 0 := by
  have h0 : 0 < 2 ^ n := Nat.pow_pos (by decide)
  have key : ∀ k, k ≤ 2 ^ n → zsi 0 (zAt n mu a b (fun S => zto n (zed n mu) c0 S S) F) k + zRm n b k (zto n (zed n mu) c0 k) G = zRm n b 0 c0 G := by
    intro k
    induction k with
    | zero => intro _; simp [zsi, zto]
    | succ k ih =>
      intro hk
      rw [← ih (by omega), ← zah_step hab hb hc0 hF hG (show k < 2 ^ n by omega), zsi, Int64.add_assoc]
      congr 1
      exact Int64.add_comm _ _
  have h1 := key (2 ^ n) (Nat.le_refl _)
  have h2 : zRm n b (2 ^ n) (zto n (zed n mu) c0 (2 ^ n)) G = 0 := zsi_zero _ _ (fun m hm => if_pos hm)
  have h3 : zRm n b 0 c0 G = G 0 := by
    rw [zRm_s h0]
    have : zRm n b (0 + 1) c0 G = 0 := zsi_zero _ _ (fun S hS => by
      by_cases e : S < 0 + 1
      · rw [if_pos e]
      · rw [if_neg e, hc0 S hS, if_neg (show ¬ S = 0 by omega)]
        split
        · rfl
        · exact Int64.zero_mul)
    rw [this, hc0 0 h0, Nat.zero_testBit]
    simp
  rw [h2, h3] at h1
  rw [← h1, Int64.add_zero]
  refine zsi_congr 0 _ (fun S hS => ?_)
  have := zto_low (n := n) (mu := mu) c0 (S := S) (2 ^ n - S)
  rw [show S + (2 ^ n - S) = 2 ^ n by omega] at this
  unfold zAt
  rw [this]
end zAh
