/-! the reference's find, whole; what its tables are -/
def zrec (n : Nat) (E : Nat → Nat → Bool) (t F : Nat → Int64) : Prop := ∀ S, S < 2 ^ n → F S = zfv n (E S) S (t S) F
theorem zsi_congr (t : Int64) {f g : Nat → Int64} (k : Nat) (h : ∀ m, m < k → f m = g m) : zsi t f k = zsi t g k := by
  induction k with
  | zero => rfl
  | succ k ih => rw [zsi, zsi, ih (fun m hm => h m (by omega)), h k (by omega)]
theorem zfv_congr {n : Nat} {E : Nat → Bool} {S : Nat} {t : Int64} {T T' : Nat → Int64} (h : ∀ m, m < n → E m = true → T (S ||| 2 ^ m) = T' (S ||| 2 ^ m)) : zfv n E S t T = zfv n E S t T' := by
  refine zsi_congr t n (fun m hm => ?_)
  cases q : E m with
  | false => rfl
  | true => simp [h m hm q]
theorem zfd_rec {n : Nat} {E : Nat → Nat → Bool} (hE : ∀ S m, E S m = true → S < S ||| 2 ^ m) (t T : Nat → Int64) : ∀ k, k ≤ 2 ^ n → ∀ S, S < 2 ^ n → 2 ^ n ≤ S + k → zfd n E t T k S = zfv n (E S) S (t S) (zfd n E t T k) := by
  intro k
  induction k with
  | zero => intro _ S h1 h2; omega
  | succ k ih =>
    intro hk S h1 h2
    by_cases e : S = 2 ^ n - 1 - k
    · rw [zfd, ← e, pk_uLs]
      exact zfv_congr (fun m _ hm => by rw [pk_uLn]; have := hE S m hm; omega)
    · rw [zfd, pk_uLn e, ih (by omega) S h1 (by omega)]
      exact zfv_congr (fun m _ hm => by rw [pk_uLn]; have := hE S m hm; omega)
theorem zed_gt {n : Nat} {mu : Nat → Nat} : ∀ S m, zed n mu S m = true → S < S ||| 2 ^ m := fun _ _ h => zor_gt (zed_lt h).2.1
theorem mfi_226 (N : Nat) (hN : 5000 ≤ N) {n : Nat} (hn : n ≤ 10) {s : zq_S} {mu : Nat → Nat} (hmk : zgf s 57 6 = nI n) (a b : Nat → Int32) (c d : Nat → Int64) (ha : ∀ S, S < 2 ^ n → a S = zib (zgd mu S n)) (hb : ∀ S, S < 2 ^ n → b S = nI (znx mu S n)) :
    zq_loop (bX12_find_226 N) N (nI (2 ^ n - 1), zM4 s a b c d) = some ((), zpf (zM4 s a b c (zfd n (zed n mu) (fun S => if S = 2 ^ n - 1 then 1 else 0) d (2 ^ n))) 57 37 1) := by
  have hp := zn_pow hn
  have h0 : 0 < 2 ^ n := Nat.pow_pos (by decide)
  have e0 : (nI (2 ^ n - 1), zM4 s a b c d) = (fun j => ((if j < 2 ^ n then nI (2 ^ n - 1 - j) else -1), zM4 s a b c (zfd n (zed n mu) (fun S => if S = 2 ^ n - 1 then 1 else 0) d j))) 0 := by
    show _ = ((if 0 < 2 ^ n then nI (2 ^ n - 1 - 0) else -1), _)
    rw [if_pos h0]
    rfl
  rw [e0]
  refine zq_up (2 ^ n) (fun j => ((if j < 2 ^ n then nI (2 ^ n - 1 - j) else -1), zM4 s a b c (zfd n (zed n mu) (fun S => if S = 2 ^ n - 1 then 1 else 0) d j))) (fun self => ?_) (fun self j hj => ?_) N 0 (by omega) (by omega)
  · dsimp only [bX12_find_226, zq_let]
    rw [if_neg (Nat.lt_irrefl (2 ^ n)), if_pos (show (-1 : Int32) < 0 by decide)]
  · dsimp only [bX12_find_226, zq_let, jX12_find_j310]
    rw [if_pos hj, if_neg (nI_pos (by omega)), mX12_all_eq N (by rw [zM4_f]; exact hmk) hn, zb2_some]
    dsimp only
    have e1 : (if nI (2 ^ n - 1 - j) = nI (2 ^ n - 1) then (1 : Int64) else 0) = if 2 ^ n - 1 - j = 2 ^ n - 1 then 1 else 0 := by
      by_cases q : 2 ^ n - 1 - j = 2 ^ n - 1
      · rw [if_pos q, q, if_pos rfl]
      · rw [if_neg q, if_neg (fun z => q ((nI_eq (by omega) (by omega)).mp z))]
    have e2 : nI (2 ^ n - 1 - j) + -1 = if j + 1 < 2 ^ n then nI (2 ^ n - 1 - (j + 1)) else -1 := by
      by_cases q : j + 1 < 2 ^ n
      · rw [if_pos q, show 2 ^ n - 1 - j = (2 ^ n - 1 - (j + 1)) + 1 by omega, pk_m1]
      · rw [if_neg q, show 2 ^ n - 1 - j = 0 by omega]; rfl
    simp (disch := omega) only [zck_nI, zpl_nI, zM4_81, zM4_s81, e1]
    rw [mfi_251 N hN hn _ hmk (by omega) _ _ _ _ _ (ha _ (by omega)) (hb _ (by omega)), e2]
    rfl
/-- the tables of find hold for the closure mu -/
def zFD (s : zq_S) (n : Nat) (mu : Nat → Nat) : Prop :=
  (∀ S, S < 2 ^ n → zA s 78 S = zib (zgd mu S n)) ∧ (∀ S, S < 2 ^ n → zA s 79 S = nI (znx mu S n)) ∧
  (∃ c : Nat → Int64, (∀ S, S < 2 ^ n → c S = if S = 0 then 1 else 0) ∧ zL s 80 = zto n (zed n mu) c (2 ^ n)) ∧
  zrec n (zed n mu) (fun S => if S = 2 ^ n - 1 then 1 else 0) (zL s 81)
theorem mX12_find_eq (N : Nat) (hN : 5000 ≤ N) {n : Nat} (hn : n ≤ 10) {s : zq_S} {mu : Nat → Nat} (hmk : zgf s 57 6 = nI n) (h65 : ∀ m, m < n → zA s 65 m = nI (mu m)) (hh : ∀ m, m < n → mu m < 2 ^ n) (hc : zgf s 57 37 = 0 ∨ (zgf s 57 37 = 1 ∧ zFD s n mu)) :
    ∃ (a b : Nat → Int32) (c d : Nat → Int64), mX12_find N s = some ((), zpf (zM4 s a b c d) 57 37 1) ∧ zFD (zpf (zM4 s a b c d) 57 37 1) n mu := by
  rcases hc with hc | ⟨hc, hF⟩
  · unfold mX12_find
    rw [if_pos hc]
    have e1 : zq_loop (bX12_find_10 N (fun e18 => zq_loop (bX12_find_150 N (fun e27 => zq_b2 (mX12_all N e27) (fun r28 s29 => zq_loop (bX12_find_226 N) N (r28, s29)))) N ((0 : Int32), e18))) N ((0 : Int32), s) = zq_loop (bX12_find_10 N (fun e18 => zq_loop (bX12_find_150 N (fun e27 => zq_b2 (mX12_all N e27) (fun r28 s29 => zq_loop (bX12_find_226 N) N (r28, s29)))) N ((0 : Int32), e18))) N ((0 : Int32), zM4 s (zA s 78) (zA s 79) (zL s 80) (zL s 81)) := by rw [zM4_id]
    rw [e1, mfi_10 N hN hn _ hmk h65 hh]
    have ha : ∀ S, S < 2 ^ n → zup (2 ^ n) (fun S => zib (zgd mu S n)) (zA s 78) S = zib (zgd mu S n) := fun S hS => zup_get _ _ hS
    have hb : ∀ S, S < 2 ^ n → zup (2 ^ n) (fun S => nI (znx mu S n)) (zA s 79) S = nI (znx mu S n) := fun S hS => zup_get _ _ hS
    rw [mfi_150 N hN hn _ hmk _ _ _ _ ha hb, mX12_all_eq N (by rw [zM4_f]; exact hmk) hn, zb2_some]
    dsimp only
    rw [mfi_226 N hN hn hmk _ _ _ _ ha hb]
    refine ⟨_, _, _, _, rfl, ha, hb, ⟨_, fun S hS => zup_get _ _ hS, rfl⟩, ?_⟩
    intro S hS
    exact zfd_rec zed_gt _ _ (2 ^ n) (Nat.le_refl _) S hS (by omega)
  · refine ⟨zA s 78, zA s 79, zL s 80, zL s 81, ?_, ?_⟩
    · unfold mX12_find
      rw [if_neg (by rw [hc]; decide), zM4_id, ← hc, zpf_same]
    · rw [zM4_id, ← hc, zpf_same]
      exact hF
/-- two tables that follow the same rule agree on the good sets -/
def zrecG (n : Nat) (mu : Nat → Nat) (t F : Nat → Int64) : Prop := ∀ S, S < 2 ^ n → zgd mu S n = true → F S = zfv n (zed n mu S) S (t S) F
theorem zsb_mono {a S T : Nat} (h : zsb a S = true) (hST : ∀ i, S.testBit i = true → T.testBit i = true) : zsb a T = true := by
  unfold zsb at *
  rw [beq_iff_eq] at *
  apply Nat.eq_of_testBit_eq
  intro i
  have h1 : (a &&& S).testBit i = a.testBit i := by rw [h]
  rw [Nat.testBit_and] at h1 ⊢
  cases q : a.testBit i with
  | false => rfl
  | true => rw [q] at h1; simp at h1; simp [hST i h1]
theorem zgd_next {n : Nat} {mu : Nat → Nat} {S m : Nat} (h : zed n mu S m = true) : zgd mu (S ||| 2 ^ m) n = true := by
  have hg : zgd mu S n = true := by unfold zed at h; exact (Bool.and_eq_true _ _ ▸ h).1
  obtain ⟨h1, h2, h3⟩ := zed_lt h
  rw [zgd_iff] at hg ⊢
  intro q hq hb
  have hm : ∀ i, S.testBit i = true → (S ||| 2 ^ m).testBit i = true := fun i hi => by rw [Nat.testBit_or, hi, Bool.true_or]
  by_cases e : q = m
  · subst e; exact zsb_mono h3 hm
  · rw [Nat.testBit_or, Nat.testBit_two_pow_of_ne (Ne.symm e), Bool.or_false] at hb
    exact zsb_mono (hg q hq hb) hm
theorem zrecG_uniq {n : Nat} {mu : Nat → Nat} {t F G : Nat → Int64} (hF : zrecG n mu t F) (hG : zrecG n mu t G) : ∀ S, S < 2 ^ n → zgd mu S n = true → F S = G S := by
  have key : ∀ d S, S < 2 ^ n → 2 ^ n - S ≤ d → zgd mu S n = true → F S = G S := by
    intro d
    induction d with
    | zero => intro S h1 h2; omega
    | succ d ih =>
      intro S h1 h2 hg
      rw [hF S h1 hg, hG S h1 hg]
      refine zfv_congr (fun m hm he => ?_)
      have h3 := zed_gt S m he
      exact ih _ (zor_lt h1 hm) (by omega) (zgd_next he)
  exact fun S h1 hg => key (2 ^ n) S h1 (by omega) hg
theorem zgd_zero (mu : Nat → Nat) (n : Nat) : zgd mu 0 n = true := by
  rw [zgd_iff]
  intro m _ h
  rw [Nat.zero_testBit] at h
  cases h
theorem zgd_full {n : Nat} {mu : Nat → Nat} (hh : ∀ m, m < n → mu m < 2 ^ n) : zgd mu (2 ^ n - 1) n = true := by
  rw [zgd_iff]
  intro m hm _
  unfold zsb
  rw [Nat.and_two_pow_sub_one_eq_mod, Nat.mod_eq_of_lt (hh m hm)]
  exact beq_self_eq_true _
