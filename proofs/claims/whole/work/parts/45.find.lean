/-! the reference's find: good sets, next marks, ways to and from each set -/
def zM4 (s : zq_S) (a b : Nat → Int32) (c d : Nat → Int64) : zq_S := zsL (zsL (zsA (zsA s 78 a) 79 b) 80 c) 81 d
section zM4s
variable (s : zq_S) (a b a' : Nat → Int32) (c d c' : Nat → Int64)
theorem zM4_f (k j : Nat) : zgf (zM4 s a b c d) k j = zgf s k j := rfl
theorem zM4_b (i : Nat) : zgb (zM4 s a b c d) i = zgb s i := rfl
theorem zM4_78 : zA (zM4 s a b c d) 78 = a := rfl
theorem zM4_79 : zA (zM4 s a b c d) 79 = b := rfl
theorem zM4_80 : zL (zM4 s a b c d) 80 = c := rfl
theorem zM4_81 : zL (zM4 s a b c d) 81 = d := rfl
theorem zM4_A {k : Nat} (h : k ≠ 78) (h2 : k ≠ 79) : zA (zM4 s a b c d) k = zA s k := by
  show zA (zsA (zsA s 78 a) 79 b) k = _
  rw [zA_ne _ h2, zA_ne _ h]
theorem zM4_s78 : zsA (zM4 s a b c d) 78 a' = zM4 s a' b c d := by
  refine zs_ext (fun _ _ => rfl) (fun _ => rfl) (fun k => ?_) (fun _ => rfl)
  simp only [zM4, zA_sA, zA_sL]
  by_cases q : k = 78
  · simp [q]
  · simp [q]
theorem zM4_s79 : zsA (zM4 s a b c d) 79 a' = zM4 s a a' c d := by
  refine zs_ext (fun _ _ => rfl) (fun _ => rfl) (fun k => ?_) (fun _ => rfl)
  simp only [zM4, zA_sA, zA_sL]
  by_cases q : k = 79
  · simp [q]
  · simp [q]
theorem zM4_s80 : zsL (zM4 s a b c d) 80 c' = zM4 s a b c' d := by
  refine zs_ext (fun _ _ => rfl) (fun _ => rfl) (fun _ => rfl) (fun k => ?_)
  simp only [zM4, zL_sL, zL_sA]
  by_cases q : k = 80
  · simp [q]
  · simp [q]
theorem zM4_s81 : zsL (zM4 s a b c d) 81 c' = zM4 s a b c c' := by
  refine zs_ext (fun _ _ => rfl) (fun _ => rfl) (fun _ => rfl) (fun k => ?_)
  simp only [zM4, zL_sL, zL_sA]
  by_cases q : k = 81
  · simp [q]
  · simp [q]
theorem zM4_id : zM4 s (zA s 78) (zA s 79) (zL s 80) (zL s 81) = s := by
  refine zs_ext (fun _ _ => rfl) (fun _ => rfl) (fun k => ?_) (fun k => ?_)
  · simp only [zM4, zA_sA, zA_sL]
    by_cases q : k = 79
    · simp [q]
    · by_cases q2 : k = 78
      · simp [q2]
      · simp [q, q2]
  · simp only [zM4, zL_sL, zL_sA]
    by_cases q : k = 81
    · simp [q]
    · by_cases q2 : k = 80
      · simp [q2]
      · simp [q, q2]
end zM4s
/-- rows filled up to k -/
def zup {α : Type} (k : Nat) (f o : Nat → α) : Nat → α := fun q => if q < k then f q else o q
theorem zup_0 {α : Type} (f o : Nat → α) : zup 0 f o = o := by funext q; unfold zup; simp
theorem zup_s (k : Nat) (f o : Nat → Int32) : upd (zup k f o) k (f k) = zup (k + 1) f o := by
  funext q
  unfold upd zup
  by_cases e : q = k
  · simp [e]
  · by_cases e2 : q < k
    · simp [e, e2, show q < k + 1 by omega]
    · simp [e, e2, show ¬ q < k + 1 by omega]
theorem zup_sL (k : Nat) (f o : Nat → Int64) : vp_updL (zup k f o) k (f k) = zup (k + 1) f o := by
  funext q
  unfold vp_updL zup
  by_cases e : q = k
  · simp [e]
  · by_cases e2 : q < k
    · simp [e, e2, show q < k + 1 by omega]
    · simp [e, e2, show ¬ q < k + 1 by omega]
theorem zup_get {α : Type} {k q : Nat} (f o : Nat → α) (h : q < k) : zup k f o q = f q := by unfold zup; rw [if_pos h]
theorem znar_if (c : Prop) [Decidable c] : vp_nar .boolean (if c then (1 : Int32) else 0) = if c then 1 else 0 := by split <;> rfl
theorem zb1 : vp_nar .boolean (1 : Int32) = 1 := rfl
theorem zb0 : vp_nar .boolean (0 : Int32) = 0 := rfl
theorem zn_or0 (a : Nat) : nI a ||| 0 = nI a := by rw [show (0 : Int32) = nI 0 from rfl, zn_or, Nat.or_zero]
def zib (b : Bool) : Int32 := if b then 1 else 0
theorem mfi_49 (N : Nat) (hN : 5000 ≤ N) {n : Nat} (hn : n ≤ 10) (k142 : zq_S → Option (Unit × zq_S)) {s : zq_S} {mu : Nat → Nat} (hmk : zgf s 57 6 = nI n) (h65 : ∀ m, m < n → zA s 65 m = nI (mu m)) (hh : ∀ m, m < n → mu m < 2 ^ n) {S : Nat} (hS : S < 1024) (a b : Nat → Int32) (c d : Nat → Int64) (ha : a S = 1) (hb : b S = 0) :
    zq_loop (bX12_find_49 N (nI S) k142) N (0, zM4 s a b c d) = k142 (zM4 s (upd a S (zib (zgd mu S n))) (upd b S (nI (znx mu S n))) c d) := by
  have e0 : (0, zM4 s a b c d) = (fun j => (nI j, zM4 s (upd a S (zib (zgd mu S j))) (upd b S (nI (znx mu S j))) c d)) 0 := by
    show _ = (nI 0, zM4 s (upd a S 1) (upd b S (nI 0)) c d)
    rw [zupd_self a S 1 ha, zupd_self b S (nI 0) hb]
    rfl
  rw [e0]
  refine zq_up n (fun j => (nI j, zM4 s (upd a S (zib (zgd mu S j))) (upd b S (nI (znx mu S j))) c d)) (fun self => ?_) (fun self j hj => ?_) N 0 (by omega) (by omega)
  · dsimp only [bX12_find_49]
    rw [zM4_f, hmk, if_pos (nI_le (Nat.le_refl _) (by omega))]
  · have b1 := zp_lt hn (hh j hj)
    dsimp only [bX12_find_49, zq_let, jX12_find_j106, jX12_find_j102, jX12_find_j107]
    simp (disch := omega) only [zM4_f, hmk, nI_leI, Nat.not_le_of_lt hj, if_false, zck_nI, zga_nI, zM4_A, zM4_78, zM4_79, pk_us, h65 j hj, zn_sub, mX12_has_eq, zb2_some, zpaz_nI, zM4_s78, zupd_upd, zb1, zb0, zpa_nI, zM4_s79, zn_shl, nI_1]
    show _ = self (nI (j + 1), zM4 s (upd a S (zib (zgd mu S j && (!S.testBit j || zsb (mu j) S)))) (upd b S (nI (znx mu S j ||| (if !S.testBit j && zsb (mu j) S then 2 ^ j else 0)))) c d)
    cases zgd mu S j <;> cases S.testBit j <;> cases zsb (mu j) S <;> simp [zib, zn_or, zn_or0]
theorem zlt_pow {n S : Nat} (hn : n ≤ 10) (h : S < 2 ^ n) : S < 1024 := Nat.lt_of_lt_of_le h (zn_pow hn)
theorem mfi_10 (N : Nat) (hN : 5000 ≤ N) {n : Nat} (hn : n ≤ 10) (k148 : zq_S → Option (Unit × zq_S)) {s : zq_S} {mu : Nat → Nat} (hmk : zgf s 57 6 = nI n) (h65 : ∀ m, m < n → zA s 65 m = nI (mu m)) (hh : ∀ m, m < n → mu m < 2 ^ n) (a b : Nat → Int32) (c d : Nat → Int64) :
    zq_loop (bX12_find_10 N k148) N (0, zM4 s a b c d) = k148 (zM4 s (zup (2 ^ n) (fun S => zib (zgd mu S n)) a) (zup (2 ^ n) (fun S => nI (znx mu S n)) b) (zup (2 ^ n) (fun S => if S = 0 then 1 else 0) c) d) := by
  have hp := zn_pow hn
  have h0 : 0 < 2 ^ n := Nat.pow_pos (by decide)
  have e0 : (0, zM4 s a b c d) = (fun j => (nI j, zM4 s (zup j (fun S => zib (zgd mu S n)) a) (zup j (fun S => nI (znx mu S n)) b) (zup j (fun S => if S = 0 then 1 else 0) c) d)) 0 := by
    show _ = (nI 0, _)
    rw [zup_0, zup_0, zup_0]
    rfl
  rw [e0]
  refine zq_up (2 ^ n) (fun j => (nI j, zM4 s (zup j (fun S => zib (zgd mu S n)) a) (zup j (fun S => nI (znx mu S n)) b) (zup j (fun S => if S = 0 then 1 else 0) c) d)) (fun self => ?_) (fun self j hj => ?_) N 0 (by omega) (by omega)
  · dsimp only [bX12_find_10]
    rw [mX12_all_eq N (by rw [zM4_f]; exact hmk) hn, zb2_some]
    dsimp only
    rw [if_pos (nI_lt (by omega) (by omega))]
  · dsimp only [bX12_find_10, zq_let]
    rw [mX12_all_eq N (by rw [zM4_f]; exact hmk) hn, zb2_some]
    dsimp only
    have e1 : (if nI j = 0 then (1 : Int64) else 0) = if j = 0 then 1 else 0 := by
      by_cases q : j = 0
      · simp [q]; rfl
      · rw [if_neg q, if_neg (nI_ne0 (by omega) (by omega))]
    simp (disch := omega) only [nI_ltI, show ¬ 2 ^ n - 1 < j by omega, if_false, zck_nI, zpaz_nI, zM4_78, zM4_s78, zb1, zpa_nI, zM4_79, zM4_s79, zpl_nI, zM4_80, zM4_s80, e1]
    rw [mfi_49 N hN hn _ hmk h65 hh (by omega) _ _ _ _ pk_us pk_us, zupd_upd, zupd_upd, zup_s j (fun S => zib (zgd mu S n)), zup_s j (fun S => nI (znx mu S n)), zup_sL j (fun S => if S = 0 then 1 else 0), nI_1]
/-- may mark m come behind S -/
def zed (n : Nat) (mu : Nat → Nat) (S m : Nat) : Bool := zgd mu S n && (znx mu S n).testBit m
theorem zed_lt {n : Nat} {mu : Nat → Nat} {S m : Nat} (h : zed n mu S m = true) : m < n ∧ S.testBit m = false ∧ zsb (mu m) S = true := by
  unfold zed at h
  rw [znx_bit] at h
  simp only [Bool.and_eq_true, decide_eq_true_eq, Bool.not_eq_true'] at h
  exact ⟨h.2.1, h.2.2.1, h.2.2.2⟩
theorem zor_gt {S m : Nat} (h : S.testBit m = false) : S < S ||| 2 ^ m := by
  have h1 : S ≤ S ||| 2 ^ m := Nat.left_le_or
  have h2 : S ≠ S ||| 2 ^ m := by
    intro q
    have : (S ||| 2 ^ m).testBit m = true := by rw [Nat.testBit_or, Nat.testBit_two_pow_self, Bool.or_true]
    rw [← q, h] at this
    cases this
  omega
theorem zor_lt {n S m : Nat} (hS : S < 2 ^ n) (hm : m < n) : S ||| 2 ^ m < 2 ^ n := Nat.or_lt_two_pow hS (Nat.pow_lt_pow_right (by decide) hm)
/-- one set's ways handed on to those with a mark more, marks below m -/
def zpu (E : Nat → Bool) (S : Nat) (T : Nat → Int64) : Nat → (Nat → Int64)
  | 0 => T
  | m + 1 => if E m then vp_updL (zpu E S T m) (S ||| 2 ^ m) (zpu E S T m (S ||| 2 ^ m) + zpu E S T m S) else zpu E S T m
/-- after the sets below k -/
def zto (n : Nat) (E : Nat → Nat → Bool) (T : Nat → Int64) : Nat → (Nat → Int64)
  | 0 => T
  | k + 1 => zpu (E k) k (zto n E T k) n
theorem mfi_160 (N : Nat) (hN : 5000 ≤ N) {n : Nat} (hn : n ≤ 10) (k215 : zq_S → Option (Unit × zq_S)) {s : zq_S} {mu : Nat → Nat} (hmk : zgf s 57 6 = nI n) {S : Nat} (hS : S < 2 ^ n) (a b : Nat → Int32) (c d : Nat → Int64) (ha : a S = zib (zgd mu S n)) (hb : b S = nI (znx mu S n)) :
    zq_loop (bX12_find_160 N (nI S) k215) N (0, zM4 s a b c d) = k215 (zM4 s a b (zpu (zed n mu S) S c n) d) := by
  have hp := zn_pow hn
  have hx := znx_lt (n := n) mu S n (Nat.le_refl _)
  cases hg : zgd mu S n with
  | false =>
    obtain ⟨M, rfl⟩ : ∃ M', N = M' + 1 := ⟨N - 1, by omega⟩
    rw [zq_loop_s]
    have e1 : ∀ m, zpu (zed n mu S) S c m = c := by
      intro m
      induction m with
      | zero => rfl
      | succ m ih => rw [zpu, ih, zed, hg, Bool.false_and]; rfl
    rw [e1]
    dsimp only [bX12_find_160]
    simp (disch := omega) only [zM4_f, hmk, zck_nI, zga_nI, zM4_78, ha, hg, zib]
    simp
  | true =>
    have e0 : (0, zM4 s a b c d) = (fun j => (nI j, zM4 s a b (zpu (zed n mu S) S c j) d)) 0 := rfl
    rw [e0]
    refine zq_up n (fun j => (nI j, zM4 s a b (zpu (zed n mu S) S c j) d)) (fun self => ?_) (fun self j hj => ?_) N 0 (by omega) (by omega)
    · dsimp only [bX12_find_160]
      rw [zM4_f, hmk, if_pos (nI_le (Nat.le_refl _) (by omega))]
    · have hl := zor_lt hS hj
      have hq : (znx mu S n).testBit j = zed n mu S j := by rw [zed, hg, Bool.true_and]
      dsimp only [bX12_find_160, zq_let, jX12_find_j209]
      simp (disch := omega) only [zM4_f, hmk, nI_leI, Nat.not_le_of_lt hj, if_false, zck_nI, zga_nI, zM4_78, zM4_79, ha, hb, hg, zib, mX12_has_eq, zb2_some, zn_shl, zn_or, zgl_nI, zM4_80, zpl_nI, zM4_s80, nI_1, hq, zpu]
      cases zed n mu S j <;> simp
theorem mfi_150 (N : Nat) (hN : 5000 ≤ N) {n : Nat} (hn : n ≤ 10) (k221 : zq_S → Option (Unit × zq_S)) {s : zq_S} {mu : Nat → Nat} (hmk : zgf s 57 6 = nI n) (a b : Nat → Int32) (c d : Nat → Int64) (ha : ∀ S, S < 2 ^ n → a S = zib (zgd mu S n)) (hb : ∀ S, S < 2 ^ n → b S = nI (znx mu S n)) :
    zq_loop (bX12_find_150 N k221) N (0, zM4 s a b c d) = k221 (zM4 s a b (zto n (zed n mu) c (2 ^ n)) d) := by
  have hp := zn_pow hn
  have h0 : 0 < 2 ^ n := Nat.pow_pos (by decide)
  have e0 : (0, zM4 s a b c d) = (fun j => (nI j, zM4 s a b (zto n (zed n mu) c j) d)) 0 := rfl
  rw [e0]
  refine zq_up (2 ^ n) (fun j => (nI j, zM4 s a b (zto n (zed n mu) c j) d)) (fun self => ?_) (fun self j hj => ?_) N 0 (by omega) (by omega)
  · dsimp only [bX12_find_150]
    rw [mX12_all_eq N (by rw [zM4_f]; exact hmk) hn, zb2_some]
    dsimp only
    rw [if_pos (nI_lt (by omega) (by omega))]
  · dsimp only [bX12_find_150, jX12_find_j215, zq_let]
    rw [mX12_all_eq N (by rw [zM4_f]; exact hmk) hn, zb2_some]
    dsimp only
    rw [if_neg (nI_nlt (by omega) (by omega)), mfi_160 N hN hn _ hmk hj _ _ _ _ (ha j hj) (hb j hj), nI_1]
    rfl
/-- a sum from t on -/
def zsi (t : Int64) (f : Nat → Int64) : Nat → Int64
  | 0 => t
  | k + 1 => zsi t f k + f k
/-- the value of S out of those with a mark more -/
def zfv (n : Nat) (E : Nat → Bool) (S : Nat) (t : Int64) (T : Nat → Int64) : Int64 := zsi t (fun m => if E m then T (S ||| 2 ^ m) else 0) n
/-- from the full set down: the sets n'-1, .., n'-k are done -/
def zfd (n : Nat) (E : Nat → Nat → Bool) (t : Nat → Int64) (T : Nat → Int64) : Nat → (Nat → Int64)
  | 0 => T
  | k + 1 => vp_updL (zfd n E t T k) (2 ^ n - 1 - k) (zfv n (E (2 ^ n - 1 - k)) (2 ^ n - 1 - k) (t (2 ^ n - 1 - k)) (zfd n E t T k))
theorem zupdL_upd (f : Nat → Int64) (k : Nat) (x y : Int64) : vp_updL (vp_updL f k x) k y = vp_updL f k y := by
  funext q
  unfold vp_updL
  split <;> rfl
theorem zupdL_self (f : Nat → Int64) (k : Nat) (x : Int64) (h : f k = x) : vp_updL f k x = f := by
  funext q
  unfold vp_updL
  split
  · rename_i e; rw [e, h]
  · rfl
theorem mfi_251 (N : Nat) (hN : 5000 ≤ N) {n : Nat} (hn : n ≤ 10) (k310 : zq_S → Option (Unit × zq_S)) {s : zq_S} {mu : Nat → Nat} (hmk : zgf s 57 6 = nI n) {S : Nat} (hS : S < 2 ^ n) (a b : Nat → Int32) (c d : Nat → Int64) (t : Int64) (ha : a S = zib (zgd mu S n)) (hb : b S = nI (znx mu S n)) :
    zq_loop (bX12_find_251 N (nI S) k310) N (0, zM4 s a b c (vp_updL d S t)) = k310 (zM4 s a b c (vp_updL d S (zfv n (zed n mu S) S t d))) := by
  have hp := zn_pow hn
  have hx := znx_lt (n := n) mu S n (Nat.le_refl _)
  cases hg : zgd mu S n with
  | false =>
    obtain ⟨M, rfl⟩ : ∃ M', N = M' + 1 := ⟨N - 1, by omega⟩
    rw [zq_loop_s]
    have e1 : ∀ m, zsi t (fun m => if zed n mu S m then d (S ||| 2 ^ m) else 0) m = t := by
      intro m
      induction m with
      | zero => rfl
      | succ m ih => rw [zsi, ih, zed, hg, Bool.false_and]; simp
    rw [zfv, e1]
    dsimp only [bX12_find_251]
    simp (disch := omega) only [zM4_f, hmk, zck_nI, zga_nI, zM4_78, ha, hg, zib]
    simp
  | true =>
    have e0 : (0, zM4 s a b c (vp_updL d S t)) = (fun j => (nI j, zM4 s a b c (vp_updL d S (zsi t (fun m => if zed n mu S m then d (S ||| 2 ^ m) else 0) j)))) 0 := rfl
    rw [e0, zfv]
    refine zq_up n (fun j => (nI j, zM4 s a b c (vp_updL d S (zsi t (fun m => if zed n mu S m then d (S ||| 2 ^ m) else 0) j)))) (fun self => ?_) (fun self j hj => ?_) N 0 (by omega) (by omega)
    · dsimp only [bX12_find_251]
      rw [zM4_f, hmk, if_pos (nI_le (Nat.le_refl _) (by omega))]
    · have hl := zor_lt hS hj
      have hq : (znx mu S n).testBit j = zed n mu S j := by rw [zed, hg, Bool.true_and]
      dsimp only [bX12_find_251, zq_let, jX12_find_j302]
      simp (disch := omega) only [zM4_f, hmk, nI_leI, Nat.not_le_of_lt hj, if_false, zck_nI, zga_nI, zM4_78, zM4_79, ha, hb, hg, zib, mX12_has_eq, zb2_some, zn_shl, zn_or, zgl_nI, zM4_81, zpl_nI, zM4_s81, nI_1, hq, zsi, pk_uLs, zupdL_upd]
      cases hz : zed n mu S j with
      | false => simp
      | true =>
        have hgt := zor_gt (zed_lt hz).2.1
        simp [pk_uLn (f := d) (k := S) (j := S ||| 2 ^ j) (by omega)]
