/-! the i-th order -/
theorem lgc_le (x z : Int64) : lg_cmp x z ≤ 0 ↔ x ≤ z := by
  rw [Int64.le_iff_toInt_le]
  rcases lgc_cases x z with ⟨h, e⟩ | ⟨h, e⟩ | ⟨h, e⟩ <;> rw [e]
  · exact ⟨fun _ => by omega, fun _ => by decide⟩
  · exact ⟨fun _ => by omega, fun _ => by decide⟩
  · exact ⟨fun q => absurd q (by decide), fun q => by omega⟩
/-- the last place below k at which no more than l stand ahead -/
def zfm (f : Nat → Nat) (l : Nat) : Nat → Nat
  | 0 => 0
  | k + 1 => if zsn f k ≤ l then k else zfm f l k
theorem zfm_ok {f : Nat → Nat} {l : Nat} : ∀ k, l < zsn f k → zfm f l k < k ∧ zsn f (zfm f l k) ≤ l ∧ l < zsn f (zfm f l k + 1) := by
  intro k
  induction k with
  | zero => intro h; exact absurd h (Nat.not_lt_zero _)
  | succ k ih =>
    intro h
    unfold zfm
    by_cases q : zsn f k ≤ l
    · rw [if_pos q]; exact ⟨by omega, q, h⟩
    · rw [if_neg q]
      have := ih (by omega)
      exact ⟨by omega, this.2⟩
theorem zsn_mono {f : Nat → Nat} {a b : Nat} (h : a ≤ b) : zsn f a ≤ zsn f b := by
  induction b with
  | zero => rw [show a = 0 by omega]; exact Nat.le_refl _
  | succ b ih =>
    by_cases e : a = b + 1
    · rw [e]; exact Nat.le_refl _
    · have := ih (by omega)
      rw [zsn]
      omega
/-- the weight of each mark that may come behind S -/
def zwt (n : Nat) (mu : Nat → Nat) (S : Nat) : Nat → Nat := fun m => if zed n mu S m then zW n mu (S ||| 2 ^ m) else 0
theorem zwt_lt {n : Nat} (hn : n ≤ 10) (mu : Nat → Nat) (S m : Nat) : zwt n mu S m < 2 ^ 62 := by
  unfold zwt
  split
  · exact zW_lt hn mu _
  · decide
theorem zl_sub {a b : Nat} (h : b ≤ a) : lN a - lN b = lN (a - b) := lN_sub h
theorem zl_le {a b : Nat} (ha : a < 2 ^ 63) (hb : b < 2 ^ 63) : lN a ≤ lN b ↔ a ≤ b := pk_lLE ha hb
/-- the class: one mark's choice -/
theorem xma_54 (N : Nat) (hN : 5000 ≤ N) {s : zq_S} {n : Nat} {mu : Nat → Nat} (hn : n ≤ 10) (hw : zWV s n mu) {S l m : Nat} (hS : S < 2 ^ n) (hg : zgd mu S n = true) (hl : l < 2 ^ 62) (hm : m < n) (h1 : zsn (zwt n mu S) m ≤ l) (h2 : l < zsn (zwt n mu S) (m + 1)) (f3 f8 : Int32) (k126 : Int64 × Int32 × zq_S → Option (Int32 × zq_S)) :
    zq_loop (bX4_markAt_54 N f3 (nI S) f8 (nI (znx mu S n)) k126) N (lN l, 0, s) = k126 (lN (l - zsn (zwt n mu S) m), nI m, s) := by
  have hp := zn_pow hn
  have hx := znx_lt (n := n) mu S n (Nat.le_refl _)
  have e0 : (lN l, (0 : Int32), s) = (fun j => (lN (l - zsn (zwt n mu S) j), nI j, s)) 0 := rfl
  have hb : ∀ j, (znx mu S n).testBit j = zed n mu S j := fun j => by rw [zed, hg, Bool.true_and]
  rw [e0]
  refine zq_up m (fun j => (lN (l - zsn (zwt n mu S) j), nI j, s)) (fun self => ?_) (fun self j hj => ?_) N 0 (by omega) (by omega)
  · dsimp only [bX4_markAt_54]
    by_cases h9 : 9 ≤ m
    · rw [if_pos (show (9 : Int32) ≤ nI m from nI_le (a := 9) h9 (by omega))]
    · rw [if_neg (show ¬ (9 : Int32) ≤ nI m from nI_ge (b := 9) (by omega) (by decide)), zn_bit (by omega) (by omega), hb m]
      have hz : zed n mu S m = true := by
        cases q : zed n mu S m with
        | true => rfl
        | false =>
          rw [zsn] at h2
          have : zwt n mu S m = 0 := by unfold zwt; rw [q]; rfl
          omega
      have hwm : zwt n mu S m = zW n mu (S ||| 2 ^ m) := by unfold zwt; rw [hz]; rfl
      have hlt := zor_lt hS hm
      rw [hz, if_neg (by decide), zn_shl (by omega), zn_or, zck_nI (by omega) (by decide), zgl_nI _ _ (by omega), hw _ hlt (zgd_next hz), if_pos]
      rw [lgc_lt, pk_lLT (by omega) (by have := zW_lt hn mu (S ||| 2 ^ m); omega)]
      rw [zsn] at h2
      omega
  · have hj2 : zsn (zwt n mu S) (j + 1) ≤ l := Nat.le_trans (zsn_mono (by omega)) h1
    rw [zsn] at hj2
    dsimp only [bX4_markAt_54, jX4_markAt_j89, jX4_markAt_j117, zq_let]
    rw [if_neg (show ¬ (9 : Int32) ≤ nI j from nI_ge (b := 9) (by omega) (by decide)), zn_bit (by omega) (by omega), hb j, nI_1, zn_shl (by omega), zn_or]
    cases hz : zed n mu S j with
    | false =>
      have : zwt n mu S j = 0 := by unfold zwt; rw [hz]; rfl
      simp [zsn, this]
    | true =>
      have hlt := zor_lt hS (zed_lt hz).1
      have hwm : zwt n mu S j = zW n mu (S ||| 2 ^ j) := by unfold zwt; rw [hz]; rfl
      have hwl := zW_lt hn mu (S ||| 2 ^ j)
      rw [zck_nI (by omega) (by decide), zck_nI (by omega) (by decide), zgl_nI _ _ (by omega), hw _ hlt (zgd_next hz)]
      have hnl : ¬ lg_cmp (lN (l - zsn (zwt n mu S) j)) (lN (zW n mu (S ||| 2 ^ j))) < 0 := by
        rw [lgc_lt, pk_lLT (by omega) (by omega)]
        omega
      simp only [if_true, show ¬ (1 : Int32) = 0 by decide, if_false, if_neg hnl]
      rw [zl_sub (by omega), ← hwm, zsn, Nat.sub_sub]
/-- the reference: one mark's choice -/
theorem mor_67 (N : Nat) (hN : 5000 ≤ N) {s : zq_S} {n : Nat} {mu : Nat → Nat} (hn : n ≤ 10) (hmk : zgf s 57 6 = nI n) (hF : zFD s n mu) {S l m : Nat} (hS : S < 2 ^ n) (hg : zgd mu S n = true) (hl : l < 2 ^ 62) (hm : m < n) (h1 : zsn (zwt n mu S) m ≤ l) (h2 : l < zsn (zwt n mu S) (m + 1)) (f3 f8 : Int32) (k156 : Int64 × Int32 × zq_S → Option (Int32 × zq_S)) :
    zq_loop (bX12_order_67 N f3 (nI S) f8 k156) N (lN l, -1, 0, s) = k156 (lN (l - zsn (zwt n mu S) m), nI m, s) := by
  have hp := zn_pow hn
  have hx := znx_lt (n := n) mu S n (Nat.le_refl _)
  have hb : ∀ j, (znx mu S n).testBit j = zed n mu S j := fun j => by rw [zed, hg, Bool.true_and]
  have hW := zrec_W hF.2.2.2
  have h79 := hF.2.1 S hS
  have hwt : ∀ j, j < n → (if zed n mu S j then zL s 81 (S ||| 2 ^ j) else 0) = lN (zwt n mu S j) := by
    intro j hj
    unfold zwt
    cases hz : zed n mu S j with
    | false => rfl
    | true => simp [hW _ (zor_lt hS hj) (zgd_next hz)]
  have e0 : (lN l, (-1 : Int32), (0 : Int32), s) = (fun j => (lN (l - zsn (zwt n mu S) (min j m)), (if j ≤ m then (-1 : Int32) else nI m), nI j, s)) 0 := by
    show _ = (lN (l - zsn (zwt n mu S) (min 0 m)), (if 0 ≤ m then (-1 : Int32) else nI m), nI 0, s)
    rw [Nat.zero_min, if_pos (Nat.zero_le _)]
    rfl
  rw [e0]
  refine zq_up (m + 1) (fun j => (lN (l - zsn (zwt n mu S) (min j m)), (if j ≤ m then (-1 : Int32) else nI m), nI j, s)) (fun self => ?_) (fun self j hj => ?_) N 0 (by omega) (by omega)
  · dsimp only [bX12_order_67]
    rw [hmk, if_neg (show ¬ m + 1 ≤ m by omega), Nat.min_eq_right (by omega)]
    split
    · rfl
    · rw [if_pos (nI_pos' (by omega))]
  · have hjm : j ≤ m := by omega
    have hwl := zwt_lt hn mu S j
    dsimp only [bX12_order_67, jX12_order_j112, zq_let]
    rw [hmk, if_neg (nI_ge (show j < n by omega) (by omega)), if_pos hjm, if_neg (by decide), zck_nI (by omega) (by decide), zga_nI _ _ (by omega), h79, mX12_has_eq N (by omega) (by omega), zb2_some, hb j, nI_1, zn_shl (by omega), zn_or, Nat.min_eq_left hjm]
    have key : ∀ (x : Int64), x = lN (zwt n mu S j) → self (lN (l - zsn (zwt n mu S) j) - (if lg_cmp x (lN (l - zsn (zwt n mu S) j)) ≤ 0 then x else 0), (if lg_cmp x (lN (l - zsn (zwt n mu S) j)) ≤ 0 then (-1 : Int32) else nI j), nI (j + 1), s) = self (lN (l - zsn (zwt n mu S) (min (j + 1) m)), (if j + 1 ≤ m then (-1 : Int32) else nI m), nI (j + 1), s) := by
      intro x hx
      subst hx
      have hc : lg_cmp (lN (zwt n mu S j)) (lN (l - zsn (zwt n mu S) j)) ≤ 0 ↔ zwt n mu S j ≤ l - zsn (zwt n mu S) j := by
        rw [lgc_le, zl_le (by omega) (by omega)]
      by_cases e : j = m
      · subst e
        rw [zsn] at h2
        have hn2 : ¬ lg_cmp (lN (zwt n mu S j)) (lN (l - zsn (zwt n mu S) j)) ≤ 0 := by rw [hc]; omega
        rw [if_neg hn2, if_neg hn2, if_neg (by omega), Nat.min_eq_right (by omega)]
        simp
      · have hj2 : zsn (zwt n mu S) (j + 1) ≤ l := Nat.le_trans (zsn_mono (by omega)) h1
        rw [zsn] at hj2
        have hy : lg_cmp (lN (zwt n mu S j)) (lN (l - zsn (zwt n mu S) j)) ≤ 0 := by rw [hc]; omega
        rw [if_pos hy, if_pos hy, if_pos (by omega), Nat.min_eq_left (by omega), zl_sub (by omega), zsn, Nat.sub_sub]
    have hw := hwt j (by omega)
    cases hz : zed n mu S j with
    | false =>
      rw [hz] at hw
      simp only [Bool.false_eq_true, if_false, if_true] at hw ⊢
      exact key 0 hw
    | true =>
      rw [hz] at hw
      have hlt := zor_lt hS (zed_lt hz).1
      simp only [if_true, show ¬ (1 : Int32) = 0 by decide, if_false] at hw ⊢
      rw [zck_nI (by omega) (by decide), zgl_nI _ _ (by omega)]
      exact key _ hw
/-- the set and what is left, behind k marks of the I-th order -/
def zoi (n : Nat) (mu : Nat → Nat) (I : Nat) : Nat → Nat × Nat
  | 0 => (0, I)
  | k + 1 => ((zoi n mu I k).1 ||| 2 ^ (zfm (zwt n mu (zoi n mu I k).1) (zoi n mu I k).2 n), (zoi n mu I k).2 - zsn (zwt n mu (zoi n mu I k).1) (zfm (zwt n mu (zoi n mu I k).1) (zoi n mu I k).2 n))
def zom (n : Nat) (mu : Nat → Nat) (I k : Nat) : Nat := zfm (zwt n mu (zoi n mu I k).1) (zoi n mu I k).2 n
theorem zbc_full (n : Nat) : ∀ k, k ≤ n → zbc (2 ^ n - 1) k = k := by
  intro k
  induction k with
  | zero => intro _; rfl
  | succ k ih => intro h; rw [zbc, ih (by omega), zfull_bit (by omega)]; rfl
theorem zoi_ok {n : Nat} (hn : n ≤ 10) {mu : Nat → Nat} {I : Nat} (hI : I < zW n mu 0) : ∀ k, k ≤ n → (zoi n mu I k).1 < 2 ^ n ∧ zgd mu (zoi n mu I k).1 n = true ∧ (zoi n mu I k).2 < zW n mu (zoi n mu I k).1 ∧ zbc (zoi n mu I k).1 n = k := by
  intro k
  induction k with
  | zero =>
    intro _
    refine ⟨Nat.pow_pos (by decide), zgd_zero mu n, hI, ?_⟩
    have : ∀ j, zbc 0 j = 0 := by
      intro j
      induction j with
      | zero => rfl
      | succ j ih => rw [zbc, ih, Nat.zero_testBit]; rfl
    exact this n
  | succ k ih =>
    intro hk
    obtain ⟨h1, h2, h3, h4⟩ := ih (by omega)
    have hne : (zoi n mu I k).1 ≠ 2 ^ n - 1 := fun z => by rw [z, zbc_full n n (Nat.le_refl _)] at h4; omega
    have h5 := h3
    rw [zW_rec, if_neg hne] at h5
    obtain ⟨m1, m2, m3⟩ := zfm_ok (f := zwt n mu (zoi n mu I k).1) n h5
    have hz : zed n mu (zoi n mu I k).1 (zom n mu I k) = true := by
      cases q : zed n mu (zoi n mu I k).1 (zom n mu I k) with
      | true => rfl
      | false =>
        have e : zwt n mu (zoi n mu I k).1 (zom n mu I k) = 0 := by unfold zwt; rw [q]; rfl
        rw [zsn] at m3
        have : zwt n mu (zoi n mu I k).1 (zfm (zwt n mu (zoi n mu I k).1) (zoi n mu I k).2 n) = 0 := e
        omega
    have ew : zwt n mu (zoi n mu I k).1 (zom n mu I k) = zW n mu ((zoi n mu I k).1 ||| 2 ^ (zom n mu I k)) := by unfold zwt; rw [hz]; rfl
    refine ⟨zor_lt h1 m1, zgd_next hz, ?_, ?_⟩
    · show (zoi n mu I k).2 - zsn (zwt n mu (zoi n mu I k).1) (zom n mu I k) < zW n mu ((zoi n mu I k).1 ||| 2 ^ (zom n mu I k))
      rw [← ew]
      have m3' : (zoi n mu I k).2 < zsn (zwt n mu (zoi n mu I k).1) (zom n mu I k) + zwt n mu (zoi n mu I k).1 (zom n mu I k) := m3
      have m2' : zsn (zwt n mu (zoi n mu I k).1) (zom n mu I k) ≤ (zoi n mu I k).2 := m2
      omega
    · show zbc ((zoi n mu I k).1 ||| 2 ^ (zom n mu I k)) n = k + 1
      rw [zbc_or (zed_lt hz).2.1, if_pos (show zom n mu I k < n from m1), h4]
theorem zom_ok {n : Nat} (hn : n ≤ 10) {mu : Nat → Nat} {I k : Nat} (hI : I < zW n mu 0) (hk : k < n) : zom n mu I k < n ∧ zsn (zwt n mu (zoi n mu I k).1) (zom n mu I k) ≤ (zoi n mu I k).2 ∧ (zoi n mu I k).2 < zsn (zwt n mu (zoi n mu I k).1) (zom n mu I k + 1) := by
  obtain ⟨h1, h2, h3, h4⟩ := zoi_ok hn hI k (by omega)
  have hne : (zoi n mu I k).1 ≠ 2 ^ n - 1 := fun z => by rw [z, zbc_full n n (Nat.le_refl _)] at h4; omega
  rw [zW_rec, if_neg hne] at h3
  exact zfm_ok (f := zwt n mu (zoi n mu I k).1) n h3
/-- the mark that stood last, behind k marks -/
def zla (n : Nat) (mu : Nat → Nat) (I : Nat) : Nat → Int32
  | 0 => -1
  | k + 1 => nI (zom n mu I k)
theorem xma_34 (N : Nat) (hN : 5000 ≤ N) {s : zq_S} {n : Nat} {mu : Nat → Nat} (hX : zXM s n mu) (hw : zWV s n mu) {I j : Nat} (hI : I < zW n mu 0) (hj : j < n) :
    zq_loop (bX4_markAt_34 N (nI j)) N (lN I, 0, -1, 0, s) = some (nI (zom n mu I j), s) := by
  obtain ⟨hn, hmk, h34, hh⟩ := hX
  have hp := zn_pow hn
  have e0 : (lN I, (0 : Int32), (-1 : Int32), (0 : Int32), s) = (fun k => (lN (zoi n mu I k).2, nI (zoi n mu I k).1, zla n mu I k, nI k, s)) 0 := rfl
  rw [e0]
  refine zq_up (j + 1) (fun k => (lN (zoi n mu I k).2, nI (zoi n mu I k).1, zla n mu I k, nI k, s)) (fun self => ?_) (fun self k hk => ?_) N 0 (by omega) (by omega)
  · dsimp only [bX4_markAt_34]
    rw [if_pos (nI_lt (by omega) (by omega))]
    rfl
  · obtain ⟨h1, h2, h3, h4⟩ := zoi_ok hn hI k (by omega)
    obtain ⟨m1, m2, m3⟩ := zom_ok (k := k) hn hI (by omega)
    have hb := zW_lt hn mu (zoi n mu I k).1
    dsimp only [bX4_markAt_34]
    rw [if_neg (nI_nlt (by omega) (by omega)), mX3_following_eq N hN hn hmk h34 hh (by omega), zb2_some]
    dsimp only
    rw [xma_54 N hN hn hw h1 h2 (by omega) m1 m2 m3]
    dsimp only [jX4_markAt_j126, zq_let]
    rw [zn_shl (by omega), zn_or, nI_1]
    rfl
theorem mor_55 (N : Nat) (hN : 5000 ≤ N) {s : zq_S} {n : Nat} {mu : Nat → Nat} (hn : n ≤ 10) (hmk : zgf s 57 6 = nI n) (hF : zFD s n mu) {I j : Nat} (hI : I < zW n mu 0) (hj : j < n) :
    zq_loop (bX12_order_55 N (nI j)) N (lN I, 0, -1, 0, s) = some (nI (zom n mu I j), s) := by
  have hp := zn_pow hn
  have e0 : (lN I, (0 : Int32), (-1 : Int32), (0 : Int32), s) = (fun k => (lN (zoi n mu I k).2, nI (zoi n mu I k).1, zla n mu I k, nI k, s)) 0 := rfl
  rw [e0]
  refine zq_up (j + 1) (fun k => (lN (zoi n mu I k).2, nI (zoi n mu I k).1, zla n mu I k, nI k, s)) (fun self => ?_) (fun self k hk => ?_) N 0 (by omega) (by omega)
  · dsimp only [bX12_order_55]
    rw [if_pos (nI_lt (by omega) (by omega))]
    rfl
  · obtain ⟨h1, h2, h3, h4⟩ := zoi_ok hn hI k (by omega)
    obtain ⟨m1, m2, m3⟩ := zom_ok (k := k) hn hI (by omega)
    have hb := zW_lt hn mu (zoi n mu I k).1
    dsimp only [bX12_order_55]
    rw [if_neg (nI_nlt (by omega) (by omega)), mor_67 N hN hn hmk hF h1 h2 (by omega) m1 m2 m3]
    dsimp only [jX12_order_j156, zq_let]
    rw [zn_shl (by omega), zn_or, nI_1]
    rfl
/-- the answer of order -/
def zOrd (n : Nat) (mu : Nat → Nat) (i : Int64) (j : Int32) : Int32 := if i < 0 then -1002 else if lN (zW n mu 0) ≤ i ∨ j < 0 ∨ nI n ≤ j then -1 else nI (zom n mu i.toNatClampNeg j.toNatClampNeg)
theorem zl_clamp {a : Nat} (h : a < 2 ^ 63) : (lN a).toNatClampNeg = a := by
  rw [Int64.toNatClampNeg, pk_lT h]
  simp
theorem lgc_ge0 (x z : Int64) : 0 ≤ lg_cmp x z ↔ z ≤ x := lg_cmp_ge x z
theorem mX12_order_eq (N : Nat) (hN : 5000 ≤ N) {s : zq_S} {n : Nat} {mu : Nat → Nat} (hn : n ≤ 10) (hmk : zgf s 57 6 = nI n) (h65 : ∀ m, m < n → zA s 65 m = nI (mu m)) (hh : ∀ m, m < n → mu m < 2 ^ n) (hc : zgf s 57 37 = 0 ∨ (zgf s 57 37 = 1 ∧ zFD s n mu)) (i : Int64) (j : Int32) :
    ∃ s', mX12_order N i j s = some (zOrd n mu i j, s') ∧ (s' = s ∨ ∃ a b c d, s' = zpf (zM4 s a b c d) 57 37 1 ∧ zFD s' n mu) := by
  have h0 : 0 < 2 ^ n := Nat.pow_pos (by decide)
  unfold mX12_order jX12_order_j41 zOrd
  by_cases hi : i < 0
  · refine ⟨s, ?_, Or.inl rfl⟩
    rw [if_pos hi, if_neg]
    rw [lgc_ge0, Int64.le_iff_toInt_le]
    rw [Int64.lt_iff_toInt_lt] at hi
    omega
  · obtain ⟨a, b, c, d, hf, hF⟩ := mX12_find_eq N hN hn hmk h65 hh hc
    refine ⟨_, ?_, Or.inr ⟨a, b, c, d, rfl, hF⟩⟩
    have hmk2 : zgf (zpf (zM4 s a b c d) 57 37 1) 57 6 = nI n := hmk
    generalize zpf (zM4 s a b c d) 57 37 1 = s2 at hf hF hmk2 ⊢
    have hi2 : (0 : Int32) ≤ lg_cmp i 0 := by
      rw [lgc_ge0, Int64.le_iff_toInt_le]
      rw [Int64.lt_iff_toInt_lt] at hi
      omega
    obtain ⟨I, hI, rfl⟩ := pk_lOf hi
    have hW0 := zrec_W hF.2.2.2 0 h0 (zgd_zero mu n)
    have hWl := zW_lt hn mu 0
    rw [if_pos hi2, if_neg hi, hf, zb2_some]
    dsimp only
    rw [show (0 : Int32) = nI 0 from rfl, zck_nI (by decide) (by decide), zgl_nI _ _ (by decide), hW0, show nI 0 = (0 : Int32) from rfl]
    by_cases h1 : lN (zW n mu 0) ≤ lN I
    · rw [if_pos ((lgc_ge0 _ _).mpr h1), if_pos (Or.inl h1)]
    · rw [if_neg (fun z => h1 ((lgc_ge0 _ _).mp z))]
      have e := mX12_isMark_eq N hmk2 hn j
      unfold mX12_isMark at e
      rw [mX12_in_eq, zb2_some] at e
      dsimp only at e
      rw [zb_if] at e
      rw [mX12_in_eq, zb2_some]
      dsimp only
      have e2 := congrArg Prod.fst (Option.some.inj e)
      dsimp only at e2
      rw [e2]
      by_cases h2 : ¬ j < 0 ∧ ¬ nI n ≤ j
      · rw [if_pos h2, if_neg (show ¬ (1 : Int32) = 0 by decide), if_neg (by rintro (q | q | q); exact h1 q; exact h2.1 q; exact h2.2 q)]
        obtain ⟨J, hJ, rfl⟩ := nI_of h2.1
        have hJn : J < n := by
          have := h2.2
          rw [nI_leI (by omega) hJ] at this
          omega
        have hIW : I < zW n mu 0 := by
          rw [pk_lLE (by omega) hI] at h1
          omega
        rw [mor_55 N hN hn hmk2 hF hIW hJn, zl_clamp hI, nI_clamp hJ]
      · rw [if_neg h2, if_pos rfl, if_pos]
        by_cases q : j < 0
        · exact Or.inr (Or.inl q)
        · refine Or.inr (Or.inr ?_)
          by_cases q2 : nI n ≤ j
          · exact q2
          · exact absurd ⟨q, q2⟩ h2
theorem mX4_markAt_eq (N : Nat) (hN : 5000 ≤ N) {s : zq_S} {n : Nat} {mu : Nat → Nat} (hX : zXM s n mu) (hc : zgf s 31 9 = zgf s 31 8 → zGD s n mu) (hw : zgf s 44 5 = zgf s 31 8 → zWV s n mu) (i : Int64) (j : Int32) (hi : ¬ i < 0) :
    ∃ s', mX4_markAt N i j s = some (zOrd n mu i j, s') ∧ zWV s' n mu ∧ zgf s' 44 5 = zgf s 31 8 ∧ (s' = s ∨ ∃ o T, s' = zsL (zG3 (zpf s 44 5 (zgf s 31 8)) (zli (zgL mu n (2 ^ n)) o) (nI (zgL mu n (2 ^ n)).length)) 45 T) := by
  obtain ⟨s', h1, h2, h3, h4⟩ := mX4_number_eq N hN hX hc hw
  refine ⟨s', ?_, h2, h3, h4⟩
  have hz := zs_or (zgb s 3)
  have hX2 : zXM s' n mu := by
    rcases h4 with rfl | ⟨o, T, rfl⟩
    · exact hX
    · refine zXM_L45 (zXM_G3 ?_ _ _) T
      obtain ⟨a1, a2, a3, a4⟩ := hX
      refine ⟨a1, ?_, a3, a4⟩
      rw [zgb_pf, zgf_pf, if_neg (by omega)]
      exact a2
  have hn := hX.1
  have hWl := zW_lt hn mu 0
  unfold mX4_markAt jX4_markAt_j20 zOrd
  obtain ⟨I, hI, rfl⟩ := pk_lOf hi
  rw [h1, zb2_some, if_neg hi]
  dsimp only
  by_cases q1 : lN (zW n mu 0) ≤ lN I
  · rw [if_pos ((lgc_ge0 _ _).mpr q1), if_pos (Or.inl q1)]
  · rw [if_neg (fun z => q1 ((lgc_ge0 _ _).mp z)), mX3_hasMark_eq N hn hX2.2.1, zb2_some]
    dsimp only
    by_cases q2 : ¬ j < 0 ∧ ¬ nI n ≤ j
    · rw [if_pos q2, if_neg (show ¬ (1 : Int32) = 0 by decide), if_neg (by rintro (q | q | q); exact q1 q; exact q2.1 q; exact q2.2 q)]
      obtain ⟨J, hJ, rfl⟩ := nI_of q2.1
      have hJn : J < n := by
        have := q2.2
        rw [nI_leI (by omega) hJ] at this
        omega
      have hIW : I < zW n mu 0 := by
        rw [pk_lLE (by omega) hI] at q1
        omega
      rw [xma_34 N hN hX2 h2 hIW hJn, zl_clamp hI, nI_clamp hJ]
    · rw [if_neg q2, if_pos rfl, if_pos]
      by_cases q : j < 0
      · exact Or.inr (Or.inl q)
      · refine Or.inr (Or.inr ?_)
        by_cases q3 : nI n ≤ j
        · exact q3
        · exact absurd ⟨q, q3⟩ q2
