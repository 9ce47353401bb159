/-! sessions: the class's costs -/
theorem zn_4m (a b : Nat) : 4 * nI a + nI b = nI (4 * a + b) := by rw [show (4 : Int32) = nI 4 from rfl, nI_mul, nI_add]
theorem mJ9_min_eq (N : Nat) {a b : Nat} (ha : a < 2 ^ 62) (hb : b < 2 ^ 62) (s : zq_S) : mJ9_min_f86c9 N (lN a) (lN b) s = some (lN (min a b), s) := by
  dsimp only [mJ9_min_f86c9, zq_let]
  by_cases q : b < a
  · rw [if_pos ((lgc_gt _ _).mpr ((pk_lLT (by omega) (by omega)).mpr q)), Nat.min_eq_right (by omega)]
  · rw [if_neg (fun z => q ((pk_lLT (by omega) (by omega)).mp ((lgc_gt _ _).mp z))), Nat.min_eq_left (by omega)]
/-- the value of a pair -/
def zvl (p : Nat × Nat) : Nat := 1000 * p.1 + p.2
/-- the row best, behind the marks below j -/
def zbe (E : Nat → Bool) (V : Nat → Nat) (ik : Nat → Nat) (j : Nat) (o : Nat → Int64) : Nat → Int64 := fun i => if i < 4 then lN (zmi (fun m => E m && decide (ik m = i)) V j) else o i
theorem xw_cheap (N : Nat) (hN : 5000 ≤ N) {g : zG} {s : zq_S} (h : zXI g s) {S : Nat} (hS : S < 2 ^ g.n) (hg : zgd g.mu S g.n = true) (V : Nat → Nat) (hV : ∀ m, m < g.n → zed g.n g.mu S m = true → V m < 2 ^ 60)
    (hR : ∀ m, m < g.n → zed g.n g.mu S m = true → zL s 1 (4 * (S ||| 2 ^ m) + g.ik m) = lN (V m)) :
    mX6_cheapest N (nI S) s = some (lN (zmi (zed g.n g.mu S) V 10), zsL s 48 (zbe (zed g.n g.mu S) V g.ik 10 (zL s 48))) := by
  have hn := h.W.n
  have hp := zn_pow hn
  have hx := znx_lt (n := g.n) g.mu S g.n (Nat.le_refl _)
  have h1 : zXI g (zpfl s 48 4 1000000) := zXI_room h (zfr_sL 48 _ (by decide))
  unfold mX6_cheapest
  dsimp only [zq_let]
  rw [h1.fol N hN hS, zb2_some]
  dsimp only
  have e0 : ((1000000 : Int64), (0 : Int32), zpfl s 48 4 1000000) = (fun j => (lN (zmi (zed g.n g.mu S) V j), nI j, zsL s 48 (zbe (zed g.n g.mu S) V g.ik j (zL s 48)))) 0 := rfl
  rw [e0]
  refine zq_up 10 (fun j => (lN (zmi (zed g.n g.mu S) V j), nI j, zsL s 48 (zbe (zed g.n g.mu S) V g.ik j (zL s 48)))) (fun self => ?_) (fun self j hj => ?_) N 0 (by omega) (by omega)
  · dsimp only [bX6_cheapest_27]
    rw [if_pos (by decide)]
  · have eb : (znx g.mu S g.n).testBit j = zed g.n g.mu S j := by unfold zed; rw [hg, Bool.true_and]
    dsimp only [bX6_cheapest_27, jX6_cheapest_j101, zq_let]
    rw [if_neg (by rw [show (10 : Int32) = nI 10 from rfl, nI_leI (by omega) (by omega)]; omega), zn_bit (by omega) (by omega), eb, nI_1]
    cases q : zed g.n g.mu S j with
    | false =>
      rw [zif_f]
      have a1 : zmi (zed g.n g.mu S) V (j + 1) = zmi (zed g.n g.mu S) V j := by
        conv => lhs; unfold zmi
        rw [q]; rfl
      have a2 : zbe (zed g.n g.mu S) V g.ik (j + 1) (zL s 48) = zbe (zed g.n g.mu S) V g.ik j (zL s 48) := by
        funext i
        unfold zbe
        split
        · conv => lhs; unfold zmi
          rw [q, Bool.false_and]; rfl
        · rfl
      rw [a1, a2]
    | true =>
      obtain ⟨hjn, hbj, _⟩ := zed_lt q
      have hik := h.W.ik j hjn
      have ho := zor_lt hS hjn
      have m1 := zmi_le (zed g.n g.mu S) V j
      have m2 := zmi_le (fun m => zed g.n g.mu S m && decide (g.ik m = g.ik j)) V j
      have hVj := hV j hjn q
      have e32 : zA (zsL s 48 (zbe (zed g.n g.mu S) V g.ik j (zL s 48))) 32 j = nI (g.ik j) := h.ik j hjn
      have e48 : zbe (zed g.n g.mu S) V g.ik j (zL s 48) (g.ik j) = lN (zmi (fun m => zed g.n g.mu S m && decide (g.ik m = g.ik j)) V j) := if_pos hik
      have e1 : zL (zsL s 48 (zbe (zed g.n g.mu S) V g.ik j (zL s 48))) 1 (4 * (S ||| 2 ^ j) + g.ik j) = lN (V j) := hR j hjn q
      rw [zif_t, zck_nI hj (by decide), zga_nI _ _ (by omega), e32, zck_nI hik (by decide), zn_shl (by omega), zn_or, zn_4m, zck_nI (by omega) (by decide), zgl_nI _ _ (by omega), zgl_nI _ _ (by omega), e1, zL_self, e48, mJ9_min_eq N (by omega) (by omega), zb2_some]
      dsimp only
      have eu : vp_updL (zbe (zed g.n g.mu S) V g.ik j (zL s 48)) (g.ik j) (lN (min (zmi (fun m => zed g.n g.mu S m && decide (g.ik m = g.ik j)) V j) (V j))) = zbe (zed g.n g.mu S) V g.ik (j + 1) (zL s 48) := by
        funext i
        unfold vp_updL zbe
        by_cases c : i = g.ik j
        · rw [if_pos c, c, if_pos hik]
          conv => rhs; unfold zmi
          rw [q, decide_eq_true rfl]; rfl
        · rw [if_neg c]
          split
          · conv => rhs; unfold zmi
            rw [decide_eq_false (fun z => c z.symm), Bool.and_false]; rfl
          · rfl
      have mle : zmi (zed g.n g.mu S) V j ≤ zmi (fun m => zed g.n g.mu S m && decide (g.ik m = g.ik j)) V j := by
        have : ∀ k, zmi (zed g.n g.mu S) V k ≤ zmi (fun m => zed g.n g.mu S m && decide (g.ik m = g.ik j)) V k := by
          intro k
          induction k with
          | zero => exact Nat.le_refl _
          | succ k ih =>
            unfold zmi
            cases zed g.n g.mu S k with
            | false => rw [Bool.false_and]; exact ih
            | true =>
              rw [Bool.true_and, if_pos rfl]
              split <;> omega
        exact this j
      have e2 : zbe (zed g.n g.mu S) V g.ik (j + 1) (zL s 48) (g.ik j) = lN (min (zmi (fun m => zed g.n g.mu S m && decide (g.ik m = g.ik j)) V j) (V j)) := by
        rw [← eu, pk_uLs]
      rw [zck_nI hik (by decide), zpl_nI _ _ (by omega), zL_self, zsL_sL, eu, zck_nI hik (by decide), zgl_nI _ _ (by omega), zL_self, e2, mJ9_min_eq N (by omega) (by omega), zb2_some]
      dsimp only
      have e3 : min (zmi (zed g.n g.mu S) V j) (min (zmi (fun m => zed g.n g.mu S m && decide (g.ik m = g.ik j)) V j) (V j)) = zmi (zed g.n g.mu S) V (j + 1) := by
        conv => rhs; unfold zmi
        rw [q, if_pos rfl]
        omega
      rw [e3]
theorem zmi_n {E : Nat → Bool} {V : Nat → Nat} {n : Nat} (hn : n ≤ 10) (hE : ∀ m, E m = true → m < n) : zmi E V 10 = zmi E V n := by
  have : ∀ k, n ≤ k → zmi E V k = zmi E V n := by
    intro k
    induction k with
    | zero => intro h; rw [show n = 0 by omega]
    | succ k ih =>
      intro h
      by_cases e : n = k + 1
      · rw [e]
      · have e2 : zmi E V (k + 1) = zmi E V k := if_neg (fun z => by have := hE k z; omega)
        rw [e2]
        exact ih (by omega)
  exact this 10 hn
/-- breaks counted, or not -/
def zbr (g : zG) (w : Bool) (S : Nat) : Nat := if w then zbks g.bs (ztx g.T S) else 0
theorem zbr_le {g : zG} (hW : zGW g) (w : Bool) (S : Nat) : zbr g w S ≤ 40 := by
  unfold zbr zbks
  have := zbk_le g.bs (ztx g.T S) ((ztx g.T S).length - 1)
  have := ztx_len hW.W hW.w40 S
  split <;> omega
def zQ (g : zG) (w : Bool) (S i : Nat) : Nat := zvl (zP g.n g.mu g.ik (zbr g w) S i)
theorem zQ_small {g : zG} (hW : zGW g) (w : Bool) {S : Nat} (i : Nat) (hS : S < 2 ^ g.n) (hg : zgd g.mu S g.n = true) : zQ g w S i < 2 ^ 40 := by
  have := zP_small hW (zbr_le hW w) g.ik i hS hg
  unfold zQ zvl
  omega
/-- the rule of the costs -/
theorem zQ_rec {g : zG} (hW : zGW g) (w : Bool) {S : Nat} (i : Nat) (hS : S < 2 ^ g.n) (hg : zgd g.mu S g.n = true) (hf : S ≠ 2 ^ g.n - 1) :
    zQ g w S i = zmi (zed g.n g.mu S) (fun m => zQ g w (S ||| 2 ^ m) (g.ik m) + (if S ≠ 0 ∧ g.ik m = i then 0 else 1000 + (if S = 0 then 0 else zbr g w S))) g.n := by
  have hb := zbr_le hW w
  conv => lhs; unfold zQ
  rw [zP_rec _ _ _ hS, if_neg hf]
  have hc : ∀ m, m < g.n → zed g.n g.mu S m = true → (zcd g.ik (zbr g w) (zP g.n g.mu g.ik (zbr g w)) S i m).1 ≤ 900 ∧ (zcd g.ik (zbr g w) (zP g.n g.mu g.ik (zbr g w)) S i m).2 < 1000 := by
    intro m hm he
    have := zP_small hW hb g.ik (g.ik m) (zor_lt hS hm) (zgd_next he)
    have hbS := hb S
    unfold zcd
    dsimp only
    constructor
    · split <;> omega
    · split <;> omega
  rcases zmi_B g.n hc with ⟨a, _⟩ | ⟨_, _, a⟩
  · obtain ⟨m, hm, he⟩ := znext_ex hW hS hg hf
    rw [a m hm] at he
    cases he
  · show 1000 * _ + _ = _
    rw [← a]
    refine zmi_congr g.n (fun m hm he => ?_)
    unfold zcd zQ zvl
    dsimp only
    by_cases c0 : S = 0
    · rw [if_neg (fun z => z.1 c0), if_pos (Or.inr c0), if_neg (fun z => z.1 c0), if_pos c0]
      omega
    · by_cases c1 : g.ik m = i
      · rw [if_pos ⟨c0, c1⟩, if_pos (Or.inl ⟨c0, c1⟩), if_pos ⟨c0, c1⟩]
        omega
      · rw [if_neg (fun z => c1 z.2), if_neg (fun z => z.elim (fun y => c1 y.2) c0), if_neg (fun z => c1 z.2), if_neg c0]
        omega
theorem zQ_full {g : zG} (w : Bool) (i : Nat) (h0 : g.n ≠ 0) : zQ g w (2 ^ g.n - 1) i = zbr g w (2 ^ g.n - 1) := by
  have := Nat.pow_pos (n := g.n) (show 0 < 2 by decide)
  unfold zQ
  rw [zP_rec _ _ _ (by omega), if_pos rfl, if_neg h0]
  unfold zvl
  omega
/-- the class: min of the row and the change is the cost -/
theorem zQ_class {g : zG} (hW : zGW g) (w : Bool) {S i : Nat} (hS : S < 2 ^ g.n) (hg : zgd g.mu S g.n = true) (hf : S ≠ 2 ^ g.n - 1) (h0 : S ≠ 0) :
    min (zmi (fun m => zed g.n g.mu S m && decide (g.ik m = i)) (fun m => zQ g w (S ||| 2 ^ m) (g.ik m)) 10) (1000 + zmi (zed g.n g.mu S) (fun m => zQ g w (S ||| 2 ^ m) (g.ik m)) 10 + zbr g w S) = zQ g w S i := by
  rw [zmi_A (zed g.n g.mu S) _ (fun m => decide (g.ik m = i)), zmi_n hW.n (fun m hm => (zed_lt hm).1), zQ_rec hW w i hS hg hf]
  refine zmi_congr g.n (fun m hm he => ?_)
  by_cases c1 : g.ik m = i
  · rw [if_pos (decide_eq_true c1), if_pos ⟨h0, c1⟩]
  · rw [if_neg (by simpa using c1), if_neg (fun z => c1 z.2), if_neg h0]
theorem zQ_class0 {g : zG} (hW : zGW g) (w : Bool) (h0 : g.n ≠ 0) (i : Nat) : 1000 + zmi (zed g.n g.mu 0) (fun m => zQ g w (0 ||| 2 ^ m) (g.ik m)) 10 = zQ g w 0 i := by
  have hp := Nat.pow_pos (n := g.n) (show 0 < 2 by decide)
  have h2 : 2 ≤ 2 ^ g.n := by
    obtain ⟨k, hk⟩ : ∃ k, g.n = k + 1 := ⟨g.n - 1, by omega⟩
    rw [hk, Nat.pow_succ]
    have := Nat.pow_pos (n := k) (show 0 < 2 by decide)
    omega
  have hs := zQ_small hW w i (S := 0) (by omega) (zgd_zero _ _)
  have hr := zQ_rec hW w i (S := 0) (by omega) (zgd_zero _ _) (by omega)
  have e : zmi (zed g.n g.mu 0) (fun m => zQ g w (0 ||| 2 ^ m) (g.ik m) + (if (0 : Nat) ≠ 0 ∧ g.ik m = i then 0 else 1000 + (if (0 : Nat) = 0 then 0 else zbr g w 0))) g.n = zmi (zed g.n g.mu 0) (fun m => zQ g w (0 ||| 2 ^ m) (g.ik m) + 1000) g.n := by
    refine zmi_congr g.n (fun m _ _ => ?_)
    rw [if_neg (fun z => z.1 rfl), if_pos rfl]
  rw [e, zmi_1000] at hr
  have hsm := zP_small hW (zbr_le hW w) g.ik i (S := 0) (by omega) (zgd_zero _ _)
  have hq : zQ g w 0 i ≤ 20000 := by unfold zQ zvl; omega
  rw [zmi_n (E := zed g.n g.mu 0) hW.n (fun m hm => (zed_lt hm).1)]
  omega
