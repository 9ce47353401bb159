/-! the shelf's methods -/
theorem nI_mul (a b : Nat) : nI a * nI b = nI (a * b) := (Int32.ofNat_mul a b).symm
theorem zb_0 {α : Type} (x : Option α) : zq_bz 0 x = x := zb_if False x
theorem zb_1 {α : Type} (x : Option α) : zq_bz 1 x = x := zb_if True x
theorem zfS_le (b : Bool) : zfS b ≤ 1024 := by cases b <;> decide
theorem zfP_eq (b : Bool) : zfP b = 5 * zfS b := by cases b <;> rfl
/-- row r of shelf b holds the n words w -/
def zRow (b : Bool) (s : zq_S) (r n : Nat) (w : Nat → Nat) : Prop :=
  zA s (zf b + 2) r = nI n ∧ n ≤ 40 ∧ (∀ k, k < n → w k < 100) ∧ zRw (fun q => zL s (zf b + 1) (5 * r + q)) n w
theorem zn_mul5 (r : Nat) : nI r * 5 = nI (5 * r) := by
  rw [show (5 : Int32) = nI 5 from rfl, nI_mul, Nat.mul_comm]
theorem zn_sh3 {k : Nat} (h : k < 2 ^ 31) : nI k >>> ((3 : Int32) &&& 31) = nI (k / 8) := zn_shr (j := 3) h (by decide)
theorem zn_and7 {k : Nat} : nI k &&& 7 = nI (k % 8) := by
  rw [show (7 : Int32) = nI 7 from rfl, zn_and, show (7 : Nat) = 2 ^ 3 - 1 from rfl, Nat.and_two_pow_sub_one_eq_mod]
theorem zn_mul8 (r : Nat) : 8 * nI r = nI (8 * r) := by
  rw [show (8 : Int32) = nI 8 from rfl, nI_mul]
theorem nI_nneg {j : Nat} (h : j < 2 ^ 31) : ¬ nI j < 0 := by
  rw [show (0 : Int32) = nI 0 from rfl, nI_ltI h (by decide)]; omega
theorem nI_nm1 {j : Nat} (h : j < 2 ^ 31) : ¬ nI j = -1 := by
  intro e
  have := nI_nneg h
  rw [e] at this
  exact this (by decide)
theorem mX8_isMade_in (N : Nat) {b : Bool} {s : zq_S} (hF : zgf s (zf b) 0 = nI (zfS b)) {r : Nat} (hr : r < zfS b) :
    mX8_isMade N b (nI r) s = some (if zA s (zf b + 2) r = -1 then 0 else 1, s) := by
  have := zfS_le b
  unfold mX8_isMade
  rw [if_neg (nI_nneg (by omega)), hF, if_neg (by rw [nI_leI (by omega) (by omega)]; omega), zck_nI hr (by omega), zga_nI _ _ (by omega)]
  split
  · unfold jX8_isMade_j26 jX8_isMade_j27; exact zb_0 _
  · unfold jX8_isMade_j27; exact zb_1 _
theorem mX8_isMade_out (N : Nat) {b : Bool} {s : zq_S} (hF : zgf s (zf b) 0 = nI (zfS b)) {p : Int32} (h : p < 0 ∨ nI (zfS b) ≤ p) :
    mX8_isMade N b p s = some (0, s) := by
  unfold mX8_isMade
  have e : jX8_isMade_j26 N b s = some (0, s) := by
    unfold jX8_isMade_j26 jX8_isMade_j27; exact zb_0 _
  rw [hF, e]
  by_cases q : p < 0
  · rw [if_pos q]
  · rw [if_neg q, if_pos (h.resolve_left q)]
theorem mX8_isMade_row (N : Nat) {b : Bool} {s : zq_S} (hF : zgf s (zf b) 0 = nI (zfS b)) {r n : Nat} {w : Nat → Nat} (hr : r < zfS b) (h : zRow b s r n w) :
    mX8_isMade N b (nI r) s = some (1, s) := by
  rw [mX8_isMade_in N hF hr, h.1, if_neg (nI_nm1 (by have := h.2.1; omega))]
theorem mX8_sizeOf_row (N : Nat) {b : Bool} {s : zq_S} (hF : zgf s (zf b) 0 = nI (zfS b)) {r n : Nat} {w : Nat → Nat} (hr : r < zfS b) (h : zRow b s r n w) :
    mX8_sizeOf N b (nI r) s = some (nI n, s) := by
  have := zfS_le b
  unfold mX8_sizeOf
  rw [mX8_isMade_row N hF hr h]
  unfold zq_b2
  dsimp only
  rw [if_neg (by decide), zck_nI hr (by omega), zga_nI _ _ (by omega), h.1]
  rfl
theorem mX8_wordAt_row (N : Nat) {b : Bool} {s : zq_S} (hF : zgf s (zf b) 0 = nI (zfS b)) {r n : Nat} {w : Nat → Nat} (hr : r < zfS b) (h : zRow b s r n w) {k : Nat} (hk : k < n) :
    mX8_wordAt N b (nI r) (nI k) s = some (nI (w k), s) := by
  have := zfS_le b
  have hP := zfP_eq b
  have hn := h.2.1
  unfold mX8_wordAt
  rw [mX8_isMade_row N hF hr h]
  unfold zq_b2
  dsimp only
  rw [if_neg (by decide), if_neg (nI_nneg (by omega)), zck_nI hr (by omega), zga_nI _ _ (by omega), h.1, if_pos (by rw [nI_ltI (by omega) (by omega)]; exact hk),
    zn_mul5, zn_sh3 (by omega), nI_add, zck_nI (by omega) (by omega), zgl_nI _ _ (by omega), zn_and7, zn_mul8]
  rw [zRw_get h.2.2.2 hk hn (by have := h.2.2.1 k hk; omega)]
/-- the longs of row r are f -/
def zrs (r : Nat) (f : Nat → Int64) (o : Nat → Int64) : Nat → Int64 := fun m => if 5 * r ≤ m ∧ m < 5 * r + 5 then f (m - 5 * r) else o m
/-- row r made anew: longs f, size v -/
def zrw (b : Bool) (r : Nat) (f : Nat → Int64) (v : Int32) (s : zq_S) : zq_S :=
  zsA (zsL s (zf b + 1) (zrs r f (zL s (zf b + 1)))) (zf b + 2) (upd (zA s (zf b + 2)) r v)
theorem mX8_clear_eq (N : Nat) (hN : 5000 ≤ N) {b : Bool} {s : zq_S} (hF : zgf s (zf b) 0 = nI (zfS b)) {r : Nat} (hr : r < zfS b) :
    mX8_clear N b (nI r) s = some ((), zrw b r (fun _ => 0) 0 s) := by
  have := zfS_le b
  have hP := zfP_eq b
  unfold mX8_clear
  rw [if_neg (nI_nneg (by omega)), hF, if_pos (by rw [nI_ltI (by omega) (by omega)]; exact hr)]
  have e0 : ((0 : Int32), s) = (nI 0, zsL s (zf b + 1) (fun m => if 5 * r ≤ m ∧ m < 5 * r + 0 then 0 else zL s (zf b + 1) m)) := by
    have : (fun m => if 5 * r ≤ m ∧ m < 5 * r + 0 then 0 else zL s (zf b + 1) m) = zL s (zf b + 1) := by
      funext m; rw [if_neg (by omega)]
    rw [this, zsL_same]; rfl
  rw [e0]
  refine zq_up 5 (fun j => (nI j, zsL s (zf b + 1) (fun m => if 5 * r ≤ m ∧ m < 5 * r + j then 0 else zL s (zf b + 1) m))) ?_ ?_ N 0 (by omega) (by omega)
  · intro self
    dsimp only [bX8_clear_15, zq_let]
    rw [if_pos (by decide), zck_nI hr (by omega), show (zpa _ _ (nI r) 0) = _ from zpa_nI _ _ (by omega) _]
    rfl
  · intro self j hj
    dsimp only [bX8_clear_15, zq_let]
    rw [if_neg (by rw [show (5 : Int32) = nI 5 from rfl, nI_leI (by omega) (by omega)]; omega), zn_mul5, nI_add, zck_nI (by omega) (by omega), zpl_nI _ _ (by omega), zL_self, zsL_sL, nI_1]
    congr 3
    funext m
    unfold vp_updL
    dsimp only
    by_cases q : m = 5 * r + j
    · rw [if_pos q, if_pos (by omega)]
    · rw [if_neg q]
      by_cases q2 : 5 * r ≤ m ∧ m < 5 * r + j
      · rw [if_pos q2, if_pos (by omega)]
      · rw [if_neg q2, if_neg (by omega)]
theorem zrw_row {b : Bool} {r n : Nat} {w : Nat → Nat} {f : Nat → Int64} {s : zq_S} (hn : n ≤ 40) (hw : ∀ k, k < n → w k < 100) (h : zRw f n w) :
    zRow b (zrw b r f (nI n) s) r n w := by
  refine ⟨?_, hn, hw, ?_⟩
  · unfold zrw; rw [zA_self]; unfold upd; rw [if_pos rfl]
  · intro q hq i hi
    have e : zL (zrw b r f (nI n) s) (zf b + 1) (5 * r + q) = f q := by
      unfold zrw
      rw [zL_sA, zL_self]
      unfold zrs
      rw [if_pos (by omega), Nat.add_sub_cancel_left]
    dsimp only
    rw [e]
    exact h q hq i hi
theorem zrw_other {b : Bool} {r r2 n : Nat} {w : Nat → Nat} {f : Nat → Int64} {v : Int32} {s : zq_S} (hne : r2 ≠ r) (h : zRow b s r2 n w) :
    zRow b (zrw b r f v s) r2 n w := by
  refine ⟨?_, h.2.1, h.2.2.1, ?_⟩
  · unfold zrw; rw [zA_self]; unfold upd; rw [if_neg hne]; exact h.1
  · intro q hq i hi
    have e : zL (zrw b r f v s) (zf b + 1) (5 * r2 + q) = zL s (zf b + 1) (5 * r2 + q) := by
      unfold zrw
      rw [zL_sA, zL_self]
      unfold zrs
      rw [if_neg (by omega)]
    dsimp only
    rw [e]
    exact h.2.2.2 q hq i hi
theorem zrw_rw (b : Bool) (r : Nat) (f g : Nat → Int64) (u v : Int32) (s : zq_S) : zrw b r g v (zrw b r f u s) = zrw b r g v s := by
  unfold zrw
  rw [zL_sA, zL_self, zA_self, zsA_sL, zsA_sA, zsA_sL, zsL_sL, zsA_sL]
  have e1 : zrs r g (zrs r f (zL s (zf b + 1))) = zrs r g (zL s (zf b + 1)) := by
    funext m; unfold zrs; split <;> rfl
  have e2 : upd (upd (zA s (zf b + 2)) r u) r v = upd (zA s (zf b + 2)) r v := by
    funext m; unfold upd; split <;> rfl
  rw [e1, e2]
/-- one word more in the longs -/
def zadd (f : Nat → Int64) (n v : Nat) : Nat → Int64 := fun q => if q = n / 8 then f (n / 8) ||| (Int32.toInt64 (nI v) <<< (Int32.toInt64 (nI (8 * (n % 8))) &&& 63)) else f q
/-- put on a row that was just made: with room the word is added -/
theorem mX8_put_eq (N : Nat) {b : Bool} {s : zq_S} (hF : zgf s (zf b) 0 = nI (zfS b)) {r n v : Nat} (hr : r < zfS b) (f : Nat → Int64) (hn : n < 40) :
    mX8_put N b (nI r) (nI v) (zrw b r f (nI n) s) = some ((), zrw b r (zadd f n v) (nI (n + 1)) s) := by
  have := zfS_le b
  have hP := zfP_eq b
  have hF2 : zgf (zrw b r f (nI n) s) (zf b) 0 = nI (zfS b) := hF
  have hA : zA (zrw b r f (nI n) s) (zf b + 2) r = nI n := by unfold zrw; rw [zA_self]; unfold upd; rw [if_pos rfl]
  unfold mX8_put
  rw [if_neg (nI_nneg (by omega)), hF2, if_neg (by rw [nI_leI (by omega) (by omega)]; omega), zck_nI hr (by omega), zga_nI _ _ (by omega), hA,
    if_neg (nI_nneg (by omega)), zck_nI hr (by omega), if_neg (by rw [show (40 : Int32) = nI 40 from rfl, nI_leI (by omega) (by omega)]; omega), zck_nI hr (by omega)]
  dsimp only [zq_let]
  rw [zn_mul5, zn_sh3 (by omega), nI_add, zck_nI (by omega) (by omega), zck_nI (by omega) (by omega), zck_nI hr (by omega), zgl_nI _ _ (by omega), zpl_nI _ _ (by omega), zpa_nI _ _ (by omega), zA_sL, zn_and7, zn_mul8, nI_1]
  unfold jX8_put_j73
  rw [← zrw_rw b r f (zadd f n v) (nI n) (nI (n + 1)) s]
  congr 2
  conv => rhs; unfold zrw
  congr 2
  funext m
  have e : ∀ q, q < 5 → zL (zrw b r f (nI n) s) (zf b + 1) (5 * r + q) = f q := by
    intro q hq
    unfold zrw
    rw [zL_sA, zL_self]
    unfold zrs
    rw [if_pos (by omega), Nat.add_sub_cancel_left]
  unfold vp_updL zrs zadd
  rw [e _ (by omega)]
  by_cases q : m = 5 * r + n / 8
  · rw [if_pos q, if_pos (by omega), if_pos (by omega)]
  · rw [if_neg q]
    by_cases q2 : 5 * r ≤ m ∧ m < 5 * r + 5
    · rw [if_pos q2, if_neg (by omega)]
      have := e (m - 5 * r) (by omega)
      rw [show 5 * r + (m - 5 * r) = m by omega] at this
      exact this
    · rw [if_neg q2]
      rfl
/-- a full row takes no more -/
theorem mX8_put_full (N : Nat) {b : Bool} {s : zq_S} (hF : zgf s (zf b) 0 = nI (zfS b)) {r : Nat} (p : Int32) (hr : r < zfS b) (f : Nat → Int64) :
    mX8_put N b (nI r) p (zrw b r f (nI 40) s) = some ((), zrw b r f (nI 40) s) := by
  have := zfS_le b
  have hF2 : zgf (zrw b r f (nI 40) s) (zf b) 0 = nI (zfS b) := hF
  have hA : zA (zrw b r f (nI 40) s) (zf b + 2) r = nI 40 := by unfold zrw; rw [zA_self]; unfold upd; rw [if_pos rfl]
  unfold mX8_put
  rw [if_neg (nI_nneg (by omega)), hF2, if_neg (by rw [nI_leI (by omega) (by omega)]; omega), zck_nI hr (by omega), zga_nI _ _ (by omega), hA,
    if_neg (nI_nneg (by omega)), zck_nI hr (by omega), if_pos (by decide)]
  rfl
def zsame (f g : Nat → Int64) : Nat → Bool
  | 0 => true
  | j + 1 => zsame f g j && decide (lg_cmp (f j) (g j) = 0)
theorem zsame_iff (f g : Nat → Int64) : ∀ j, zsame f g j = true ↔ ∀ q, q < j → f q = g q := by
  intro j
  induction j with
  | zero => exact ⟨fun _ q h => absurd h (Nat.not_lt_zero _), fun _ => rfl⟩
  | succ j ih =>
    unfold zsame
    rw [Bool.and_eq_true, ih, decide_eq_true_eq, lgc_eq]
    constructor
    · intro h q hq
      by_cases e : q = j
      · rw [e]; exact h.2
      · exact h.1 q (by omega)
    · intro h
      exact ⟨fun q hq => h q (by omega), h j (by omega)⟩
theorem mX8_isAlike_eq (N : Nat) (hN : 5000 ≤ N) {b c : Bool} {s : zq_S} (hF : zgf s (zf b) 0 = nI (zfS b)) (hG : zgf s (zf c) 0 = nI (zfS c)) {r n t k : Nat} {w u : Nat → Nat}
    (hr : r < zfS b) (h : zRow b s r n w) (ht : t < zfS c) (h2 : zRow c s t k u) :
    mX8_isAlike N b c (nI r) (nI t) s = some (if n = k ∧ ∀ i, i < n → w i = u i then 1 else 0, s) := by
  have := zfS_le b
  have := zfS_le c
  have hP := zfP_eq b
  have hQ := zfP_eq c
  have hn := h.2.1
  have hk := h2.2.1
  unfold mX8_isAlike
  rw [mX8_isMade_row N hF hr h]
  unfold zq_b2
  dsimp only
  rw [if_neg (by decide), mX8_isMade_row N hG ht h2]
  dsimp only
  rw [if_neg (by decide), zck_nI hr (by omega), zck_nI ht (by omega), zga_nI _ _ (by omega), zga_nI _ _ (by omega), h.1, h2.1]
  by_cases q : n = k
  · subst q
    rw [if_pos rfl]
    have key := zRw_ext h.2.2.2 h2.2.2.2 hn (fun i hi => by have := h.2.2.1 i hi; omega) (fun i hi => by have := h2.2.2.1 i hi; omega)
    refine Eq.trans (zq_srch (rf := some (1, s)) (rx := some (0, s)) 5 (fun j => (nI j, s)) (zsame (fun q => zL s (zf b + 1) (5 * r + q)) (fun q => zL s (zf c + 1) (5 * t + q))) ?_ ?_ ?_ N 0 (by omega) (by omega) rfl) ?_
    · intro self _
      dsimp only [bX8_isAlike_36]
      rw [if_pos (by decide)]
    · intro self j hj hz
      dsimp only [bX8_isAlike_36, zq_let]
      rw [if_neg (by rw [show (5 : Int32) = nI 5 from rfl, nI_leI (by omega) (by omega)]; omega), zn_mul5, nI_add, zn_mul5, nI_add, zck_nI (by omega) (by omega), zck_nI (by omega) (by omega), zgl_nI _ _ (by omega), zgl_nI _ _ (by omega), nI_1]
      conv => rhs; unfold zsame
      rw [hz, Bool.true_and]
      simp only [decide_eq_true_eq]
    · intro j hj hz
      unfold zsame
      rw [hz, Bool.false_and]
    · by_cases z : ∀ i, i < n → w i = u i
      · rw [if_pos ((zsame_iff _ _ _).mpr (key.mpr z)), if_pos ⟨rfl, z⟩]
      · rw [if_neg (fun e => z (key.mp ((zsame_iff _ _ _).mp e))), if_neg (fun e => z e.2)]
  · rw [if_neg (by rw [nI_eq (by omega) (by omega)]; exact q), if_neg (fun e => q e.1)]
    rfl
