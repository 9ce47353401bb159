/-! the reference's text of a set -/
def zhs (ws : List Nat) : Int64 := ws.foldl (fun h x => h * (1000003 : Int64) + Int32.toInt64 (nI x) + (1 : Int64)) 0
theorem zhs_app (ws : List Nat) (x : Nat) : zhs (ws ++ [x]) = zhs ws * (1000003 : Int64) + Int32.toInt64 (nI x) + (1 : Int64) := by
  unfold zhs; rw [List.foldl_append]; rfl
/-- words from place a on -/
def zwa (a : Nat) (ws : List Nat) (o : Nat → Int32) : Nat → Int32 := fun m => if a ≤ m ∧ m < a + ws.length then nI (zgt ws (m - a)) else o m
theorem zwa_app (a : Nat) (ws : List Nat) (x : Nat) (o : Nat → Int32) : upd (zwa a ws o) (a + ws.length) (nI x) = zwa a (ws ++ [x]) o := by
  funext m
  unfold upd zwa
  rw [List.length_append]
  by_cases q : m = a + ws.length
  · rw [if_pos q, if_pos (by simp; omega), q, Nat.add_sub_cancel_left]
    congr 1
    unfold zgt; simp [List.getD]
  · rw [if_neg q]
    by_cases q2 : a ≤ m ∧ m < a + ws.length
    · rw [if_pos q2, if_pos (by simp; omega)]
      congr 1
      unfold zgt
      simp [List.getD, List.getElem?_append_left (show m - a < ws.length by omega)]
    · rw [if_neg q2, if_neg (by simp; omega)]
theorem zwa_nil (a : Nat) (o : Nat → Int32) : zwa a [] o = o := by
  funext m; unfold zwa; rw [if_neg (by simp)]
/-- the reference's state with the words ws for the set S -/
def zMt (S : Nat) (ws : List Nat) (s : zq_S) : zq_S :=
  zsL (zsA (zsA s 84 (upd (zA s 84) S (nI ws.length))) 85 (zwa (40 * S) ws (zA s 85))) 86 (vp_updL (zL s 86) S (zhs ws))
theorem zMt_84 (S : Nat) (ws : List Nat) (s : zq_S) : zA (zMt S ws s) 84 = upd (zA s 84) S (nI ws.length) := by
  unfold zMt; rw [zA_sL, zA_ne _ (by decide), zA_self]
theorem zMt_85 (S : Nat) (ws : List Nat) (s : zq_S) : zA (zMt S ws s) 85 = zwa (40 * S) ws (zA s 85) := by
  unfold zMt; rw [zA_sL, zA_self]
theorem zMt_86 (S : Nat) (ws : List Nat) (s : zq_S) : zL (zMt S ws s) 86 = vp_updL (zL s 86) S (zhs ws) := by
  unfold zMt; rw [zL_self]
theorem zMt_A {k : Nat} (S : Nat) (ws : List Nat) (s : zq_S) (h : k ≠ 84) (h2 : k ≠ 85) : zA (zMt S ws s) k = zA s k := by
  unfold zMt; rw [zA_sL, zA_ne _ h2, zA_ne _ h]
theorem zMt_L {k : Nat} (S : Nat) (ws : List Nat) (s : zq_S) (h : k ≠ 86) : zL (zMt S ws s) k = zL s k := by
  unfold zMt; rw [zL_ne _ h]; rfl
theorem zMt_nil (S : Nat) (s : zq_S) : zMt S [] s = zsL (zsA s 84 (upd (zA s 84) S 0)) 86 (vp_updL (zL s 86) S 0) := by
  unfold zMt
  rw [zwa_nil]
  have : zsA (zsA s 84 (upd (zA s 84) S (nI (List.length ([] : List Nat))))) 85 (zA s 85) = zsA s 84 (upd (zA s 84) S 0) := by
    have e : zA s 85 = zA (zsA s 84 (upd (zA s 84) S (nI (List.length ([] : List Nat))))) 85 := by rw [zA_ne _ (by decide)]
    rw [e, zsA_same]; rfl
  rw [this]; rfl
theorem zn_40 (a : Nat) : 40 * nI a = nI (40 * a) := by rw [show (40 : Int32) = nI 40 from rfl, nI_mul]
theorem mX12_addWord_eq (N : Nat) {S x : Nat} {ws : List Nat} {s : zq_S} (hS : S < 1024) (hl : ws.length < 40) :
    mX12_addWord N (nI S) (nI x) (zMt S ws s) = some ((), zMt S (ws ++ [x]) s) := by
  have e84 : zA (zMt S ws s) 84 S = nI ws.length := by rw [zMt_84]; unfold upd; rw [if_pos rfl]
  have e86 : zL (zMt S ws s) 86 S = zhs ws := by rw [zMt_86]; unfold vp_updL; rw [if_pos rfl]
  unfold mX12_addWord
  rw [zck_nI hS (by decide), zga_nI _ _ (by omega), e84, zn_40, nI_add, zck_nI (by omega) (by decide)]
  dsimp only [zq_let]
  rw [zck_nI hS (by decide), zck_nI hS (by decide), zck_nI hS (by decide), zck_nI hS (by decide)]
  rw [zpa_nI _ 85 (by omega), zga_nI _ _ (by omega), zA_ne _ (by decide), e84, zpa_nI _ 84 (by omega), zgl_nI _ _ (by omega), zL_sA, zL_sA, e86, zpl_nI _ _ (by omega), zMt_85, zwa_app, zA_ne _ (by decide), zMt_84, nI_1, ← zhs_app, zL_sA, zL_sA, zMt_86]
  congr 2
  apply zs_ext
  · intro k j; rfl
  · intro i; rfl
  · intro k
    rw [zA_sL]
    by_cases q : k = 84
    · subst q
      rw [zA_self, zMt_84]
      funext m
      unfold upd
      rw [List.length_append]
      split <;> rfl
    · rw [zA_ne _ q]
      by_cases q2 : k = 85
      · subst q2; rw [zA_self, zMt_85]
      · rw [zA_ne _ q2, zMt_A _ _ _ q q2, zMt_A _ _ _ q q2]
  · intro k
    by_cases q : k = 86
    · subst q
      rw [zL_self, zMt_86]
      funext m
      unfold vp_updL
      split <;> rfl
    · rw [zL_ne _ q, zL_sA, zL_sA, zMt_L _ _ _ q, zMt_L _ _ _ q]
/-- rows: the open, marks alone up to the close; a row's items stand in rows alone -/
def zShR (T : zSh) : Prop :=
  (∀ p, p < T.n → T.sg p = 8 → p < T.lk p ∧ T.lk p < T.n ∧ T.sg (T.lk p) = 10 ∧ ∀ q, p < q → q < T.lk p → T.sg q = 9) ∧
  (∀ p, p + 1 < T.n → (T.sg (p + 1) = 9 ∨ T.sg (p + 1) = 10) → T.sg p = 8 ∨ T.sg p = 9) ∧ (0 < T.n → T.sg 0 ≠ 9 ∧ T.sg 0 ≠ 10)
/-- the word of a row behind its first i marks -/
def zro (T : zSh) (S p : Nat) : Nat → Nat
  | 0 => T.wd p
  | i + 1 => if S.testBit (T.mk (p + 1 + i)) then T.wd (p + 1 + i) else zro T S p i
theorem zsp_flat {T : zSh} {S p : Nat} (h : T.sg p = 0 ∨ T.sg p = 4 ∨ T.sg p = 5 ∨ 8 ≤ T.sg p) : zsp T S p = p + 1 := by
  unfold zsp
  rw [if_neg (by omega), if_neg (by omega), if_neg (by omega), if_neg (by omega), if_neg (by omega)]
theorem zwk_row {T : zSh} (hR : zShR T) {S t : Nat} (h : (zwk T S t).1 < T.n) (h8 : T.sg (zwk T S t).1 = 8) :
    ∀ i, (zwk T S t).1 + 1 + i ≤ T.lk (zwk T S t).1 → zwk T S (t + 1 + i) = ((zwk T S t).1 + 1 + i, zro T S (zwk T S t).1 i, (zwk T S t).2.2) := by
  obtain ⟨r1, r2, r3, r4⟩ := hR.1 _ h h8
  intro i
  induction i with
  | zero =>
    intro _
    show zwk T S (t + 1) = _
    rw [zwk_s h, zsp_flat (by omega)]
    unfold zov zws
    rw [if_pos (Or.inl h8), if_neg (by omega), if_neg (by omega)]
    rfl
  | succ i ih =>
    intro hi
    have e := ih (by omega)
    have g9 := r4 ((zwk T S t).1 + 1 + i) (by omega) (by omega)
    have e1 : (zwk T S (t + 1 + i)).1 = (zwk T S t).1 + 1 + i := by rw [e]
    show zwk T S (t + 1 + i + 1) = _
    rw [zwk_s (by rw [e1]; omega), e]
    dsimp only
    rw [zsp_flat (by omega)]
    unfold zov zws
    rw [if_neg (show ¬ T.sg ((zwk T S t).1 + 1 + i) = 0 by omega), if_neg (show ¬ T.sg ((zwk T S t).1 + 1 + i) = 10 by omega)]
    conv => rhs; unfold zro
    by_cases hb : S.testBit (T.mk ((zwk T S t).1 + 1 + i)) = true
    · rw [if_pos (Or.inr ⟨g9, hb⟩), if_pos hb]; rfl
    · rw [if_neg (by rintro (x | x)
                     · omega
                     · exact hb x.2), if_neg hb]; rfl
/-- the whole row at once -/
theorem zwk_rows {T : zSh} (hR : zShR T) {S t : Nat} (h : (zwk T S t).1 < T.n) (h8 : T.sg (zwk T S t).1 = 8) :
    ∃ u, t < u ∧ zwk T S u = (T.lk (zwk T S t).1 + 1, (zwk T S u).2.1, (zwk T S t).2.2 ++ [zro T S (zwk T S t).1 (T.lk (zwk T S t).1 - (zwk T S t).1 - 1)]) := by
  obtain ⟨r1, r2, r3, r4⟩ := hR.1 _ h h8
  have e := zwk_row hR h h8 (T.lk (zwk T S t).1 - (zwk T S t).1 - 1) (by omega)
  have e0 : (zwk T S t).1 + 1 + (T.lk (zwk T S t).1 - (zwk T S t).1 - 1) = T.lk (zwk T S t).1 := by omega
  rw [e0] at e
  refine ⟨t + 1 + (T.lk (zwk T S t).1 - (zwk T S t).1 - 1) + 1, by omega, ?_⟩
  rw [zwk_s (by rw [e]; exact r2), e]
  dsimp only
  rw [zsp_flat (by omega)]
  unfold zws
  rw [if_neg (by omega), if_pos r3]
