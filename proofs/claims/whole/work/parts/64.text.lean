/-! the reference's text of a set: rows, then all -/
def zkd (k : Nat) : Int32 := match k with
  | 0 => 0
  | 1 => 1
  | 2 => 2
  | 3 => 3
  | 4 => 4
  | 5 => 4
  | 6 => 4
  | 7 => 5
  | _ => 6
/-- the reference holds T -/
def zMS (s : zq_S) (T : zSh) : Prop :=
  zgf s 57 0 = nI T.n ∧
  (∀ p, p < T.n → T.sg p ≤ 10 ∧ (T.sg p ≤ 8 → zA s 58 p = zkd (T.sg p))) ∧
  (∀ p, p < T.n → (T.sg p = 1 ∨ T.sg p = 2 ∨ T.sg p = 3 ∨ T.sg p = 7) → T.mk p < 10 ∧ zA s 59 p = nI (T.mk p)) ∧
  (∀ p, p < T.n → (T.sg p = 0 ∨ T.sg p = 8 ∨ T.sg p = 9) → zA s 59 p = nI (T.wd p)) ∧
  (∀ p, p < T.n → T.sg p = 9 → T.mk p < 10 ∧ zA s 60 p = nI (T.mk p)) ∧
  (∀ p, p < T.n → (T.sg p = 1 ∨ T.sg p = 2 ∨ T.sg p = 3 ∨ T.sg p = 8) → zA s 61 p = nI (T.lk p)) ∧
  (∀ p, p < T.n → T.sg p = 7 → zA s 68 (T.mk p) = nI (T.op (T.mk p))) ∧
  (∀ p, p < T.n → T.sg p = 2 → (T.sd (T.mk p) = none ∧ zA s 60 p = -1) ∨ (∃ d, d < 10 ∧ T.sd (T.mk p) = some d ∧ zA s 60 p = nI d))
theorem zMS_Mt {s : zq_S} {T : zSh} {S : Nat} {ws : List Nat} (h : zMS s T) : zMS (zMt S ws s) T := by
  unfold zMS at h ⊢
  rw [zMt_A _ _ _ (by decide) (by decide), zMt_A _ _ _ (by decide) (by decide), zMt_A _ _ _ (by decide) (by decide), zMt_A _ _ _ (by decide) (by decide), zMt_A _ _ _ (by decide) (by decide)]
  exact h
theorem mX12_addRow_eq (N : Nat) (hN : 5000 ≤ N) {s : zq_S} {T : zSh} (hT : zShW T) (hR : zShR T) (hM : zMS s T) {S p : Nat} {ws : List Nat} (hS : S < 1024) (hp : p < T.n) (h8 : T.sg p = 8) (hl : ws.length < 40) :
    mX12_addRow N (nI S) (nI p) (zMt S ws s) = some ((), zMt S (ws ++ [zro T S p (T.lk p - p - 1)]) s) := by
  obtain ⟨x1, x2, x3, x4, x5, x6, x7, x8⟩ := zMS_Mt (S := S) (ws := ws) hM
  obtain ⟨r1, r2, r3, r4⟩ := hR.1 _ hp h8
  have hn := hT.n100
  unfold mX12_addRow
  rw [zck_nI (by omega) (by decide), zga_nI _ _ (by omega), x4 p hp (by omega)]
  dsimp only [zq_let]
  rw [nI_1]
  refine zq_up (T.lk p - p - 1) (fun i => (nI (zro T S p i), nI (p + 1 + i), zMt S ws s)) ?_ ?_ N 0 (by omega) (by omega)
  · intro self
    dsimp only [bX12_addRow_12]
    rw [zck_nI (by omega) (by decide), zga_nI _ _ (by omega), x6 p hp (by omega), if_pos (by rw [nI_leI (by omega) (by omega)]; omega), mX12_addWord_eq N hS hl]
    rfl
  · intro self i hi
    dsimp only [bX12_addRow_12]
    have g9 := r4 (p + 1 + i) (by omega) (by omega)
    obtain ⟨m1, m2⟩ := x5 (p + 1 + i) (by omega) g9
    rw [zck_nI (by omega) (by decide), zga_nI _ _ (by omega), x6 p hp (by omega), if_neg (by rw [nI_leI (by omega) (by omega)]; omega), zck_nI (by omega) (by decide), zga_nI _ _ (by omega), m2, mX12_has_eq N (by omega) (by omega)]
    unfold zq_b2
    dsimp only [jX12_addRow_j48, zq_let]
    rw [zck_nI (by omega) (by decide), zga_nI _ _ (by omega), x4 _ (by omega) (by omega), nI_1]
    conv => rhs; unfold zro
    by_cases hb : S.testBit (T.mk (p + 1 + i)) = true
    · rw [if_pos hb, if_neg (by decide), if_pos hb]; rfl
    · rw [if_neg hb, if_pos rfl, if_neg hb]; rfl
