/-! the reference: findMarks -/
theorem mX12_setMark_w (N : Nat) {s : zq_S} {m : Nat} (hm : m < 10) (k f d : Int32) : zw (mX12_setMark N (nI m) k f d s) (fun v => zfr [] [62, 64, 67] [] s v.2 ∧
    (∀ j, zA v.2 62 j = if j = m then k else zA s 62 j) ∧ (∀ j, zA v.2 67 j = if j = m then d else zA s 67 j) ∧ (∀ j, zA v.2 64 j = if j = m then zA s 64 m ||| f else zA s 64 j)) := by
  unfold mX12_setMark
  dsimp only [zq_let]
  rw [zck_nI hm (by decide), zck_nI hm (by decide), zck_nI hm (by decide), zck_nI hm (by decide)]
  simp (disch := omega) only [zpa_eq, nI_clamp, zga_nI]
  refine zw_some.2 ⟨((zfr_sA _ _ (by simp)).tr (zfr_sA _ _ (by simp))).tr (zfr_sA _ _ (by simp)), fun j => ?_, fun j => ?_, fun j => ?_⟩
  · simp [zA_sA, upd]
  · simp [zA_sA, upd]
  · simp [zA_sA, upd]
def pzwc (R : List zIt) (a : Nat) : Nat → Nat
  | 0 => 0
  | j + 1 => pzwc R a j + (if (pzat R (a + j)).sg = 0 ∨ (pzat R (a + j)).sg = 8 ∨ (pzat R (a + j)).sg = 9 then 1 else 0)
theorem pzwc_eq {R : List zIt} {a : Nat} : ∀ j, a + j ≤ R.length → pzwn (pzpre R (a + j)) = pzwn (pzpre R a) + pzwc R a j := by
  intro j
  induction j with
  | zero => intro _; rfl
  | succ j ih =>
    intro h
    rw [← Nat.add_assoc, pzpre_s R (a + j) (by omega), pzwn, ih (by omega), pzwc, Nat.add_assoc]
theorem pzwc_le (R : List zIt) (a : Nat) : ∀ j, pzwc R a j ≤ j := by
  intro j
  induction j with
  | zero => exact Nat.le_refl _
  | succ j ih => rw [pzwc]; split <;> omega
theorem mX12_wordsIn_eq (N : Nat) (hN : 5000 ≤ N) {R : List zIt} {s : zq_S} (hV : pzV R) (h58 : ∀ k, k < R.length → zA s 58 k = zkd2 (pzat R k).sg) {a b : Nat} (hab : a ≤ b) (hb : b ≤ R.length) : mX12_wordsIn N (nI a) (nI b) s = some (nI (pzwc R a (b - a)), s) := by
  have hlen := pz_len hV
  unfold mX12_wordsIn
  refine zq_up (b := bX12_wordsIn_5 N (nI b)) (b - a) (fun j => (nI (pzwc R a j), nI (a + j), s)) (fun self => ?_) (fun self j hj => ?_) N 0 (Nat.zero_le _) (by omega)
  · dsimp only [bX12_wordsIn_5]
    rw [if_pos (nI_le (by omega) (by omega))]
  · dsimp only [bX12_wordsIn_5]
    have hck : ∀ (c : Option (Int32 × zq_S)), zq_ck (nI (a + j)) 400 c = c := fun c => zck_nI (by omega) (by decide) c
    have hga : zga s 58 (nI (a + j)) = zkd2 (pzat R (a + j)).sg := by rw [zga_nI _ _ (by omega), h58 _ (by omega)]
    obtain ⟨z0, z1, z2, z3, z4, z5, z6, z7⟩ := zkd2_c (pzat R (a + j)).sg (by have := (pzV_at hV (show a + j < R.length by omega)).1.1; omega)
    rw [if_neg (show ¬ nI b ≤ nI (a + j) by rw [nI_leI (by omega) (by omega)]; omega)]
    simp only [hck, hga]
    unfold jX12_wordsIn_j46 jX12_wordsIn_j51
    dsimp only [zq_let]
    by_cases w0 : (pzat R (a + j)).sg = 0
    · rw [if_pos (z0.2 w0), nI_1, nI_1, pzwc, if_pos (Or.inl w0)]; rfl
    rw [if_neg (fun y => w0 (z0.1 y))]
    by_cases w8 : (pzat R (a + j)).sg = 8
    · rw [if_pos (z6.2 w8), nI_1, nI_1, pzwc, if_pos (Or.inr (Or.inl w8))]; rfl
    rw [if_neg (fun y => w8 (z6.1 y))]
    by_cases w9 : (pzat R (a + j)).sg = 9
    · rw [if_pos (z7.2 w9), nI_1, nI_1, pzwc, if_pos (Or.inr (Or.inr w9))]; rfl
    · rw [if_neg (fun y => w9 (z7.1 y)), nI_1, pzwc, if_neg (fun y => y.elim w0 (fun y => y.elim w8 w9)), Int32.add_zero]; rfl
/-- the rows of mark m, where the items P are passed -/
def pzFm (R P : List zIt) (n : Nat) (t : zq_S) (m : Nat) : Prop :=
  (m < n → zA t 64 m = nI (pzba P m)) ∧ ((pzmk P).testBit m = true → zA t 62 m = nI (pzkd P m) ∧ zA t 67 m = nI (pzdp P m) ∧ zA t 66 m = nI (pzns R m)) ∧ ((pzmv P).testBit m = true → zA t 68 m = nI (pzop P m))
theorem pzFm_flat {R P : List zIt} {n : Nat} {x : zIt} {t : zq_S} {m : Nat} (hx : x.sg = 0 ∨ x.sg = 8 ∨ x.sg = 10 ∨ (4 ≤ x.sg ∧ x.sg ≤ 6)) (h : pzFm R P n t m) : pzFm R (x :: P) n t m := by
  have nt : ¬ pztl x m := by rintro (y | y) <;> omega
  unfold pzFm
  rw [pzba_n P nt (by omega), pzkd_n P nt, pzdp_n P nt, pzop_n P (by omega), pzmk_n P (by omega), pzmv_n P (by omega)]
  exact h
theorem pzFm_star {R P : List zIt} {n : Nat} {x : zIt} {s t : zq_S} {m : Nat} (x1 : x.sg = 7) (h : pzFm R P n s m)
    (e64 : zA t 64 m = if m = x.mk then zA s 64 m ||| nI (pzar P) else zA s 64 m) (e62 : zA t 62 m = zA s 62 m) (e66 : zA t 66 m = zA s 66 m) (e67 : zA t 67 m = zA s 67 m) (e68 : zA t 68 m = zA s 68 m) : pzFm R (x :: P) n t m := by
  have nt : ¬ pztl x m := by rintro (y | y) <;> omega
  obtain ⟨a1, a2, a3⟩ := h
  unfold pzFm
  rw [pzkd_n P nt, pzdp_n P nt, pzop_n P (by omega), pzmk_n P (by omega), pzmv_n P (by omega), e62, e66, e67, e68]
  refine ⟨fun hm => ?_, a2, a3⟩
  rw [e64, a1 hm, pzba, if_neg (show ¬ (x.sg = 2 ∧ x.sd = m + 1) by omega), if_neg (show ¬ (x.sg = 9 ∧ x.mk = m) by omega), Nat.or_zero, Nat.or_zero]
  by_cases y : m = x.mk
  · rw [if_pos y, if_pos (show pztl x m ∨ (x.sg = 7 ∧ x.mk = m) from Or.inr ⟨x1, y.symm⟩), zn_or]
  · rw [if_neg y, if_neg (show ¬ (pztl x m ∨ (x.sg = 7 ∧ x.mk = m)) from fun v => v.elim nt (fun v => y v.2.symm)), Nat.or_zero]
theorem pzFm_over {R P : List zIt} {n : Nat} {x : zIt} {s t : zq_S} {m : Nat} (x1 : x.sg = 9) (hns : pzns R x.mk = 1) (h : pzFm R P n s m)
    (e64 : zA t 64 m = if m = x.mk then zA s 64 m ||| nI (pzar P ||| pzlr P) else zA s 64 m) (e62 : zA t 62 m = if m = x.mk then 4 else zA s 62 m) (e66 : zA t 66 m = if m = x.mk then 1 else zA s 66 m) (e67 : zA t 67 m = if m = x.mk then nI (pzstk P).length else zA s 67 m) (e68 : zA t 68 m = zA s 68 m) : pzFm R (x :: P) n t m := by
  obtain ⟨a1, a2, a3⟩ := h
  have tt : pztl x m ↔ m = x.mk := by
    constructor
    · rintro (w | w) <;> omega
    · intro w; exact Or.inl ⟨Or.inr x1, w.symm⟩
  unfold pzFm
  rw [pzop_n P (by omega), pzmv_n P (by omega), e68]
  refine ⟨fun hm => ?_, fun hm => ?_, a3⟩
  · rw [e64, a1 hm, pzba, if_neg (show ¬ (x.sg = 2 ∧ x.sd = m + 1) by omega), Nat.or_zero]
    by_cases y : m = x.mk
    · rw [if_pos y, if_pos (show pztl x m ∨ (x.sg = 7 ∧ x.mk = m) from Or.inl (tt.2 y)), if_pos (show x.sg = 9 ∧ x.mk = m from ⟨x1, y.symm⟩), zn_or, Nat.or_assoc]
    · rw [if_neg y, if_neg (show ¬ (pztl x m ∨ (x.sg = 7 ∧ x.mk = m)) from fun v => v.elim (fun v => y (tt.1 v)) (fun v => by omega)), if_neg (show ¬ (x.sg = 9 ∧ x.mk = m) from fun v => y v.2.symm), Nat.or_zero, Nat.or_zero]
  · by_cases y : m = x.mk
    · rw [e62, e66, e67, if_pos y, if_pos y, if_pos y, pzkd, if_neg (show ¬ (x.sg = 2 ∧ x.sd = m + 1) by omega), if_pos (tt.2 y), pzdp, if_pos (tt.2 y), if_neg (show ¬ x.sg = 1 by omega), if_neg (show ¬ x.sg = 2 by omega), if_neg (show ¬ x.sg = 3 by omega), y, hns]
      exact ⟨rfl, rfl, rfl⟩
    · rw [pzmk_t, decide_eq_false (fun v => y (tt.1 v)), Bool.or_false] at hm
      rw [e62, e66, e67, if_neg y, if_neg y, if_neg y, pzkd_n P (fun v => y (tt.1 v)), pzdp_n P (fun v => y (tt.1 v))]
      exact a2 hm
theorem pzFm_open {R P : List zIt} {n : Nat} {x : zIt} {s t : zq_S} {m : Nat} (hx : pzok P x) (x1 : 1 ≤ x.sg ∧ x.sg ≤ 3) (hns : ∀ m, pztl x m → zA t 66 m = nI (pzns R m)) (h : pzFm R P n s m)
    (e64 : zA t 64 m = if x.sd = m + 1 then zA s 64 m ||| nI (pzar P ||| 2 ^ x.mk) else if m = x.mk then zA s 64 m ||| nI (pzar P) else zA s 64 m)
    (e62 : zA t 62 m = if x.sd = m + 1 then 2 else if m = x.mk then (if x.sg = 1 then 0 else if x.sg = 2 then 1 else 3) else zA s 62 m)
    (e66 : ¬ pztl x m → zA t 66 m = zA s 66 m) (e67 : zA t 67 m = if pztl x m then nI (pzstk P).length else zA s 67 m) (e68 : zA t 68 m = if m = x.mk then nI P.length else zA s 68 m) : pzFm R (x :: P) n t m := by
  obtain ⟨a1, a2, a3⟩ := h
  have s2 : x.sd = m + 1 → x.sg = 2 := fun y => Classical.byContradiction (fun z => by have := hx.1.2.2.2.2 z; omega)
  have hne : x.sd = m + 1 → m ≠ x.mk := fun y => by
    have := ((hx.2.2.1 x1).2.2 (by omega)).1
    omega
  have tt : pztl x m ↔ (x.sd = m + 1 ∨ m = x.mk) := by
    constructor
    · rintro (w | w)
      · exact Or.inr w.2.symm
      · exact Or.inl w.2
    · rintro (w | w)
      · exact Or.inr ⟨s2 w, w⟩
      · exact Or.inl ⟨Or.inl x1, w.symm⟩
  have fresh : pztl x m → (pzmk P).testBit m = false := fun y => pz_fresh hx y
  unfold pzFm
  refine ⟨fun hm => ?_, fun hm => ?_, fun hm => ?_⟩
  · rw [e64, a1 hm, pzba, if_neg (show ¬ (x.sg = 9 ∧ x.mk = m) by omega), Nat.or_zero]
    by_cases y : x.sd = m + 1
    · rw [if_pos y, if_pos (show pztl x m ∨ (x.sg = 7 ∧ x.mk = m) from Or.inl (tt.2 (Or.inl y))), if_pos (show x.sg = 2 ∧ x.sd = m + 1 from ⟨s2 y, y⟩), zn_or, Nat.or_assoc]
    · rw [if_neg y, if_neg (show ¬ (x.sg = 2 ∧ x.sd = m + 1) from fun v => y v.2), Nat.or_zero]
      by_cases z : m = x.mk
      · rw [if_pos z, if_pos (show pztl x m ∨ (x.sg = 7 ∧ x.mk = m) from Or.inl (tt.2 (Or.inr z))), zn_or]
      · rw [if_neg z, if_neg (show ¬ (pztl x m ∨ (x.sg = 7 ∧ x.mk = m)) from fun v => v.elim (fun v => (tt.1 v).elim y z) (fun v => by omega)), Nat.or_zero]
  · by_cases w : pztl x m
    · rw [hns m w, e67, if_pos w, e62, pzdp, if_pos w, pzkd]
      refine ⟨?_, rfl, rfl⟩
      by_cases y : x.sd = m + 1
      · rw [if_pos y, if_pos (show x.sg = 2 ∧ x.sd = m + 1 from ⟨s2 y, y⟩)]; rfl
      · have z : m = x.mk := (tt.1 w).elim (fun v => absurd v y) id
        rw [if_neg y, if_pos z, if_neg (show ¬ (x.sg = 2 ∧ x.sd = m + 1) from fun v => y v.2), if_pos w]
        rcases (show x.sg = 1 ∨ x.sg = 2 ∨ x.sg = 3 by omega) with v | v | v <;> rw [v] <;> rfl
    · rw [pzmk_t, decide_eq_false w, Bool.or_false] at hm
      have w1 : ¬ x.sd = m + 1 := fun y => w (tt.2 (Or.inl y))
      have w2 : ¬ m = x.mk := fun y => w (tt.2 (Or.inr y))
      rw [e62, e66 w, e67, if_neg w, if_neg w1, if_neg w2, pzkd_n P w, pzdp_n P w]
      exact a2 hm
  · rw [e68]
    by_cases y : m = x.mk
    · rw [if_pos y, pzop]
      by_cases v : x.sg = 3
      · rw [if_pos (show x.sg = 3 ∧ x.mk = m from ⟨v, y.symm⟩)]
      · rw [pzmv_n P v] at hm
        have := fresh (tt.2 (Or.inr y))
        rw [pzmv_mk hm] at this
        cases this
    · rw [if_neg y, pzop, if_neg (show ¬ (x.sg = 3 ∧ x.mk = m) from fun v => y v.2.symm)]
      rw [pzmv_s, decide_eq_false (show ¬ (x.sg = 3 ∧ x.mk = m) from fun v => y v.2.symm), Bool.or_false] at hm
      exact a3 hm
