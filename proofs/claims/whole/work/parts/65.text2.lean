/-! the reference's text of a set -/
theorem zstk_lk {T : zSh} (hT : zShW T) : ∀ p, p ≤ T.n → ∀ q, q ∈ T.stk p → (T.sg q = 1 ∨ T.sg q = 2 ∨ T.sg q = 3) ∧ p ≤ T.lk q := by
  intro p
  induction p with
  | zero => intro _ q hq; rw [hT.top] at hq; cases hq
  | succ p ih =>
    intro hp q hq
    by_cases o : T.sg p = 1 ∨ T.sg p = 2 ∨ T.sg p = 3
    · obtain ⟨a, b, c, d, e⟩ := hT.opn p (by omega) o
      rw [a] at hq
      rcases List.mem_cons.mp hq with x | x
      · subst x; exact ⟨o, by omega⟩
      · have i := ih (by omega) q x
        refine ⟨i.1, ?_⟩
        have hqp := hT.mem p (by omega) q x
        by_cases y : T.lk q = p
        · have := (hT.opn q (by omega) i.1).2.2.2.2
          rw [y] at this; omega
        · omega
    · by_cases k : T.sg p = 4 ∨ T.sg p = 5 ∨ T.sg p = 6
      · obtain ⟨r, r1, r2, r3, r4⟩ := hT.cls p (by omega) k
        have hq2 : q ∈ T.stk p := by rw [r1]; exact List.mem_cons_of_mem _ hq
        have i := ih (by omega) q hq2
        refine ⟨i.1, ?_⟩
        have hqp := hT.mem p (by omega) q hq2
        by_cases y : T.lk q = p
        · have z := (hT.opn q (by omega) i.1).2.2.2.1
          rw [y, r1] at z
          obtain ⟨z1, z2⟩ := List.cons.inj z
          rw [z2] at hq
          have := hT.mem q (by omega) q hq
          omega
        · omega
      · by_cases l : T.sg p = 0 ∨ 7 ≤ T.sg p
        · rw [hT.els p (by omega) l] at hq
          have i := ih (by omega) q hq
          refine ⟨i.1, ?_⟩
          have hqp := hT.mem p (by omega) q hq
          by_cases y : T.lk q = p
          · have := (hT.opn q (by omega) i.1).2.2.2.2
            rw [y] at this; omega
          · omega
        · omega
theorem zrk_walk {T : zSh} (hT : zShW T) {S t : Nat} (h : (zwk T S t).1 < T.n) : ∀ k, zrk T S (fun _ => true) (zwk T S t).1 + 1 ≤ zrk T S (fun _ => true) (zwk T S (t + 1 + k)).1 := by
  intro k
  induction k with
  | zero =>
    show _ ≤ zrk T S (fun _ => true) (zwk T S (t + 1)).1
    rw [zwk_s h]
    exact zrk_next hT h rfl
  | succ k ih =>
    by_cases e : (zwk T S (t + 1 + k)).1 < T.n
    · have := zrk_mono hT (S := S) (fun _ => true) e
      show _ ≤ zrk T S (fun _ => true) (zwk T S (t + 1 + k + 1)).1
      rw [zwk_s e]
      exact Nat.le_trans ih this
    · show _ ≤ zrk T S (fun _ => true) (zwk T S (t + 1 + k + 1)).1
      rw [zwk_end e]
      exact ih
/-- whether a bracket's inside stands -/
theorem mX12_isStanding_eq (N : Nat) {s : zq_S} {T : zSh} (hT : zShW T) (hM : zMS s T) {S p : Nat} (hS : S < 1024) (hp : p < T.n) (h : T.sg p = 1 ∨ T.sg p = 2 ∨ T.sg p = 3) :
    mX12_isStanding N (nI S) (nI p) s = some (if zsp T S p = p + 1 then 1 else 0, s) ∧ (zsp T S p = p + 1 ∨ zsp T S p = T.lk p + 1) := by
  obtain ⟨x1, x2, x3, x4, x5, x6, x7, x8⟩ := hM
  have hn := hT.n100
  have hlk := (hT.opn p hp h).2.1
  obtain ⟨m1, m2⟩ := x3 p hp (by omega)
  have k58 := (x2 p hp).2 (by omega)
  have hck : ∀ c : Option (Int32 × zq_S), zq_ck (nI p) 400 c = c := fun c => zck_nI (by omega) (by decide) c
  have rd : zga s 58 (nI p) = zkd (T.sg p) := by rw [zga_nI _ _ (by omega), k58]
  have rm : zga s 59 (nI p) = nI (T.mk p) := by rw [zga_nI _ _ (by omega), m2]
  have hh := mX12_has_eq N (S := S) (j := T.mk p) (by omega) (by omega) s
  have nl : ¬ T.lk p = p := by omega
  unfold mX12_isStanding
  rcases h with h | h | h
  · cases hb : S.testBit (T.mk p) <;> rw [hb] at hh <;>
      simp +decide only [hck, rd, rm, hh, h, hb, zkd, zq_b2, zq_let, zsp, if_true, if_false, zb_0, zb_1] <;> simp [nl, zb_0, zb_1]
  · have r60 : zga s 60 (nI p) = zA s 60 p := zga_nI _ _ (by omega)
    cases hb : S.testBit (T.mk p) <;> rw [hb] at hh
    · simp +decide only [hck, rd, rm, hh, h, hb, zkd, zq_b2, zq_let, zsp, if_true, if_false, zb_0, zb_1, jX12_isStanding_j45, jX12_isStanding_j50, false_and]
      simp
    · rcases x8 p hp h with ⟨d1, d2⟩ | ⟨d, hd, d1, d2⟩
      · simp +decide only [hck, rd, rm, hh, h, hb, r60, d1, d2, zkd, zq_b2, zq_let, zsp, if_true, if_false, zb_0, zb_1, jX12_isStanding_j45, jX12_isStanding_j49, jX12_isStanding_j50]
        simp [nl]
      · have hd2 := mX12_has_eq N (S := S) (j := d) (by omega) (by omega) s
        have nn := nI_nneg (show d < 2 ^ 31 by omega)
        cases hdb : S.testBit d <;> rw [hdb] at hd2 <;>
          simp +decide only [hck, rd, rm, hh, h, hb, r60, d1, d2, hd2, nn, zkd, zq_b2, zq_let, zsp, if_true, if_false, zb_0, zb_1, jX12_isStanding_j45, jX12_isStanding_j49, jX12_isStanding_j50] <;>
          simp [nl, hdb]
  · cases hb : S.testBit (T.mk p) <;> rw [hb] at hh <;>
      simp +decide only [hck, rd, rm, hh, h, hb, zkd, zq_b2, zq_let, zsp, if_true, if_false, zb_0, zb_1] <;> simp [nl, zb_0, zb_1]
