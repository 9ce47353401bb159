/-! the reference's text of a set: the walk -/
def zWI (T : zSh) (S : Nat) (s : zq_S) (v : Int32 × Int32 × Int32 × zq_S) : Prop :=
  ∃ t, v.1 = nI (zwk T S t).1 ∧ v.2.2.2 = zMt S (zwk T S t).2.2 s ∧ ((zwk T S t).1 < T.n → T.sg (zwk T S t).1 ≠ 9 ∧ T.sg (zwk T S t).1 ≠ 10) ∧
    ((zow T S (zwk T S t).1 = none ∧ v.2.1 = nI T.n ∧ v.2.2.1 = -1) ∨
     (∃ q, zow T S (zwk T S t).1 = some q ∧ v.2.1 = nI (T.lk q) ∧ v.2.2.1 = nI (T.st (T.mk q) + 1)))
theorem zrow_ok {T : zSh} (hR : zShR T) {p : Nat} (h : p + 1 < T.n) (h2 : T.sg p ≠ 8) (h3 : T.sg p ≠ 9) : T.sg (p + 1) ≠ 9 ∧ T.sg (p + 1) ≠ 10 := by
  constructor
  · intro e; have := hR.2.1 p h (Or.inl e); omega
  · intro e; have := hR.2.1 p h (Or.inr e); omega
theorem zsp_pred {T : zSh} (hT : zShW T) {S p : Nat} (hp : p < T.n) (h : T.sg p ≤ 7) : ∃ x, zsp T S p = x + 1 ∧ T.sg x ≠ 8 ∧ T.sg x ≠ 9 := by
  have l : (T.sg p = 1 ∨ T.sg p = 2 ∨ T.sg p = 3) → T.sg (T.lk p) = T.sg p + 3 := fun h => (hT.opn p hp h).2.2.2.2
  rcases zsp_cases hT (S := S) hp with c | ⟨h1, h2, h3, h5, h6, h7⟩ | ⟨h1, h2, h3, h5, h6, h7, h8⟩
  · have d : zsp T S p = p + 1 ∨ ((T.sg p = 1 ∨ T.sg p = 2 ∨ T.sg p = 3) ∧ zsp T S p = T.lk p + 1) := by
      have n7 := c.2.2.2.1
      have n6 := c.2.2.2.2
      unfold zsp
      by_cases a1 : T.sg p = 1
      · rw [if_pos a1]; split
        · exact Or.inl rfl
        · exact Or.inr ⟨Or.inl a1, rfl⟩
      rw [if_neg a1]
      by_cases a2 : T.sg p = 2
      · rw [if_pos a2]; split
        · exact Or.inr ⟨Or.inr (Or.inl a2), rfl⟩
        · exact Or.inl rfl
      rw [if_neg a2]
      by_cases a3 : T.sg p = 3
      · rw [if_pos a3]; split
        · exact Or.inr ⟨Or.inr (Or.inr a3), rfl⟩
        · exact Or.inl rfl
      rw [if_neg a3]
      by_cases a7 : T.sg p = 7
      · rw [if_pos a7, if_neg (fun x => n7 ⟨a7, x⟩)]; exact Or.inl rfl
      rw [if_neg a7]
      by_cases a6 : T.sg p = 6
      · rw [if_pos a6, if_neg (fun x => n6 ⟨a6, x⟩)]; exact Or.inl rfl
      rw [if_neg a6]; exact Or.inl rfl
    rcases d with d | ⟨d1, d⟩
    · exact ⟨p, d, by omega, by omega⟩
    · have := l d1
      exact ⟨T.lk p, d, by omega, by omega⟩
  · have := (hT.str p hp h1).2.2.1
    exact ⟨_, h5, by omega, by omega⟩
  · have := hT.arr _ (show T.op (T.mk p) < T.n from by have := hT.mem p (by omega) _ (zow_mem h3).1; omega) (zow_mem h3).2.1
    obtain ⟨q, q1, q2, q3, q4⟩ := hT.cls p hp (by omega)
    have hq : q < p := hT.mem p (by omega) q (by rw [q1]; exact List.mem_cons_self)
    have a := hT.arr q (by omega) (by omega)
    rw [q3] at a
    exact ⟨_, h6, by omega, by omega⟩
theorem mX12_writeText_eq (N : Nat) (hN : 5000 ≤ N) {s : zq_S} {T : zSh} (hT : zShW T) (hR : zShR T) (h4 : zSh40 T) (hM : zMS s T) {S : Nat} (hS : S < 1024) :
    mX12_writeText N (nI S) s = some ((), zMt S (ztx T S) s) := by
  have hn := hT.n100
  have hle := fun t => (zwk_inv hT S t).1
  unfold mX12_writeText
  rw [zck_nI hS (by decide)]
  dsimp only [zq_let]
  rw [zck_nI hS (by decide), zpa_nI _ _ (by omega), zpl_nI _ _ (by omega), zL_sA, ← zMt_nil, (zMS_Mt hM).1]
  apply zw_of
  refine zw_loop (zWI T S s) (fun v => 101 - zrk T S (fun _ => true) v.1.toNatClampNeg) ?_ N _ ?_ ?_
  · rintro ⟨w2, w3, w4, st⟩ ⟨t, e1, e2, e3, e4⟩ self hs
    dsimp only at e1 e2 e4
    subst e1 e2
    have hp := hle t
    have hrk := zrk_le T S (fun _ => true) (zwk T S t).1
    have hcn := zcn_le (fun _ => true) T.n
    dsimp only [bX12_writeText_24]
    by_cases e : (zwk T S t).1 < T.n
    · have g := e3 e
      obtain ⟨x1, x2, x3, x4, x5, x6, x7, x8⟩ := zMS_Mt (S := S) (ws := (zwk T S t).2.2) hM
      -- one step of the walk
      have one : ∀ v, zWI T S s v → (∃ k, v.1 = nI (zwk T S (t + 1 + k)).1) → zw (self v) (fun x => x = ((), zMt S (ztx T S) s)) := by
        rintro v hv ⟨k, hk⟩
        apply hs v hv
        have a := zrk_walk hT e k
        have b := zrk_le T S (fun _ => true) (zwk T S (t + 1 + k)).1
        have c := hle (t + 1 + k)
        rw [hk, nI_clamp (by omega), nI_clamp (by omega)]
        omega
      have sc := zsp_cases hT (S := S) e
      have hlen := zwk_len hT h4 S (t + 1)
      have hws := zwk_s e
      have hw1 : (zwk T S (t + 1)).1 = zsp T S (zwk T S t).1 := by rw [hws]
      have hw2 : (zwk T S (t + 1)).2.2 = zws T (zwk T S t).1 (zwk T S t).2.1 (zwk T S t).2.2 := by rw [hws]
      rw [hw2] at hlen
      have row : T.sg (zwk T S t).1 ≤ 7 → zsp T S (zwk T S t).1 < T.n → T.sg (zsp T S (zwk T S t).1) ≠ 9 ∧ T.sg (zsp T S (zwk T S t).1) ≠ 10 := by
        intro a b
        obtain ⟨x, c1, c2, c3⟩ := zsp_pred hT (S := S) e a
        rw [c1] at b ⊢
        exact zrow_ok hR b c2 c3
      have keep : ∀ ws', T.sg (zwk T S t).1 ≤ 7 → ws' = zws T (zwk T S t).1 (zwk T S t).2.1 (zwk T S t).2.2 → zow T S (zsp T S (zwk T S t).1) = zow T S (zwk T S t).1 →
          zw (self (nI (zsp T S (zwk T S t).1), w3, w4, zMt S ws' s)) (fun x => x = ((), zMt S (ztx T S) s)) := by
        intro ws' a b c
        refine one _ ⟨t + 1, by rw [hw1], by rw [hw2, b], by rw [hw1]; exact row a, ?_⟩ ⟨0, by rw [← hw1]⟩
        rw [hw1, c]
        exact e4
      have hck : ∀ c : Option (Unit × zq_S), zq_ck (nI (zwk T S t).1) 400 c = c := fun c => zck_nI (by omega) (by decide) c
      have rd : T.sg (zwk T S t).1 ≤ 8 → zga (zMt S (zwk T S t).2.2 s) 58 (nI (zwk T S t).1) = zkd (T.sg (zwk T S t).1) := fun h => by rw [zga_nI _ _ (by omega), (x2 _ e).2 h]
      have hk10 := (x2 _ e).1
      have same : (T.sg (zwk T S t).1 ≠ 0 ∧ T.sg (zwk T S t).1 ≠ 10) → zws T (zwk T S t).1 (zwk T S t).2.1 (zwk T S t).2.2 = (zwk T S t).2.2 := by
        intro h; unfold zws; rw [if_neg h.1, if_neg h.2]
      have step : ¬ nI (zwk T S t).1 = w3 → ¬ (T.sg (zwk T S t).1 = 6 ∧ S.testBit (T.mk (zwk T S t).1) = true) →
          zw (jX12_writeText_j34 N (nI S) self (nI (zwk T S t).1) w3 w4 (zMt S (zwk T S t).2.2 s)) (fun x => x = ((), zMt S (ztx T S) s)) := by
        intro n3 n6
        unfold jX12_writeText_j34
        rw [if_neg n3]
        simp only [hck]
        rw [rd (by omega)]
        have j182 : zsp T S (zwk T S t).1 = (zwk T S t).1 + 1 → T.sg (zwk T S t).1 ≤ 7 → T.sg (zwk T S t).1 ≠ 0 → zow T S (zsp T S (zwk T S t).1) = zow T S (zwk T S t).1 →
            zw (jX12_writeText_j182 N (nI S) self (nI (zwk T S t).1) w3 w4 (zMt S (zwk T S t).2.2 s)) (fun x => x = ((), zMt S (ztx T S) s)) := by
          intro a b c d
          have := keep _ b (same ⟨c, by omega⟩).symm d
          rw [a, ← nI_1] at this
          exact this
        by_cases h0 : T.sg (zwk T S t).1 = 0
        · rw [h0, if_pos (by decide), zga_nI _ _ (by omega), x4 _ e (Or.inl h0)]
          have ew : zws T (zwk T S t).1 (zwk T S t).2.1 (zwk T S t).2.2 = (zwk T S t).2.2 ++ [T.wd (zwk T S t).1] := by unfold zws; rw [if_pos h0]
          rw [ew, List.length_append] at hlen
          rw [mX12_addWord_eq N hS (by simp at hlen; omega)]
          have := keep _ (by omega) ew.symm (by rw [zsp_flat (Or.inl h0)]; exact zow_eq (hT.els _ e (Or.inl h0)))
          rw [zsp_flat (Or.inl h0), ← nI_1] at this
          exact this
        · have z0 : ¬ zkd (T.sg (zwk T S t).1) = 0 := by
            have hh : ∀ k : Fin 11, k.1 ≠ 0 → ¬ zkd k.1 = 0 := by decide
            exact hh ⟨T.sg (zwk T S t).1, by omega⟩ h0
          rw [if_neg z0]
          by_cases h8 : T.sg (zwk T S t).1 = 8
          · obtain ⟨r1, r2, r3, r4⟩ := hR.1 _ e h8
            obtain ⟨u, u1, u2⟩ := zwk_rows hR (S := S) (t := t) e h8
            have ul := zwk_len hT h4 S u
            rw [u2] at ul
            dsimp only at ul
            rw [List.length_append] at ul
            rw [h8, if_pos (by decide), mX12_addRow_eq N hN hT hR hM hS e h8 (by simp at ul; omega)]
            unfold zq_b2
            dsimp only [zq_let]
            rw [zga_nI _ _ (by omega), (zMS_Mt hM).2.2.2.2.2.1 _ e (by omega), nI_1]
            have p1 : (zwk T S u).1 = T.lk (zwk T S t).1 + 1 := by rw [u2]
            have p2 : (zwk T S u).2.2 = (zwk T S t).2.2 ++ [zro T S (zwk T S t).1 (T.lk (zwk T S t).1 - (zwk T S t).1 - 1)] := by rw [u2]
            have sk : ∀ i, (zwk T S t).1 + i ≤ T.lk (zwk T S t).1 + 1 → T.stk ((zwk T S t).1 + i) = T.stk (zwk T S t).1 := by
              intro i
              induction i with
              | zero => intro _; rfl
              | succ i ih =>
                intro hi
                have a := ih (by omega)
                have gg : 7 ≤ T.sg ((zwk T S t).1 + i) := by
                  by_cases i0 : i = 0
                  · subst i0; show 7 ≤ T.sg (zwk T S t).1; omega
                  · by_cases il : (zwk T S t).1 + i = T.lk (zwk T S t).1
                    · rw [il]; omega
                    · have := r4 ((zwk T S t).1 + i) (by omega) (by omega); omega
                rw [← Nat.add_assoc, hT.els _ (by omega) (Or.inr gg), a]
            have sk2 := sk (T.lk (zwk T S t).1 + 1 - (zwk T S t).1) (by omega)
            rw [show (zwk T S t).1 + (T.lk (zwk T S t).1 + 1 - (zwk T S t).1) = T.lk (zwk T S t).1 + 1 by omega] at sk2
            refine one _ ⟨u, by rw [p1], by rw [p2], by rw [p1]; exact fun h => zrow_ok hR h (by omega) (by omega), ?_⟩ ⟨u - t - 1, by rw [show t + 1 + (u - t - 1) = u by omega, p1]⟩
            rw [p1, zow_eq sk2]
            exact e4
          · have z6 : ¬ zkd (T.sg (zwk T S t).1) = 6 := by
              have hh : ∀ k : Fin 8, ¬ zkd k.1 = 6 := by decide
              exact hh ⟨T.sg (zwk T S t).1, by omega⟩
            rw [if_neg z6]
            by_cases h7 : T.sg (zwk T S t).1 = 7
            · obtain ⟨m1, m2⟩ := x3 _ e (by omega)
              rw [h7, if_pos (by decide), zga_nI _ 59 (by omega), m2, mX12_has_eq N (by omega) (by omega)]
              unfold zq_b2
              dsimp only [zq_let]
              by_cases hb : S.testBit (T.mk (zwk T S t).1) = true
              · rw [if_pos hb, if_neg (by decide)]
                rcases sc with c | ⟨_, _, c3, c5, c6, c7⟩ | c
                · exact absurd ⟨h7, hb⟩ c.2.2.2.1
                · obtain ⟨s1, s2, s3, s4, s5⟩ := hT.str _ e h7
                  rw [zga_nI _ 59 (show (zwk T S t).1 < 2 ^ 31 by omega), m2, zck_nI m1 (by decide), zga_nI _ 68 (show T.mk (zwk T S t).1 < 2 ^ 31 by omega), x7 _ e h7, nI_1, nI_1, zn_m1, zck_nI (by omega) (by decide), zga_nI _ 61 (by omega), x6 _ s5 (by omega)]
                  refine one _ ⟨t + 1, by rw [hw1, c5], by rw [hw2, same ⟨by omega, by omega⟩], by rw [hw1]; exact row (by omega), ?_⟩ ⟨0, by rw [hw1, c5]⟩
                  rw [hw1]
                  exact Or.inr ⟨_, c6, rfl, by rw [s4, s2]⟩
                · omega
              · rw [if_neg hb, if_pos rfl]
                unfold jX12_writeText_j162
                rw [hck, rd (by omega), h7, if_neg (by decide), hck, if_pos (by decide)]
                rcases sc with c | c | c
                · refine j182 ?_ (by omega) (by omega) c.2.2.1
                  unfold zsp
                  rw [if_neg (by omega), if_neg (by omega), if_neg (by omega), if_pos h7, if_neg hb]
                · exact absurd c.2.1 hb
                · omega
            · have z5 : ¬ zkd (T.sg (zwk T S t).1) = 5 := by
                have hh : ∀ k : Fin 7, ¬ zkd k.1 = 5 := by decide
                exact hh ⟨T.sg (zwk T S t).1, by omega⟩
              rw [if_neg z5]
              unfold jX12_writeText_j162
              rw [hck, rd (by omega), hck, if_neg z5]
              have sc1 : zow T S (zsp T S (zwk T S t).1) = zow T S (zwk T S t).1 := by
                rcases sc with c | c | c
                · exact c.2.2.1
                · exact absurd c.1 h7
                · exact absurd ⟨c.1, c.2.1⟩ n6
              by_cases h3 : T.sg (zwk T S t).1 ≤ 3
              · have z4 : ¬ zkd (T.sg (zwk T S t).1) = 4 := by
                  have hh : ∀ k : Fin 4, ¬ zkd k.1 = 4 := by decide
                  exact hh ⟨T.sg (zwk T S t).1, by omega⟩
                obtain ⟨i1, i2⟩ := mX12_isStanding_eq N hT (zMS_Mt (S := S) (ws := (zwk T S t).2.2) hM) hS e (by omega)
                rw [if_neg z4, i1]
                unfold zq_b2
                dsimp only
                have kp := keep _ (by omega) (same ⟨by omega, by omega⟩).symm sc1
                by_cases y : zsp T S (zwk T S t).1 = (zwk T S t).1 + 1
                · rw [if_pos y, if_neg (by decide)]
                  unfold jX12_writeText_j211
                  rw [nI_1, ← y]
                  exact kp
                · rw [if_neg y, if_pos rfl, hck]
                  unfold jX12_writeText_j211
                  rw [zga_nI _ 61 (by omega), x6 _ e (by omega), nI_1, ← i2.resolve_left y]
                  exact kp
              · have z4 : zkd (T.sg (zwk T S t).1) = 4 := by
                  have hh : ∀ k : Fin 7, 3 < k.1 → zkd k.1 = 4 := by decide
                  exact hh ⟨T.sg (zwk T S t).1, by omega⟩ (by dsimp only; omega)
                rw [if_pos z4]
                refine j182 ?_ (by omega) (by omega) sc1
                unfold zsp
                rw [if_neg (by omega), if_neg (by omega), if_neg (by omega), if_neg h7]
                by_cases h6 : T.sg (zwk T S t).1 = 6
                · rw [if_pos h6, if_neg (fun x => n6 ⟨h6, x⟩)]
                · rw [if_neg h6]
      have no6 : ∀ q, zow T S (zwk T S t).1 = some q → (zwk T S t).1 ≠ T.lk q → ¬ (T.sg (zwk T S t).1 = 6 ∧ S.testBit (T.mk (zwk T S t).1) = true) := by
        rintro q hq hne ⟨a, b⟩
        rcases sc with c | c | ⟨_, _, c3, c4, _⟩
        · exact c.2.2.2.2 ⟨a, b⟩
        · omega
        · rw [hq] at c3
          cases c3
          exact hne c4.symm
      rcases e4 with ⟨f0, f1, f2⟩ | ⟨q, f0, f1, f2⟩
      · rw [f1, if_pos (by rw [nI_ltI (by omega) (by omega)]; exact e), ← f1]
        refine step (by rw [f1, nI_eq (by omega) (by omega)]; omega) ?_
        rintro ⟨a, b⟩
        rcases sc with c | c | ⟨_, _, c3, c4, _⟩
        · exact c.2.2.2.2 ⟨a, b⟩
        · omega
        · rw [f0] at c3; cases c3
      · obtain ⟨k1, k2, k3⟩ := zow_mem f0
        obtain ⟨k4, k5⟩ := zstk_lk hT _ hp q k1
        have k6 := hT.mem _ hp q k1
        have k7 := hT.opn q (by omega) k4
        by_cases y : (zwk T S t).1 = T.lk q
        · have g6 : T.sg (zwk T S t).1 = 6 := by rw [y]; omega
          obtain ⟨r, r1, r2, r3, r5⟩ := hT.cls _ e (by omega)
          have rq : r = q := by
            have a := k7.2.2.2.1
            rw [← y, r1] at a
            exact (List.cons.inj a).1
          subst rq
          rw [if_neg (by rw [f1, nI_ltI (by omega) (by omega)]; omega)]
          have as := hT.arr r (by omega) k2
          rw [if_neg (by rw [f2]; exact nI_nneg (by omega))]
          unfold jX12_writeText_j34
          rw [if_pos (by rw [f1, y]), x1]
          dsimp only [zq_let]
          rcases sc with c | c | ⟨_, _, c3, c4, c5, c6, c7⟩
          · exact absurd ⟨g6, by rw [← r3]; exact k3⟩ c.2.2.2.2
          · omega
          · refine one _ ⟨t + 1, by rw [hw1, c5, f2, r3], by rw [hw2, same ⟨by omega, by omega⟩], by rw [hw1]; exact row (by omega), ?_⟩ ⟨0, by rw [hw1, c5, f2, r3]⟩
            rw [hw1]
            exact Or.inl ⟨c6, rfl, rfl⟩
        · rw [if_pos (by rw [f1, nI_ltI (by omega) (by omega)]; omega)]
          exact step (by rw [f1, nI_eq (by omega) (by omega)]; exact y) (no6 q f0 y)
    · have e5 : (zwk T S t).1 = T.n := by omega
      have e6 : zow T S (zwk T S t).1 = none := by rw [e5]; unfold zow; rw [hT.bot]; rfl
      rcases e4 with ⟨_, f1, f2⟩ | ⟨q, f0, _⟩
      · subst f1 f2
        rw [if_neg (by rw [nI_ltI (by omega) (by omega)]; omega), if_pos (by decide), zw_some, zwk_stop hT e]
        rfl
      · rw [e6] at f0; cases f0
  · refine ⟨0, rfl, rfl, fun h => hR.2.2 h, Or.inl ⟨?_, rfl, rfl⟩⟩
    show zow T S 0 = none
    unfold zow; rw [hT.top]; rfl
  · dsimp only
    omega
