/-! the class's text of a set -/
def zcode (k : Nat) : Int32 := match k with
  | 0 => 119
  | 1 => 123
  | 2 => 91
  | 3 => 60
  | 4 => 125
  | 5 => 93
  | 6 => 62
  | 7 => 42
  | 8 => 40
  | 9 => 47
  | _ => 41
/-- sheet b of the class holds T -/
def zXS (b : Bool) (s : zq_S) (T : zSh) : Prop :=
  zgf s (zs b) 6 = nI T.n ∧
  (∀ p, p < T.n → T.sg p ≤ 10 ∧ zA s (zs b + 2) p = zcode (T.sg p)) ∧
  (∀ p, p < T.n → (T.sg p = 1 ∨ T.sg p = 2 ∨ T.sg p = 3 ∨ T.sg p = 6 ∨ T.sg p = 7 ∨ T.sg p = 9) → T.mk p < 10 ∧ zA s (zs b + 3) p = nI (T.mk p)) ∧
  (∀ p, p < T.n → (T.sg p = 0 ∨ T.sg p = 8 ∨ T.sg p = 9) → zA s (zs b + 4) p = nI (T.wd p)) ∧
  (∀ p, p < T.n → (T.sg p = 1 ∨ T.sg p = 2 ∨ T.sg p = 3) → zA s (zs b + 4) p = nI (T.lk p)) ∧
  (∀ p, p < T.n → T.sg p = 7 → zA s (zs b + 9) (T.mk p) = nI (T.op (T.mk p))) ∧
  (∀ p, p < T.n → T.sg p = 6 → zA s (zs b + 10) (T.mk p) = nI (T.st (T.mk p))) ∧
  (∀ p, p < T.n → T.sg p = 2 → (T.sd (T.mk p) = none ∧ zA s (zs b + 11) (T.mk p) = -1) ∨ (∃ d, d < 10 ∧ T.sd (T.mk p) = some d ∧ zA s (zs b + 11) (T.mk p) = nI d))
theorem zXb {S m : Nat} (hS : S < 1024) (hm : m < 10) : (if (nI S >>> (nI m &&& 31)) &&& (1 : Int32) = 0 then (0 : Int32) else 1) = if S.testBit m then 1 else 0 := by
  rw [zn_bit (by omega) (by omega)]
  cases S.testBit m <;> rfl
/-- after, with a mark that is one -/
theorem zXaft {N : Nat} {b : Bool} {s : zq_S} {S p m : Nat} (hS : S < 1024) (hp : p < 100) (hm : m < 10) (h : zA s (zs b + 3) p = nI m) :
    ∃ t : Int32, mX7_after N b (nI p) (nI S) s = jX7_after_j63 N b (nI p) (nI m) (if S.testBit m then 1 else 0) t s ∧
      t = (if zA s (zs b + 11) m < 0 then 0 else if (nI S >>> (zA s (zs b + 11) m &&& 31)) &&& (1 : Int32) = 0 then 0 else 1) := by
  refine ⟨_, ?_, rfl⟩
  unfold mX7_after
  rw [zck_nI hp (by decide), zga_nI _ _ (by omega), h]
  dsimp only [zq_let]
  rw [if_neg (nI_nneg (by omega)), if_pos (by rw [show (10 : Int32) = nI 10 from rfl, nI_ltI (by omega) (by omega)]; exact hm), zXb hS hm, zck_nI hm (by decide), zck_nI hm (by decide), zga_nI _ _ (by omega)]
  by_cases q : zA s (zs b + 11) m < 0
  · rw [if_pos q, if_pos q]; rfl
  · rw [if_neg q, if_neg q]
    by_cases q2 : (nI S >>> (zA s (zs b + 11) m &&& 31)) &&& (1 : Int32) = 0
    · rw [if_pos q2, if_pos q2]; rfl
    · rw [if_neg q2, if_neg q2]
theorem mX7_after_eq (N : Nat) {b : Bool} {s : zq_S} {T : zSh} (hT : zShW T) (hX : zXS b s T) {S p : Nat} (hS : S < 1024) (hp : p < T.n) :
    mX7_after N b (nI p) (nI S) s = some (nI (zsp T S p), s) := by
  obtain ⟨x1, x2, x3, x4, x5, x6, x7, x8⟩ := hX
  have hn := hT.n100
  obtain ⟨hk, hc⟩ := x2 p hp
  have rd : zga s (zs b + 2) (nI p) = zcode (T.sg p) := by rw [zga_nI _ _ (by omega), hc]
  unfold zsp
  by_cases hs : T.sg p = 1 ∨ T.sg p = 2 ∨ T.sg p = 3 ∨ T.sg p = 6 ∨ T.sg p = 7
  · obtain ⟨hm, hm2⟩ := x3 p hp (by omega)
    obtain ⟨t, e, ht⟩ := zXaft (N := N) hS (show p < 100 by omega) hm hm2
    rw [e]
    have hck : ∀ c : Option (Int32 × zq_S), zq_ck (nI p) 100 c = c := fun c => zck_nI (by omega) (by decide) c
    have hcm : ∀ c : Option (Int32 × zq_S), zq_ck (nI (T.mk p)) 10 c = c := fun c => zck_nI hm (by decide) c
    have hz : (0 : Nat) = 0 := rfl
    rcases hs with h | h | h | h | h
    · have hL : zga s (zs b + 4) (nI p) = nI (T.lk p) := by rw [zga_nI _ _ (by omega), x5 p hp (by omega)]
      cases hb : S.testBit (T.mk p) <;>
        simp +decide only [jX7_after_j63, jX7_after_j139, hck, rd, h, hb, zcode, hL, nI_1, if_true, if_false]
    · have hL : zga s (zs b + 4) (nI p) = nI (T.lk p) := by rw [zga_nI _ _ (by omega), x5 p hp (by omega)]
      cases hb : S.testBit (T.mk p)
      · simp +decide only [jX7_after_j63, jX7_after_j161, jX7_after_j164, hck, rd, h, hb, zcode, hL, nI_1, if_true, if_false, false_and]
      · rcases x8 p hp h with ⟨d1, d2⟩ | ⟨d, hd, d1, d2⟩
        · rw [d2] at ht
          have ht0 : t = 0 := by rw [ht, if_pos (by decide)]
          simp +decide only [jX7_after_j63, jX7_after_j161, jX7_after_j164, hck, rd, h, hb, zcode, hL, nI_1, if_true, if_false, ht0, d1, true_and]
          simp
        · rw [d2, if_neg (nI_nneg (by omega)), zXb hS hd] at ht
          cases hdb : S.testBit d
          · have ht0 : t = 0 := by rw [ht, hdb]; decide
            simp +decide only [jX7_after_j63, jX7_after_j161, jX7_after_j164, hck, rd, h, hb, zcode, hL, nI_1, if_true, if_false, ht0, d1, true_and]
            simp [hdb]
          · have ht0 : t = 1 := by rw [ht, hdb]; decide
            simp +decide only [jX7_after_j63, jX7_after_j161, jX7_after_j164, hck, rd, h, hb, zcode, hL, nI_1, if_true, if_false, ht0, d1, true_and]
            simp [hdb]
    · have hL : zga s (zs b + 4) (nI p) = nI (T.lk p) := by rw [zga_nI _ _ (by omega), x5 p hp (by omega)]
      cases hb : S.testBit (T.mk p) <;>
        simp +decide only [jX7_after_j63, jX7_after_j184, hck, rd, h, hb, zcode, hL, nI_1, if_true, if_false]
    · have hL : zga s (zs b + 10) (nI (T.mk p)) = nI (T.st (T.mk p)) := by rw [zga_nI _ _ (by omega), x7 p hp h]
      cases hb : S.testBit (T.mk p) <;>
        simp +decide only [jX7_after_j63, jX7_after_j224, hck, hcm, rd, h, hb, zcode, hL, nI_1, if_true, if_false]
    · have hL : zga s (zs b + 9) (nI (T.mk p)) = nI (T.op (T.mk p)) := by rw [zga_nI _ _ (by omega), x6 p hp h]
      cases hb : S.testBit (T.mk p) <;>
        simp +decide only [jX7_after_j63, jX7_after_j204, hck, hcm, rd, h, hb, zcode, hL, nI_1, if_true, if_false]
  · rw [if_neg (by omega), if_neg (by omega), if_neg (by omega), if_neg (by omega), if_neg (by omega)]
    have dflt : ∀ m t u, jX7_after_j63 N b (nI p) m t u s = some (nI (p + 1), s) := by
      intro m t u
      have hck : ∀ c : Option (Int32 × zq_S), zq_ck (nI p) 100 c = c := fun c => zck_nI (by omega) (by decide) c
      have hh : T.sg p = 0 ∨ T.sg p = 4 ∨ T.sg p = 5 ∨ T.sg p = 8 ∨ T.sg p = 9 ∨ T.sg p = 10 := by omega
      rcases hh with h | h | h | h | h | h <;>
        simp +decide only [jX7_after_j63, hck, rd, h, zcode, nI_1, if_false]
    unfold mX7_after
    rw [zck_nI (by omega) (by decide)]
    dsimp only [zq_let]
    unfold jX7_after_j17 jX7_after_j62
    rw [nI_1, dflt, dflt]
    by_cases q1 : zga s (zs b + 3) (nI p) < 0
    · rw [if_pos q1]
    · rw [if_neg q1]
      by_cases q2 : zga s (zs b + 3) (nI p) < 10
      · rw [if_pos q2]
        obtain ⟨m, hm, em⟩ := nI_of q1
        rw [em] at q2 ⊢
        rw [show (10 : Int32) = nI 10 from rfl, nI_ltI hm (by omega)] at q2
        rw [zck_nI q2 (by decide), zck_nI q2 (by decide)]
        split
        · rfl
        · split <;> rfl
      · rw [if_neg q2]
/-- n words packed -/
def zpq (w : Nat → Nat) : Nat → (Nat → Int64)
  | 0 => fun _ => 0
  | n + 1 => zadd (zpq w n) n (w n)
theorem zpq_congr {w u : Nat → Nat} : ∀ n, (∀ k, k < n → w k = u k) → zpq w n = zpq u n := by
  intro n
  induction n with
  | zero => intro _; rfl
  | succ n ih =>
    intro h
    unfold zpq
    rw [ih (fun k hk => h k (by omega)), h n (by omega)]
theorem zpq_rw {w : Nat → Nat} : ∀ n, n ≤ 40 → (∀ k, k < n → w k < 256) → zRw (zpq w n) n w := by
  intro n
  induction n with
  | zero => intro _ _; exact zRw_0 (fun _ _ => rfl)
  | succ n ih =>
    intro hn h
    have a := zRw_put (ih (by omega) (fun k hk => h k (by omega))) (show n < 40 by omega) (h n (by omega))
    have e : (fun k => if k = n then w n else w k) = w := by
      funext k; by_cases q : k = n
      · rw [if_pos q, q]
      · rw [if_neg q]
    rw [e] at a
    exact a
def zgt (ws : List Nat) (k : Nat) : Nat := ws.getD k 0
/-- row S of shelf c made anew with the words ws -/
def zTr (c : Bool) (S : Nat) (ws : List Nat) (s : zq_S) : zq_S := zrw c S (zpq (zgt ws) ws.length) (nI ws.length) s
theorem zgt_app (ws : List Nat) (x : Nat) : zadd (zpq (zgt ws) ws.length) ws.length x = zpq (zgt (ws ++ [x])) (ws ++ [x]).length := by
  rw [List.length_append]
  show _ = zadd (zpq (zgt (ws ++ [x])) ws.length) ws.length (zgt (ws ++ [x]) ws.length)
  have e1 : zgt (ws ++ [x]) ws.length = x := by
    unfold zgt; simp [List.getD]
  have e2 : zpq (zgt (ws ++ [x])) ws.length = zpq (zgt ws) ws.length := by
    apply zpq_congr
    intro k hk
    unfold zgt
    simp [List.getD, List.getElem?_append_left hk]
  rw [e1, e2]
theorem zTr_put (N : Nat) {c : Bool} {s : zq_S} (hF : zgf s (zf c) 0 = nI (zfS c)) {S x : Nat} {ws : List Nat} (hS : S < zfS c) (hl : ws.length < 40) :
    mX8_put N c (nI S) (nI x) (zTr c S ws s) = some ((), zTr c S (ws ++ [x]) s) := by
  unfold zTr
  rw [mX8_put_eq N hF hS _ hl, zgt_app, List.length_append]
  rfl
theorem zTr_row {c : Bool} {s : zq_S} {S : Nat} {ws : List Nat} (hl : ws.length ≤ 40) (hw : ∀ x, x ∈ ws → x < 100) : zRow c (zTr c S ws s) S ws.length (zgt ws) := by
  have h : ∀ k, k < ws.length → zgt ws k < 100 := by
    intro k hk
    apply hw
    unfold zgt
    simp [List.getD, List.getElem?_eq_getElem hk]
  exact zrw_row hl h (zpq_rw _ hl (fun k hk => by have := h k hk; omega))
theorem zXS_Tr {b c : Bool} {s : zq_S} {T : zSh} {S : Nat} {ws : List Nat} (h : zXS b s T) : zXS b (zTr c S ws s) T := by
  have hA : ∀ k, k < 39 → zA (zTr c S ws s) k = zA s k := by
    intro k hk
    unfold zTr zrw
    rw [zA_ne _ (by cases c <;> simp only [zf] <;> omega), zA_sL]
  have hb : zs b ≤ 14 := by cases b <;> decide
  unfold zXS at h ⊢
  rw [hA _ (by omega), hA _ (by omega), hA _ (by omega), hA _ (by omega), hA _ (by omega), hA _ (by omega)]
  exact h
theorem mX7_isIn_eq (N : Nat) {S m : Nat} (hS : S < 1024) (hm : m < 10) (s : zq_S) : mX7_isIn N (nI S) (nI m) s = some (if S.testBit m then 1 else 0, s) := by
  unfold mX7_isIn
  rw [if_neg (nI_nneg (by omega)), if_neg (by rw [show (10 : Int32) = nI 10 from rfl, nI_leI (by omega) (by omega)]; omega), zXb hS hm]
  dsimp only [zq_let]
  exact zb_if _ _
theorem mX7_spell_eq (N : Nat) (hN : 5000 ≤ N) {b c : Bool} {s : zq_S} {T : zSh} (hT : zShW T) (h4 : zSh40 T) (hX : zXS b s T) (hF : zgf s (zf c) 0 = nI (zfS c)) {S : Nat} (hS : S < zfS c) :
    mX7_spell N b c (nI S) s = some ((), zTr c S (ztx T S) s) := by
  have hS2 : S < 1024 := Nat.lt_of_lt_of_le hS (zfS_le c)
  have hn := hT.n100
  unfold mX7_spell
  rw [mX8_clear_eq N hN hF hS]
  unfold zq_b2
  dsimp only
  apply zw_of
  refine zw_loop (fun v => ∃ t, t ≤ T.n ∧ v = (nI (zwk T S t).2.1, nI (zwk T S t).1, nI t, zTr c S (zwk T S t).2.2 s)) (fun v => 101 - v.2.2.1.toNatClampNeg) ?_ N _ ?_ ?_
  · rintro v ⟨t, ht, rfl⟩ self hs
    have hi := zwk_inv hT S t
    dsimp only [bX7_spell_13]
    by_cases e : (zwk T S t).1 < T.n
    · have ht2 : t < T.n := Nat.lt_of_le_of_lt (hi.2.1 e) (zrk_lt _ _ _ e)
      have hX2 : zXS b (zTr c S (zwk T S t).2.2 s) T := zXS_Tr hX
      have tail : ∀ o' ws', o' = zov T S (zwk T S t).1 (zwk T S t).2.1 → ws' = zws T (zwk T S t).1 (zwk T S t).2.1 (zwk T S t).2.2 →
          zw (jX7_spell_j128 N b c (nI S) (fun e13 => jX7_spell_j143 N b c e13) self (nI o') (nI (zwk T S t).1) (nI t) (zTr c S ws' s)) (fun x => x = ((), zTr c S (ztx T S) s)) := by
        intro o' ws' ho hw
        unfold jX7_spell_j128
        rw [mX7_after_eq N hT (zXS_Tr hX) hS2 e]
        unfold zq_b2
        dsimp only [zq_let]
        rw [nI_1]
        apply hs
        · refine ⟨t + 1, ht2, ?_⟩
          rw [zwk_s e, ← ho, ← hw]
        · dsimp only
          rw [nI_clamp (by omega), nI_clamp (by omega)]
          omega
      have hlen := zwk_len hT h4 S (t + 1)
      rw [zwk_s e] at hlen
      dsimp only at hlen
      revert hX2 tail hlen e
      generalize (zwk T S t).1 = p
      generalize (zwk T S t).2.1 = o
      generalize (zwk T S t).2.2 = ws
      intro e hX2 tail hlen
      obtain ⟨x1, x2, x3, x4, _⟩ := hX2
      obtain ⟨hk, hc⟩ := x2 p e
      have rd : zga (zTr c S ws s) (zs b + 2) (nI p) = zcode (T.sg p) := by rw [zga_nI _ _ (by omega), hc]
      have hck : ∀ c : Option (Unit × zq_S), zq_ck (nI p) 100 c = c := fun c => zck_nI (by omega) (by decide) c
      have rl : (T.sg p = 0 ∨ T.sg p = 8 ∨ T.sg p = 9) → zga (zTr c S ws s) (zs b + 4) (nI p) = nI (T.wd p) := fun h => by rw [zga_nI _ _ (by omega), x4 p e h]
      rw [if_neg (by rw [show (100 : Int32) = nI 100 from rfl, nI_leI (by omega) (by omega)]; omega), if_neg (nI_nneg (by omega)), x1, if_neg (by rw [nI_leI (by omega) (by omega)]; omega)]
      simp only [hck, rd]
      have j99 : (T.sg p = 8 ∨ T.sg p = 9) → (T.wd p = zov T S p o) → ws = zws T p o ws → zw (jX7_spell_j99 N b c (nI S) (fun e13 => jX7_spell_j143 N b c e13) self (nI p) (nI t) (zTr c S ws s)) (fun x => x = ((), zTr c S (ztx T S) s)) := by
        intro h a1 a2
        unfold jX7_spell_j99
        rw [hck, rl (by omega)]
        exact tail _ _ a1 a2
      have j110 : T.sg p ≠ 10 → o = zov T S p o → ws = zws T p o ws → zw (jX7_spell_j110 N b c (nI S) (fun e13 => jX7_spell_j143 N b c e13) self (nI o) (nI p) (nI t) (zTr c S ws s)) (fun x => x = ((), zTr c S (ztx T S) s)) := by
        intro h a1 a2
        unfold jX7_spell_j110
        have : ¬ zcode (T.sg p) = 41 := by
          have hh : ∀ k : Fin 10, ¬ zcode k.1 = 41 := by decide
          exact hh ⟨T.sg p, by omega⟩
        rw [hck, rd, if_neg this]
        exact tail _ _ a1 a2
      by_cases h0 : T.sg p = 0
      · rw [h0, if_pos (by decide), rl (by omega)]
        have ew : zws T p o ws = ws ++ [T.wd p] := by unfold zws; rw [if_pos h0]
        have eo : zov T S p o = o := by unfold zov; rw [if_neg (by omega)]
        rw [ew, List.length_append] at hlen
        rw [zTr_put N hF hS (by simp at hlen; omega)]
        exact tail _ _ eo.symm ew.symm
      · have n119 : ¬ zcode (T.sg p) = 119 := by
          have hh : ∀ k : Fin 11, k.1 ≠ 0 → ¬ zcode k.1 = 119 := by decide
          exact hh ⟨T.sg p, by omega⟩ h0
        rw [if_neg n119]
        have ew : T.sg p ≠ 10 → zws T p o ws = ws := by intro h; unfold zws; rw [if_neg h0, if_neg h]
        by_cases h8 : T.sg p = 8
        · rw [h8, if_pos (by decide)]
          exact j99 (Or.inl h8) (by unfold zov; rw [if_pos (Or.inl h8)]) (ew (by omega)).symm
        · have n40 : ¬ zcode (T.sg p) = 40 := by
            have hh : ∀ k : Fin 11, k.1 ≠ 8 → ¬ zcode k.1 = 40 := by decide
            exact hh ⟨T.sg p, by omega⟩ h8
          rw [if_neg n40]
          by_cases h9 : T.sg p = 9
          · obtain ⟨m1, m2⟩ := x3 p e (by omega)
            rw [h9, if_pos (by decide), zga_nI _ _ (by omega), m2, mX7_isIn_eq N hS2 m1]
            unfold zq_b2
            dsimp only
            by_cases hb : S.testBit (T.mk p) = true
            · rw [if_pos hb, if_neg (by decide)]
              exact j99 (Or.inr h9) (by unfold zov; rw [if_pos (Or.inr ⟨h9, hb⟩)]) (ew (by omega)).symm
            · rw [if_neg hb, if_pos rfl]
              exact j110 (by omega) (by unfold zov; rw [if_neg (fun x => x.elim h8 (fun y => hb y.2))]) (ew (by omega)).symm
          · have n47 : ¬ zcode (T.sg p) = 47 := by
              have hh : ∀ k : Fin 11, k.1 ≠ 9 → ¬ zcode k.1 = 47 := by decide
              exact hh ⟨T.sg p, by omega⟩ h9
            rw [if_neg n47]
            have eo : zov T S p o = o := by unfold zov; rw [if_neg (by omega)]
            by_cases h10 : T.sg p = 10
            · have ew2 : zws T p o ws = ws ++ [o] := by unfold zws; rw [if_neg h0, if_pos h10]
              rw [ew2, List.length_append] at hlen
              unfold jX7_spell_j110
              rw [hck, rd, h10, if_pos (by decide), zTr_put N hF hS (by simp at hlen; omega)]
              exact tail _ _ eo.symm ew2.symm
            · exact j110 h10 eo.symm (ew h10).symm
    · have fin : zw (some ((), zTr c S (zwk T S t).2.2 s)) (fun x => x = ((), zTr c S (ztx T S) s)) := by
        rw [zw_some, zwk_stop hT e]; rfl
      have e2 : (zwk T S t).1 = T.n := by omega
      have hX2 : zXS b (zTr c S (zwk T S t).2.2 s) T := zXS_Tr hX
      unfold jX7_spell_j143
      split
      · exact fin
      · rw [if_neg (nI_nneg (by omega)), hX2.1, if_pos (by rw [nI_leI (by omega) (by omega)]; omega)]
        exact fin
  · exact ⟨0, Nat.zero_le _, rfl⟩
  · dsimp only
    omega
