/-! ahead: class and reference -/
theorem mah_34 (N : Nat) (hN : 5000 ≤ N) {s : zq_S} {n : Nat} {mu : Nat → Nat} (hn : n ≤ 10) (hmk : zgf s 57 6 = nI n) (hF : zFD s n mu) {a b : Nat} (ha : a < n) (hb : b < n) :
    zq_loop (bX12_ahead_34 N (nI a) (nI b)) N (0, 0, s) = some (zsi 0 (zAt n mu a b (zL s 80) (zL s 81)) (2 ^ n), s) := by
  have hp := zn_pow hn
  have h0 : 0 < 2 ^ n := Nat.pow_pos (by decide)
  have e0 : ((0 : Int64), (0 : Int32), s) = (fun j => (zsi 0 (zAt n mu a b (zL s 80) (zL s 81)) j, nI j, s)) 0 := rfl
  rw [e0]
  refine zq_up (2 ^ n) (fun j => (zsi 0 (zAt n mu a b (zL s 80) (zL s 81)) j, nI j, s)) (fun self => ?_) (fun self j hj => ?_) N 0 (by omega) (by omega)
  · dsimp only [bX12_ahead_34]
    rw [mX12_all_eq N hmk hn, zb2_some]
    dsimp only
    rw [if_pos (nI_lt (by omega) (by omega))]
  · have hx := znx_lt (n := n) mu j n (Nat.le_refl _)
    have hl := zor_lt hj hb
    dsimp only [bX12_ahead_34, jX12_ahead_j80, jX12_ahead_j81, jX12_ahead_j112, zq_let]
    rw [mX12_all_eq N hmk hn, zb2_some]
    simp (disch := omega) only [nI_ltI, show ¬ 2 ^ n - 1 < j by omega, if_false, zck_nI, zga_nI, hF.1 j hj, hF.2.1 j hj, mX12_has_eq, zb2_some, zn_shl, zn_or, zgl_nI, nI_1, zsi, zAt]
    cases zgd mu j n <;> cases j.testBit a <;> cases (znx mu j n).testBit b <;> simp [zib]
/-- the count with m ahead of k, off the class's rule -/
def zAh (n : Nat) (mu : Nat → Nat) (a b : Nat) (r : Int64) : Prop := ∃ G : Nat → Int64, (∀ S, S < 2 ^ n → zgd mu S n = true → zcR n mu (zba a b) G S) ∧ r = G 0
theorem zAh_M {s : zq_S} {n : Nat} {mu : Nat → Nat} (hF : zFD s n mu) {a b : Nat} (hab : a ≠ b) (hb : b < n) {r : Int64} (h : zAh n mu a b r) : zsi 0 (zAt n mu a b (zL s 80) (zL s 81)) (2 ^ n) = r := by
  obtain ⟨G, hG, rfl⟩ := h
  obtain ⟨c, hc, e⟩ := hF.2.2.1
  rw [e]
  exact zah_sum hab hb hc (fun S hS _ => hF.2.2.2 S hS) hG
/-- a row filled at the first k of a list -/
def ztk (l : List Nat) (k : Nat) (c o : Nat → Int64) : Nat → Int64 := fun q => if q ∈ l.take k then c q else o q
theorem ztk_0 (l : List Nat) (c o : Nat → Int64) : ztk l 0 c o = o := by funext q; simp [ztk]
theorem ztk_s {l : List Nat} {k S : Nat} (h : l[k]? = some S) (c o : Nat → Int64) : vp_updL (ztk l k c o) S (c S) = ztk l (k + 1) c o := by
  funext q
  have hl := (List.getElem?_eq_some_iff.mp h).1
  have e : l.take (k + 1) = l.take k ++ [S] := by
    rw [List.take_add_one, h]; rfl
  unfold vp_updL ztk
  rw [e]
  by_cases e2 : q = S
  · subst e2; simp
  · simp [e2]
theorem ztk_all {l : List Nat} {S : Nat} (h : S ∈ l) (c o : Nat → Int64) : ztk l l.length c o S = c S := by
  unfold ztk
  rw [List.take_length, if_pos h]
theorem xnw_v (N : Nat) (hN : 5000 ≤ N) {s : zq_S} {n : Nat} {mu : Nat → Nat} (hV : zGV s n mu) {a b : Nat} (ha : a < n) (hb : b < n) :
    ∃ T r, zq_loop (bX4_numberWith_2 N (nI a) (nI b)) N (0, s) = some (r, zsL s 1 T) ∧ zAh n mu a b r := by
  have hn := hV.1.1
  have hp := zn_pow hn
  have h0 : 0 < 2 ^ n := Nat.pow_pos (by decide)
  have hlen := zgL_len_le mu n (2 ^ n)
  obtain ⟨T, hT, hR⟩ := xcw_1 N hN (s := zsL s 1 (ztk (zgL mu n (2 ^ n)) (zgL mu n (2 ^ n)).length (zba a b) (zL s 1))) hV _ rfl
  rw [zL_self] at hR
  rw [zsL_sL] at hT
  have hR2 : ∀ S, S < 2 ^ n → zgd mu S n = true → zcR n mu (zba a b) T S := by
    intro S h1 h2
    have h3 := hR S h1 h2
    unfold zcR at h3 ⊢
    rw [ztk_all (zgL_mem.mpr ⟨h1, h2⟩)] at h3
    exact h3
  refine ⟨T, T 0, ?_, T, hR2, rfl⟩
  have e0 : (0, s) = (fun k => (nI k, zsL s 1 (ztk (zgL mu n (2 ^ n)) k (zba a b) (zL s 1)))) 0 := by
    show _ = (nI 0, _)
    rw [ztk_0, zsL_same]; rfl
  rw [e0]
  refine zq_up (zgL mu n (2 ^ n)).length (fun k => (nI k, zsL s 1 (ztk (zgL mu n (2 ^ n)) k (zba a b) (zL s 1)))) (fun self => ?_) (fun self k hk => ?_) N 0 (by omega) (by omega)
  · dsimp only [bX4_numberWith_2]
    rw [mX3_goodCount_v N (zGV_L1 hV _), zb2_some]
    dsimp only
    rw [if_pos (nI_le (Nat.le_refl _) (by omega)), hT, zb2_some]
    dsimp only
    rw [show (0 : Int32) = nI 0 from rfl, zck_nI (by decide) (by decide), zgl_nI _ _ (by decide), zL_self]
  · have hi := List.getElem?_eq_getElem hk
    generalize (zgL mu n (2 ^ n))[k] = S at hi
    obtain ⟨hS, hg⟩ := zgL_mem.mp (List.mem_of_getElem? hi)
    dsimp only [bX4_numberWith_2, zq_let]
    rw [mX3_goodCount_v N (zGV_L1 hV _), zb2_some]
    dsimp only
    rw [if_neg (nI_ge hk (by omega)), mX3_goodAt_v N (zGV_L1 hV _) hi, zb2_some]
    dsimp only
    rw [zn_bit (by omega) (by omega), zn_bit (by omega) (by omega), zck_nI (by omega) (by decide), zpl_nI _ _ (by omega), zL_self, zsL_sL, nI_1]
    have e1 : (if (if S.testBit b = true then (1 : Int32) else 0) = 0 then (1 : Int64) else if (if S.testBit a = true then (1 : Int32) else 0) = 0 then (0 : Int64) else 1) = zba a b S := by
      unfold zba
      cases S.testBit a <;> cases S.testBit b <;> simp
    rw [e1, ztk_s hi]
theorem mX4_numberWith_eq (N : Nat) (hN : 5000 ≤ N) {s : zq_S} {n : Nat} {mu : Nat → Nat} (hX : zXM s n mu) (hc : zgf s 31 9 = zgf s 31 8 → zGD s n mu) {a b : Nat} (ha : a < n) (hb : b < n) :
    ∃ o T r, mX4_numberWith N (nI a) (nI b) s = some (r, zsL (zG3 s (zli (zgL mu n (2 ^ n)) o) (nI (zgL mu n (2 ^ n)).length)) 1 T) ∧ zAh n mu a b r := by
  obtain ⟨o, ho⟩ := mX3_goodCount_eq N hN hX hc
  have hV := zGV_G3 hX o
  obtain ⟨T, r, h1, h2⟩ := xnw_v N hN hV ha hb
  refine ⟨o, T, r, ?_, h2⟩
  rw [← h1]
  unfold mX4_numberWith
  obtain ⟨M, rfl⟩ : ∃ M', N = M' + 1 := ⟨N - 1, by omega⟩
  rw [zq_loop_s, zq_loop_s]
  dsimp only [bX4_numberWith_2]
  rw [ho, mX3_goodCount_v _ hV]
/-- the answer of ahead: refused, or the one number that both count -/
theorem mX12_ahead_eq (N : Nat) (hN : 5000 ≤ N) {s : zq_S} {n : Nat} {mu : Nat → Nat} (hn : n ≤ 10) (hmk : zgf s 57 6 = nI n) (h65 : ∀ m, m < n → zA s 65 m = nI (mu m)) (hh : ∀ m, m < n → mu m < 2 ^ n) (hc : zgf s 57 37 = 0 ∨ (zgf s 57 37 = 1 ∧ zFD s n mu)) (x z : Int32) :
    (¬ (¬ x < 0 ∧ ¬ nI n ≤ x) ∨ ¬ (¬ z < 0 ∧ ¬ nI n ≤ z) ∨ x = z) ∧ mX12_ahead N x z s = some (-1001, s) ∨
    ∃ a b, a < n ∧ b < n ∧ a ≠ b ∧ x = nI a ∧ z = nI b ∧ ∀ r, zAh n mu a b r → ∃ p q c d, mX12_ahead N x z s = some (r, zpf (zM4 s p q c d) 57 37 1) ∧ zFD (zpf (zM4 s p q c d) 57 37 1) n mu := by
  unfold mX12_ahead jX12_ahead_j21
  rw [mX12_isMark_eq N hmk hn, zb2_some]
  dsimp only
  by_cases h1 : ¬ x < 0 ∧ ¬ nI n ≤ x
  · rw [if_pos h1, if_neg (show ¬ (1 : Int32) = 0 by decide), mX12_isMark_eq N hmk hn, zb2_some]
    dsimp only
    by_cases h2 : ¬ z < 0 ∧ ¬ nI n ≤ z
    · rw [if_pos h2, if_neg (show ¬ (1 : Int32) = 0 by decide)]
      by_cases h3 : x = z
      · exact Or.inl ⟨Or.inr (Or.inr h3), if_pos h3⟩
      · refine Or.inr ?_
        obtain ⟨a, ha, rfl⟩ := nI_of h1.1
        obtain ⟨b, hb, rfl⟩ := nI_of h2.1
        have ha2 : a < n := by have := h1.2; rw [nI_leI (by omega) ha] at this; omega
        have hb2 : b < n := by have := h2.2; rw [nI_leI (by omega) hb] at this; omega
        have hab : a ≠ b := fun e => h3 (by rw [e])
        refine ⟨a, b, ha2, hb2, hab, rfl, rfl, fun r hr => ?_⟩
        obtain ⟨p, q, c, d, hf, hF⟩ := mX12_find_eq N hN hn hmk h65 hh hc
        refine ⟨p, q, c, d, ?_, hF⟩
        have hmk2 : zgf (zpf (zM4 s p q c d) 57 37 1) 57 6 = nI n := hmk
        rw [if_neg h3, hf, zb2_some]
        dsimp only
        rw [mah_34 N hN hn hmk2 hF ha2 hb2, zAh_M hF hab hb2 hr]
    · rw [if_neg h2, if_pos rfl]
      exact Or.inl ⟨Or.inr (Or.inl h2), rfl⟩
  · rw [if_neg h1, if_pos rfl]
    exact Or.inl ⟨Or.inl h1, rfl⟩
