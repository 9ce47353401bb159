/-! holds, when: the class's tables -/
theorem zXR_rfl {s : zq_S} : zXR' s s := zfr_rfl
/-- passes over all marks, from below -/
theorem xw_pass (N : Nat) (hN : 5000 ≤ N) {g : zG} {s : zq_S} (h : zXI g s) (f1 f2 : Int32) (k : zq_S → Option (Unit × zq_S)) :
    zq_loop (bX1_countUpTo_25 N f1 f2 k) N (0, s) = k (zsL s 1 (zawk g.n (zL s 1) g.n)) := by
  have hn := h.W.n
  have e0 : ((0 : Int32), s) = (fun j => (nI j, zsL s 1 (zawk g.n (zL s 1) j))) 0 := by
    show _ = (nI 0, zsL s 1 (zL s 1))
    rw [zsL_same]; rfl
  rw [e0]
  refine zq_up g.n (fun j => (nI j, zsL s 1 (zawk g.n (zL s 1) j))) (fun self => ?_) (fun self j hj => ?_) N 0 (by omega) (by omega)
  · have hx : zXI g (zsL s 1 (zawk g.n (zL s 1) g.n)) := zXI_room h (zfr_sL 1 _ (by decide))
    dsimp only [bX1_countUpTo_25]
    rw [hx.mk, if_pos (nI_le (Nat.le_refl _) (by omega))]
  · have hx : zXI g (zsL s 1 (zawk g.n (zL s 1) j)) := zXI_room h (zfr_sL 1 _ (by decide))
    dsimp only [bX1_countUpTo_25, zq_let]
    rw [hx.mk, if_neg (by rw [nI_leI (by omega) (by omega)]; omega), mX1_addFromWithout_eq N hN hx hj, zb2_some, zL_self, zsL_sL, nI_1]
    rfl
theorem xw_pass2 (N : Nat) (hN : 5000 ≤ N) {g : zG} {s : zq_S} (h : zXI g s) (f1 f2 : Int32) (k : zq_S → Option (Unit × zq_S)) :
    zq_loop (bX1_countFrom_38 N f1 f2 k) N (0, s) = k (zsL s 1 (zsh (zL s 1) (zaxk g.n (zhi (zL s 1)) g.n))) := by
  have hn := h.W.n
  have hp := zn_pow hn
  have sh0 : zsh (zL s 1) (zhi (zL s 1)) = zL s 1 := by
    funext q
    unfold zsh zhi
    split
    · rw [show 1024 + (q - 1024) = q by omega]
    · rfl
  have sh2 : ∀ F G H : Nat → Int64, zsh (zsh F G) H = zsh F H := by
    intro F G H
    funext q
    unfold zsh
    split <;> rfl
  have e0 : ((0 : Int32), s) = (fun j => (nI j, zsL s 1 (zsh (zL s 1) (zaxk g.n (zhi (zL s 1)) j)))) 0 := by
    show _ = (nI 0, zsL s 1 (zsh (zL s 1) (zhi (zL s 1))))
    rw [sh0, zsL_same]; rfl
  rw [e0]
  refine zq_up g.n (fun j => (nI j, zsL s 1 (zsh (zL s 1) (zaxk g.n (zhi (zL s 1)) j)))) (fun self => ?_) (fun self j hj => ?_) N 0 (by omega) (by omega)
  · have hx : zXI g (zsL s 1 (zsh (zL s 1) (zaxk g.n (zhi (zL s 1)) g.n))) := zXI_room h (zfr_sL 1 _ (by decide))
    dsimp only [bX1_countFrom_38]
    rw [hx.mk, if_pos (nI_le (Nat.le_refl _) (by omega))]
  · have hx : zXI g (zsL s 1 (zsh (zL s 1) (zaxk g.n (zhi (zL s 1)) j))) := zXI_room h (zfr_sL 1 _ (by decide))
    dsimp only [bX1_countFrom_38, zq_let]
    rw [hx.mk, if_neg (by rw [nI_leI (by omega) (by omega)]; omega), mX1_addFromWith_eq N hN hx hj, zb2_some, zL_self, zsL_sL, nI_1, sh2]
    have ee : zsh (zL s 1) (zax g.n j (zhi (zsh (zL s 1) (zaxk g.n (zhi (zL s 1)) j)))) = zsh (zL s 1) (zaxk g.n (zhi (zL s 1)) (j + 1)) := by
      funext q
      unfold zsh
      by_cases c : 1024 ≤ q ∧ q < 2048
      · rw [if_pos c, if_pos c]
        show zax g.n j _ (q - 1024) = zax g.n j _ (q - 1024)
        unfold zax
        have e : ∀ r, r < 1024 → zhi (fun q => if 1024 ≤ q ∧ q < 2048 then zaxk g.n (zhi (zL s 1)) j (q - 1024) else zL s 1 q) r = zaxk g.n (zhi (zL s 1)) j r := fun r hr => by
          show (if 1024 ≤ 1024 + r ∧ 1024 + r < 2048 then _ else _) = _
          rw [if_pos (by omega), Nat.add_sub_cancel_left]
        by_cases c2 : q - 1024 < 2 ^ g.n ∧ (q - 1024).testBit j = false
        · have := zor_lt c2.1 hj
          rw [if_pos c2, if_pos c2, e _ (by omega), e _ (by omega)]
        · rw [if_neg c2, if_neg c2, e _ (by omega)]
      · rw [if_neg c, if_neg c]
    rw [ee]
theorem xw_upTo (N : Nat) (hN : 5000 ≤ N) {g : zG} {s : zq_S} (h : zXI g s) {c : Nat} (hc : c < g.cp.length) :
    zw (mX1_countUpTo N (nI c) s) (fun v => zXI g v.2 ∧ zXR' s v.2 ∧ ∀ S, S < 2 ^ g.n → zL v.2 1 S = zuT g c S) := by
  have hn := h.W.n
  have hp := zn_pow hn
  have h4 := h.W.cp.1
  unfold mX1_countUpTo
  rw [show (0 : Int32) = nI 0 from rfl, mX1_allowAll_eq N hN (Nat.zero_le _), zb2_some]
  dsimp only
  have h1 : zXI g (zsL s 1 (fun q => if 0 ≤ q ∧ q < 0 + 1024 then 1 else zL s 1 q)) := zXI_room h (zfr_sL 1 _ (by decide))
  have f1 : zXR' s (zsL s 1 (fun q => if 0 ≤ q ∧ q < 0 + 1024 then 1 else zL s 1 q)) := zfr_sL 1 _ (by decide)
  refine zw_call (xw_keep N hN h1 (c := 0) (o := 0) (by omega) (by omega)) (fun r t ⟨k1, k2, k3⟩ => ?_)
  dsimp only at k3
  refine zw_cnt c (fun j v => ∃ t', v = (nI (j + 1), t') ∧ zXI g t' ∧ zXR' s t' ∧ ∀ S, S < 2 ^ g.n → zL t' 1 S = zuT g j S) ?_ ?_ N 0 _ (by omega) (by omega) ⟨t, rfl, k1, f1.tr k2, fun S hS => ?_⟩
  · rintro self v ⟨t', rfl, ht, hq, hL⟩
    dsimp only [bX1_countUpTo_13, jX1_countUpTo_j62]
    rw [if_pos (nI_lt (by omega) (by omega))]
    exact ⟨_, rfl, ht, hq, hL⟩
  · rintro self j v hj ⟨t', rfl, ht, hq, hL⟩ hself
    dsimp only [bX1_countUpTo_13, jX1_countUpTo_j62]
    rw [if_neg (nI_nlt (by omega) (by omega)), if_neg (show ¬ (4 : Int32) ≤ nI (j + 1) by rw [show (4 : Int32) = nI 4 from rfl, nI_leI (by omega) (by omega)]; omega), xw_pass N hN ht]
    have hx : zXI g (zsL t' 1 (zawk g.n (zL t' 1) g.n)) := zXI_room ht (zfr_sL 1 _ (by decide))
    refine zw_call (xw_keep N hN hx (c := j + 1) (o := 0) (by omega) (by omega)) (fun r t2 ⟨l1, l2, l3⟩ => ?_)
    dsimp only [zq_let] at l3 ⊢
    rw [nI_1]
    refine hself _ ⟨t2, rfl, l1, (hq.tr (zfr_sL 1 _ (by decide))).tr l2, fun S hS => ?_⟩
    rw [l3, zL_self]
    dsimp only
    rw [if_pos (by omega), Nat.sub_zero, zawk_eq _ g.n (Nat.le_refl _) S hS]
    unfold zuT
    split
    · show _ = zsr g.n (fun P => zsb P S) (fun P => zuT g j P)
      exact zsr_congr (fun P hP => ⟨zin_n hP, fun _ => hL P hP⟩)
    · rfl
  · rw [k3]
    dsimp only
    rw [if_pos (by omega), Nat.sub_zero, zL_self, if_pos (show 0 ≤ S ∧ S < 0 + 1024 by omega)]
    rfl
theorem xw_from (N : Nat) (hN : 5000 ≤ N) {g : zG} {s : zq_S} (h : zXI g s) {c : Nat} (hc : c < g.cp.length) :
    zw (mX1_countFrom N (nI c) s) (fun v => zXI g v.2 ∧ zXR' s v.2 ∧ (∀ S, S < 2 ^ g.n → zL v.2 1 (1024 + S) = zdT g (g.cp.length - 1 - c) S) ∧ ∀ S, S < 1024 → zL v.2 1 S = zL s 1 S) := by
  have hn := h.W.n
  have hp := zn_pow hn
  have h4 := h.W.cp.1
  unfold mX1_countFrom
  rw [show (1024 : Int32) = nI 1024 from rfl, mX1_allowAll_eq N hN (Nat.le_refl _), zb2_some]
  dsimp only
  have h1 : zXI g (zsL s 1 (fun q => if 1024 ≤ q ∧ q < 1024 + 1024 then 1 else zL s 1 q)) := zXI_room h (zfr_sL 1 _ (by decide))
  have f1 : zXR' s (zsL s 1 (fun q => if 1024 ≤ q ∧ q < 1024 + 1024 then 1 else zL s 1 q)) := zfr_sL 1 _ (by decide)
  have e1 : nI g.cp.length - 1 = nI (g.cp.length - 1) := by
    rw [show g.cp.length = (g.cp.length - 1) + 1 by omega, zn_m1]
    rfl
  rw [h1.c3.2.2.1, e1]
  refine zw_call (xw_keep N hN h1 (c := g.cp.length - 1) (o := 1024) (by omega) (by omega)) (fun r t ⟨k1, k2, k3⟩ => ?_)
  dsimp only [zq_let] at k3 ⊢
  rw [k1.c3.2.2.1]
  have e2 : nI g.cp.length - 2 = nI (g.cp.length - 1) + -1 := by
    rw [← e1]
    show nI g.cp.length - 2 = nI g.cp.length - 1 + -1
    rw [Int32.sub_eq_add_neg, Int32.sub_eq_add_neg, Int32.add_assoc]
    rfl
  rw [e2]
  refine zw_cnt (g.cp.length - 1 - c) (fun d v => ∃ t', v = (nI (g.cp.length - 1 - d) + -1, t') ∧ zXI g t' ∧ zXR' s t' ∧ (∀ S, S < 2 ^ g.n → zL t' 1 (1024 + S) = zdT g d S) ∧ ∀ S, S < 1024 → zL t' 1 S = zL s 1 S) ?_ ?_ N 0 _ (by omega) (by omega) ⟨t, rfl, k1, f1.tr k2, fun S hS => ?_, fun S hS => ?_⟩
  · rintro self v ⟨t', rfl, ht, hq, hL, hL2⟩
    dsimp only [bX1_countFrom_27, jX1_countFrom_j77]
    rw [if_pos]
    · exact ⟨_, rfl, ht, hq, hL, hL2⟩
    · rw [show g.cp.length - 1 - (g.cp.length - 1 - c) = c by omega]
      rcases Nat.eq_zero_or_pos c with z | z
      · subst z; decide
      · obtain ⟨c', rfl⟩ : ∃ c', c = c' + 1 := ⟨c - 1, by omega⟩
        rw [pk_m1]
        exact nI_lt (by omega) (by omega)
  · rintro self d v hd ⟨t', rfl, ht, hq, hL, hL2⟩ hself
    have e3 : nI (g.cp.length - 1 - d) + -1 = nI (g.cp.length - 1 - (d + 1)) := by
      rw [show g.cp.length - 1 - d = (g.cp.length - 1 - (d + 1)) + 1 by omega, pk_m1]
    dsimp only [bX1_countFrom_27, jX1_countFrom_j77]
    rw [e3, if_neg (nI_nlt (by omega) (by omega)), if_neg (nI_nneg (by omega)), xw_pass2 N hN ht]
    have hx : zXI g (zsL t' 1 (zsh (zL t' 1) (zaxk g.n (zhi (zL t' 1)) g.n))) := zXI_room ht (zfr_sL 1 _ (by decide))
    refine zw_call (xw_keep N hN hx (c := g.cp.length - 1 - (d + 1)) (o := 1024) (by omega) (by omega)) (fun r t2 ⟨l1, l2, l3⟩ => ?_)
    dsimp only [zq_let] at l3 ⊢
    refine hself _ ⟨t2, rfl, l1, (hq.tr (zfr_sL 1 _ (by decide))).tr l2, fun S hS => ?_, fun S hS => ?_⟩
    · rw [l3, zL_self]
      dsimp only
      rw [if_pos (by omega), Nat.add_sub_cancel_left]
      unfold zdT
      split
      · show zhi (zsh (zL t' 1) (zaxk g.n (zhi (zL t' 1)) g.n)) S = zsr g.n (fun P => zsb S P) (fun P => zdT g d P)
        rw [zhi_sh _ _ (by omega), zaxk_eq _ g.n (Nat.le_refl _) S hS]
        exact zsr_congr (fun P hP => ⟨zin_n hS, fun _ => hL P hP⟩)
      · rfl
    · rw [l3, zL_self]
      dsimp only
      rw [if_neg (by omega)]
      unfold zsh
      rw [if_neg (by omega)]
      exact hL2 S hS
  · rw [k3]
    dsimp only
    rw [if_pos (by omega), Nat.add_sub_cancel_left, zL_self, if_pos (show 1024 ≤ 1024 + S ∧ 1024 + S < 1024 + 1024 by omega)]
    rfl
  · rw [k3]
    dsimp only
    rw [if_neg (by omega), zL_self]
    rw [if_neg (by omega)]
theorem zuT_bad {g : zG} {c S : Nat} (h : zgd g.mu S g.n = false) : zuT g c S = 0 := by
  unfold zuT ztm
  rw [h]
  rfl
/-- a sum over the good sets -/
theorem zsum_good {mu : Nat → Nat} {n : Nat} (F : Nat → Int64) (hF : ∀ S, S < 2 ^ n → zgd mu S n = false → F S = 0) : ∀ k, k ≤ 2 ^ n → (zgL mu n k).foldl (fun a S => a + F S) 0 = zsi 0 F k := by
  intro k
  induction k with
  | zero => intro _; rfl
  | succ k ih =>
    intro hk
    rw [zgo_s, zsi, ih (by omega)]
    cases q : zgd mu k n with
    | false => rw [if_neg (by decide), hF k (by omega) q, Int64.add_zero]
    | true => rw [if_pos rfl]
theorem xw_rows (N : Nat) (hN : 5000 ≤ N) {g : zG} {s : zq_S} (h : zXI g s) :
    zw (mX1_rowsOfTimes N s) (fun v => v.1 = (if g.cp.length = 0 then 1 else zsi 0 (zuT g (g.cp.length - 1)) (2 ^ g.n)) ∧ zXI g v.2 ∧ zXR' s v.2) := by
  have hn := h.W.n
  have hp := zn_pow hn
  have h4 := h.W.cp.1
  have hl := zgL_len_le g.mu g.n (2 ^ g.n)
  unfold mX1_rowsOfTimes
  rw [h.c3.2.2.1]
  by_cases q : g.cp.length = 0
  · rw [if_pos q, q, if_pos (by rfl)]
    exact ⟨_, rfl, rfl, h, zfr_rfl⟩
  · have e1 : nI g.cp.length - 1 = nI (g.cp.length - 1) := by
      rw [show g.cp.length = (g.cp.length - 1) + 1 by omega, zn_m1]
      rfl
    rw [if_neg q, if_neg (by rw [show (0 : Int32) = nI 0 from rfl, nI_eq (by omega) (by decide)]; exact q), e1]
    refine zw_call (xw_upTo N hN h (c := g.cp.length - 1) (by omega)) (fun r t ⟨k1, k2, k3⟩ => ?_)
    dsimp only at k1 k2 k3
    refine zw_cnt (zgL g.mu g.n (2 ^ g.n)).length (fun j v => ∃ t', v = (((zgL g.mu g.n (2 ^ g.n)).take j).foldl (fun a S => a + zuT g (g.cp.length - 1) S) 0, nI j, t') ∧ zXI g t' ∧ zXG t t') ?_ ?_ N 0 _ (by omega) (by omega) ⟨t, rfl, k1, zfr_rfl⟩
    · rintro self v ⟨t', rfl, ht, hq⟩
      dsimp only [bX1_rowsOfTimes_23]
      refine zw_call (xw_goodCount N hN ht) (fun r t2 ⟨l1, l2, l3, _, _⟩ => ?_)
      dsimp only at l1
      rw [l1, if_pos (nI_le (Nat.le_refl _) (by omega)), List.take_length]
      refine ⟨_, rfl, ?_, l2, k2.tr ((hq.tr l3).mo (by decide) (by decide) (by decide))⟩
      exact zsum_good _ (fun S _ hb => zuT_bad hb) _ (Nat.le_refl _)
    · rintro self j v hj ⟨t', rfl, ht, hq⟩ hself
      obtain ⟨S, e, hS, hg⟩ := zgL_get hj
      dsimp only [bX1_rowsOfTimes_23, zq_let]
      refine zw_call (xw_goodCount N hN ht) (fun r t2 ⟨l1, l2, l3, _, _⟩ => ?_)
      dsimp only at l1
      rw [l1, if_neg (by rw [nI_leI (by omega) (by omega)]; omega)]
      refine zw_call (xw_goodAt N hN l2 e) (fun r t3 ⟨m1, m2, m3, _⟩ => ?_)
      dsimp only at m1
      subst m1
      rw [zck_nI (by omega) (by decide), zgl_nI _ _ (by omega), ((hq.tr l3).tr m3).l 1 (by decide), k3 S hS, nI_1]
      refine hself _ ⟨t3, ?_, m2, (hq.tr l3).tr m3⟩
      rw [zfo_s e]
