/-! fault, mark, count, good, next, orders, order, ahead, place -/
theorem pub_fault (N : Nat) {g : zG} : zAg g g (mX11_fault N) (mX12_fault N) :=
  ⟨g.fp, fun s h => ⟨_, rfl, h.c5.2.2, h, zSM_rfl⟩, fun s h => ⟨_, rfl, h.c5.2.2, h, zSX_rfl⟩⟩
theorem pub_mark (N : Nat) (hN : 5000 ≤ N) {g : zG} (hW : zGW g) (p q : Int32) : zAg g g (mX11_mark N p q) (mX12_mark N p q) := by
  have hn := hW.n
  rcases zarg (c := g.n) (by omega) p with z | ⟨m, hm, rfl, z⟩
  · refine ⟨-1001, fun s h => ?_, fun s h => ?_⟩
    · unfold mX11_mark
      rw [h.hm N, if_neg z, zb2_some]
      exact ⟨_, rfl, rfl, h, zSM_rfl⟩
    · unfold mX12_mark
      rw [h.im N, if_neg z, zb2_some]
      exact ⟨_, rfl, rfl, h, zSX_rfl⟩
  · refine ⟨if q = 0 then nI (g.S.kd m) else if q = 1 then nI (g.ik m) else if q = 2 then nI (g.mu m) else if q = 3 then nI (zbh g.mu m g.n) else if q = 4 then nI (g.S.ns m) else if q = 5 then nI (g.S.dp m) else -1002, fun s h => ?_, fun s h => ?_⟩
    · unfold mX11_mark
      have a0 : zga s (zs (zgb s 0) + 5) (nI m) = nI (g.S.kd m) := by rw [zga_nI _ _ (by omega)]; exact h.2.1.2.2.2.2.2.2.2.1 m hm
      have a4 : zga s (zs (zgb s 0) + 7) (nI m) = nI (g.S.ns m) := by rw [zga_nI _ _ (by omega)]; exact h.2.1.2.2.2.2.2.2.2.2.1 m hm
      have a5 : zga s (zs (zgb s 0) + 8) (nI m) = nI (g.S.dp m) := by rw [zga_nI _ _ (by omega)]; exact h.2.1.2.2.2.2.2.2.2.2.2.1 m hm
      rw [h.hm N, if_pos z, zb2_some]
      dsimp only
      rw [if_neg (show ¬ (1 : Int32) = 0 by decide)]
      simp only [zck_nI (show m < 10 by omega) (show 10 < 2 ^ 31 by decide), a0, a4, a5, zga_nI _ _ (show m < 2 ^ 31 by omega), h.ik m hm, h.bf m hm, h.bh m hm]
      repeat' split
      all_goals exact ⟨_, rfl, rfl, h, zSM_rfl⟩
    · unfold mX12_mark
      rw [h.im N, if_pos z, zb2_some]
      dsimp only
      rw [if_neg (show ¬ (1 : Int32) = 0 by decide), mX12_behind_eq N hN hn h.mk h.mu hW.mu (by omega), zb2_some]
      simp only [zck_nI (show m < 10 by omega) (show 10 < 2 ^ 31 by decide), zga_nI _ _ (show m < 2 ^ 31 by omega), h.ik m hm, h.mu m hm, h.2.1.2.2.2.2.1 m hm, h.2.1.2.2.2.2.2.1 m hm, h.2.1.2.2.2.2.2.2.1 m hm]
      repeat' split
      all_goals exact ⟨_, rfl, rfl, h, zSX_rfl⟩
/-- the inks that are used -/
def ziu (ik : Nat → Nat) : Nat → Nat
  | 0 => 0
  | m + 1 => ziu ik m ||| 2 ^ ik m
theorem ziu_lt {ik : Nat → Nat} : ∀ n, (∀ m, m < n → ik m < 4) → ziu ik n < 16 := by
  intro n
  induction n with
  | zero => intro _; exact (show (0 : Nat) < 16 by decide)
  | succ n ih =>
    intro h
    unfold ziu
    exact Nat.or_lt_two_pow (n := 4) (ih (fun m hm => h m (by omega))) (Nat.pow_lt_pow_right (by decide) (h n (by omega)))
theorem xw_inks (N : Nat) (hN : 5000 ≤ N) {g : zG} {s : zq_S} (h : zXI g s) : mX3_inksInUse N s = some (nI (zbc (ziu g.ik g.n) 10), s) := by
  have hn := h.W.n
  unfold mX3_inksInUse
  have e0 : ((0 : Int32), (0 : Int32), s) = (fun j => (nI (ziu g.ik j), nI j, s)) 0 := rfl
  rw [e0]
  refine zq_up g.n (fun j => (nI (ziu g.ik j), nI j, s)) (fun self => ?_) (fun self j hj => ?_) N 0 (by omega) (by omega)
  · have := ziu_lt g.n h.W.ik
    dsimp only [bX3_inksInUse_4]
    rw [h.mk, if_pos (nI_le (Nat.le_refl _) (by omega)), mJ6_bc N (by omega), zb2_some]
  · have hik := h.W.ik j hj
    dsimp only [bX3_inksInUse_4, zq_let]
    rw [h.mk, if_neg (by rw [nI_leI (by omega) (by omega)]; omega), zck_nI (by omega) (by decide), zga_nI _ _ (by omega), h.ik j hj, zn_shl (by omega), zn_or, nI_1]
    rfl
theorem mw_inks (N : Nat) (hN : 5000 ≤ N) {g : zG} {s : zq_S} (h : zMI g s) (p : Int32) (k : Int32 × zq_S → Option (Int32 × zq_S)) : zq_loop (bX12_count_4 N p k) N (0, 0, s) = k (nI (ziu g.ik g.n), s) := by
  have hn := h.W.n
  have e0 : ((0 : Int32), (0 : Int32), s) = (fun j => (nI (ziu g.ik j), nI j, s)) 0 := rfl
  rw [e0]
  refine zq_up g.n (fun j => (nI (ziu g.ik j), nI j, s)) (fun self => ?_) (fun self j hj => ?_) N 0 (by omega) (by omega)
  · dsimp only [bX12_count_4]
    rw [h.mk, if_pos (nI_le (Nat.le_refl _) (by omega))]
  · have hik := h.W.ik j hj
    dsimp only [bX12_count_4, zq_let]
    rw [h.mk, if_neg (by rw [nI_leI (by omega) (by omega)]; omega), zck_nI (by omega) (by decide), zga_nI _ _ (by omega), h.ik j hj, zn_shl (by omega), zn_or, nI_1]
    rfl
theorem pub_count (N : Nat) (hN : 5000 ≤ N) {g : zG} (hW : zGW g) (hmd : g.md = false) (p : Int32) : zAg g g (mX11_count N p) (mX12_count N p) := by
  have hn := hW.n
  have hu := ziu_lt g.n hW.ik
  refine ⟨if p = 0 then nI g.n else if p = 1 then nI g.S.wn else if p = 2 then nI g.hd.length else if p = 3 then nI g.dr.length else if p = 4 then nI g.cp.length else if p = 5 then nI g.nb else if p = 6 then nI (zbc (ziu g.ik g.n) 10) else if p = 7 then nI (zP g.n g.mu g.ik (fun _ => 0) 0 0).1 else -1002, fun s h => ?_, fun s h => ?_⟩
  · unfold mX11_count
    rw [h.mk0, show zgf s (zs (zgb s 0)) 8 = nI g.S.wn from h.2.1.2.2.2.2.1, h.c5.1, h.c3.2.2.1, h.c4.1, show (4 : Int32) = nI 4 from rfl, mX8_sizeOf_row N h.f51 (show 4 < zfS true by decide) h.c3.2.1, xw_inks N hN h, zb2_some, zb2_some]
    repeat' split
    any_goals exact ⟨_, rfl, rfl, h, zSM_rfl⟩
    refine zw_call (xw_few N hN hmd h) (fun r t ⟨k1, k2, k3, _⟩ => ?_)
    exact ⟨_, rfl, k1, k2, zXQ_SM k3⟩
  · unfold mX12_count
    rw [mw_inks N hN h]
    dsimp only
    rw [h.mk, show zgf s 57 5 = nI g.S.wn from h.2.1.2.1, h.c5.1, h.c3.1, h.c3.2.2.1, h.c4.1, mX12_bits_eq N hN (by omega), zb2_some]
    repeat' split
    any_goals exact ⟨_, rfl, rfl, h, zSX_rfl⟩
    refine zw_call (mw_fewest N hN h) (fun r t ⟨k1, k2, k3⟩ => ?_)
    exact ⟨_, rfl, k1, k2, zMQ_SX k3⟩
theorem pub_good (N : Nat) (hN : 5000 ≤ N) {g : zG} (hW : zGW g) (p : Int32) : zAg g g (mX11_good N p) (mX12_good N p) := by
  refine ⟨zat (zgL g.mu g.n (2 ^ g.n)) p, fun s h => ?_, fun s h => ?_⟩
  · unfold mX11_good jX11_good_j23
    by_cases e : p = -1
    · rw [if_pos e]
      refine zw_call (xw_goodCount N hN h) (fun r t ⟨k1, k2, k3, _, _⟩ => ?_)
      refine ⟨_, rfl, ?_, k2, zXG_SM k3⟩
      dsimp only at k1 ⊢
      rw [k1, e]; rfl
    · rw [if_neg e]
      obtain ⟨s', e1, q⟩ := mX3_goodAt_eq N hN h.xm h.gd p e
      rw [e1, zb2_some]
      refine ⟨_, rfl, rfl, ?_⟩
      rcases q with rfl | ⟨o, rfl⟩
      · exact ⟨h, zSM_rfl⟩
      · exact ⟨(zXI_G3 h o).1, zXG_SM (zXI_G3 h o).2⟩
  · unfold mX12_good
    refine zw_call (mw_find N hN h) (fun r t ⟨k1, k2, k3, k4, k5⟩ => ?_)
    rw [mX12_good_loop N hN hW.n k1.mk k5.1]
    exact ⟨_, rfl, rfl, k1, zMG_SX k2⟩
theorem pub_next (N : Nat) (hN : 5000 ≤ N) {g : zG} (hW : zGW g) (p : Int32) : zAg g g (mX11_next N p) (mX12_next N p) := by
  rcases zargS hW.n p with z | ⟨S, hS, rfl, z⟩
  · refine ⟨-1001, fun s h => ?_, fun s h => ?_⟩
    · unfold mX11_next
      rw [h.rf0 N hN z, zb2_some]
      exact ⟨_, rfl, rfl, h, zSM_rfl⟩
    · unfold mX12_next
      rw [h.ar N, if_neg z, zb2_some]
      exact ⟨_, rfl, rfl, h, zSX_rfl⟩
  · have h1 := zlt_pow hW.n hS
    refine ⟨if zgd g.mu S g.n then nI (znx g.mu S g.n) else -1003, fun s h => ?_, fun s h => ?_⟩
    · unfold mX11_next
      rw [h.rf N hN hS, zb2_some]
      cases hg : zgd g.mu S g.n with
      | false => exact ⟨_, rfl, rfl, h, zSM_rfl⟩
      | true =>
        dsimp only
        rw [if_pos rfl, if_pos rfl, h.fol N hN hS, zb2_some]
        exact ⟨_, rfl, (if_pos rfl).symm, h, zSM_rfl⟩
    · unfold mX12_next
      rw [h.ar N, if_pos z, zb2_some]
      dsimp only
      rw [if_neg (by decide)]
      unfold mX12_isGoodSet
      rw [zw_b2, zw_b2]
      refine zw_mono (mw_find N hN h) ?_
      rintro ⟨r, t⟩ ⟨k1, k2, k3, k4, k5⟩
      dsimp only at k1 k2 k5 ⊢
      rw [zck_nI h1 (by decide), zga_nI _ _ (by omega), k5.1 S hS]
      cases hg : zgd g.mu S g.n with
      | false =>
        rw [zib_f, zb_0, zw_some]
        exact ⟨_, rfl, rfl, k1, zMG_SX k2⟩
      | true =>
        rw [zib_t, zb_1, zw_some]
        dsimp only
        rw [if_neg (by decide), zck_nI h1 (by decide), zga_nI _ _ (by omega), k5.2.1 S hS]
        exact ⟨_, rfl, (if_pos rfl).symm, k1, zMG_SX k2⟩
/-- behind Orders.number -/
theorem zXI_num {g : zG} {s s' : zq_S} (h : zXI g s) (hw : zWV s' g.n g.mu) (hv : zgf s' 44 5 = zgf s 31 8) (hs : s' = s ∨ ∃ o T, s' = zsL (zG3 (zpf s 44 5 (zgf s 31 8)) (zli (zgL g.mu g.n (2 ^ g.n)) o) (nI (zgL g.mu g.n (2 ^ g.n)).length)) 45 T) : zXI g s' ∧ zSM s s' := by
  rcases hs with rfl | ⟨o, T, rfl⟩
  · exact ⟨h, zSM_rfl⟩
  · have fq : zfr [(31, 7), (31, 9), (44, 5)] [37] [45] s (zsL (zG3 (zpf s 44 5 (zgf s 31 8)) (zli (zgL g.mu g.n (2 ^ g.n)) o) (nI (zgL g.mu g.n (2 ^ g.n)).length)) 45 T) := by
      refine ⟨fun k j q => ?_, fun _ => rfl, fun k q => ?_, fun k q => ?_⟩
      · simp only [List.mem_cons, Prod.mk.injEq, List.not_mem_nil, or_false] at q
        rw [zgf_sL, zG3_f _ _ _ (by omega), zgf_pf, if_neg (by omega)]
      · simp only [List.mem_cons, List.not_mem_nil, or_false] at q
        rw [zA_sL, zG3_A _ _ _ (by omega)]; rfl
      · simp only [List.mem_cons, List.not_mem_nil, or_false] at q
        rw [zL_ne _ (by omega)]; rfl
    have fQ : zXQ s (zsL (zG3 (zpf s 44 5 (zgf s 31 8)) (zli (zgL g.mu g.n (2 ^ g.n)) o) (nI (zgL g.mu g.n (2 ^ g.n)).length)) 45 T) := fq.mo (by decide) (by decide) (by decide)
    refine ⟨zXI_Q h fQ ?_, zXQ_SM fQ⟩
    obtain ⟨⟨v, h1, h2, h3, h4, h5, h6⟩, h7, h8, h9, h10, h11⟩ := h.ca
    refine ⟨⟨v, h1, h2, ?_, ?_, h5, h6⟩, ?_, fun _ => hw, h9, ?_, ?_⟩
    · show zvo v (zgf s 31 8)
      rw [h2]
      exact Or.inr ⟨v, Nat.le_refl _, rfl⟩
    · rw [hv, h2]
      exact Or.inr ⟨v, Nat.le_refl _, rfl⟩
    · exact fun _ => ⟨rfl, o, rfl⟩
    · exact fun m q => h10 m q
    · exact fun m q => h11 m q
theorem pub_orders (N : Nat) (hN : 5000 ≤ N) {g : zG} (hW : zGW g) : zAg g g (mX11_orders N) (mX12_orders N) := by
  refine ⟨lN (zW g.n g.mu 0), fun s h => ?_, fun s h => ?_⟩
  · obtain ⟨s', e, h1, h2, h3⟩ := mX4_number_eq N hN h.xm h.gd h.wv
    unfold mX11_orders
    rw [e, zb2_some]
    exact ⟨_, rfl, rfl, zXI_num h h1 h2 h3⟩
  · unfold mX12_orders
    refine zw_call (mw_find N hN h) (fun r t ⟨k1, k2, k3, k4, k5⟩ => ?_)
    rw [show (0 : Int32) = nI 0 from rfl, zck_nI (by decide) (by decide), zgl_nI _ _ (by decide), zrec_W k5.2.2.2 0 (Nat.pow_pos (by decide)) (zgd_zero _ _)]
    exact ⟨_, rfl, rfl, k1, zMG_SX k2⟩
theorem pub_order (N : Nat) (hN : 5000 ≤ N) {g : zG} (hW : zGW g) (i : Int64) (j : Int32) : zAg g g (mX11_order N i j) (mX12_order N i j) := by
  refine ⟨zOrd g.n g.mu i j, fun s h => ?_, fun s h => ?_⟩
  · unfold mX11_order jX11_order_j21
    by_cases hi : i < 0
    · rw [if_neg]
      · refine ⟨_, rfl, ?_, h, zSM_rfl⟩
        unfold zOrd
        rw [if_pos hi]
      · rw [lgc_ge0, Int64.le_iff_toInt_le]
        rw [Int64.lt_iff_toInt_lt] at hi
        omega
    · rw [if_pos]
      · obtain ⟨s', e, h1, h2, h3⟩ := mX4_markAt_eq N hN h.xm h.gd h.wv i j hi
        rw [e, zb2_some]
        exact ⟨_, rfl, rfl, zXI_num h h1 h2 h3⟩
      · rw [lgc_ge0, Int64.le_iff_toInt_le]
        rw [Int64.lt_iff_toInt_lt] at hi
        omega
  · obtain ⟨s', e, h1⟩ := mX12_order_eq N hN hW.n h.mk h.mu hW.mu h.cm.1 i j
    refine ⟨_, e, rfl, ?_⟩
    rcases h1 with rfl | ⟨a, b, c, d, rfl, hF⟩
    · exact ⟨h, zSX_rfl⟩
    · exact ⟨zMI_Q h (zMG_Q (zM4_fr s a b c d)) ⟨Or.inr ⟨rfl, hF⟩, h.cm.2⟩, zMG_SX (zM4_fr s a b c d)⟩
theorem pub_ahead (N : Nat) (hN : 5000 ≤ N) {g : zG} (hW : zGW g) (p q : Int32) : zAg2 g g (mX11_ahead N p q) (mX12_ahead N p q) := by
  have hn := hW.n
  intro s t h k
  rcases mX12_ahead_eq N hN hn k.mk k.mu hW.mu k.cm.1 p q with ⟨hc, e⟩ | ⟨a, b, ha, hb, hab, rfl, rfl, hr⟩
  · refine ⟨-1001, ?_, ⟨_, e, rfl, k, zSX_rfl⟩⟩
    unfold mX11_ahead jX11_ahead_j27
    rw [h.hm N, zb2_some]
    dsimp only
    by_cases c1 : ¬ p < 0 ∧ ¬ nI g.n ≤ p
    · rw [if_pos c1, if_neg (show ¬ (1 : Int32) = 0 by decide), h.hm N, zb2_some]
      dsimp only
      by_cases c2 : ¬ q < 0 ∧ ¬ nI g.n ≤ q
      · rw [if_pos c2, if_neg (show ¬ (1 : Int32) = 0 by decide), if_pos]
        · exact ⟨_, rfl, rfl, h, zSM_rfl⟩
        · rcases hc with z | z | z
          · exact absurd c1 z
          · exact absurd c2 z
          · exact z
      · rw [if_neg c2, if_pos rfl]
        exact ⟨_, rfl, rfl, h, zSM_rfl⟩
    · rw [if_neg c1, if_pos rfl]
      exact ⟨_, rfl, rfl, h, zSM_rfl⟩
  · obtain ⟨o, T, r, e, hA⟩ := mX4_numberWith_eq N hN h.xm h.gd ha hb
    obtain ⟨p', q', c, d, e2, hF⟩ := hr r hA
    refine ⟨r, ?_, ⟨_, e2, rfl, zMI_Q k (zMG_Q (zM4_fr t p' q' c d)) ⟨Or.inr ⟨rfl, hF⟩, k.cm.2⟩, zMG_SX (zM4_fr t p' q' c d)⟩⟩
    have va : ∀ m, m < g.n → (¬ nI m < 0 ∧ ¬ nI g.n ≤ nI m) := fun m hm => ⟨nI_nneg (by omega), by rw [nI_leI (by omega) (by omega)]; omega⟩
    unfold mX11_ahead jX11_ahead_j27
    rw [h.hm N, if_pos (va a ha), zb2_some]
    dsimp only
    rw [if_neg (show ¬ (1 : Int32) = 0 by decide), h.hm N, if_pos (va b hb), zb2_some]
    dsimp only
    rw [if_neg (show ¬ (1 : Int32) = 0 by decide), if_neg (by rw [nI_eq (by omega) (by omega)]; exact hab), e, zb2_some]
    have h3 := zXI_G3 h o
    exact ⟨_, rfl, rfl, zXI_room h3.1 (zfr_sL 1 _ (by decide)), zXQ_SM ((zXG_Q h3.2).tr (zfr_sL 1 _ (by decide)))⟩
theorem pub_place (N : Nat) (hN : 5000 ≤ N) {g : zG} (hW : zGW g) (p q : Int32) : zAg g g (mX11_place N p q) (mX12_place N p q) := by
  have hn := hW.n
  have hp := zn_pow hn
  rcases zarg (c := g.n) (by omega) p with z | ⟨m, hm, rfl, z⟩
  · refine ⟨-1001, fun s h => ?_, fun s h => ?_⟩
    · unfold mX11_place
      rw [h.hm N, if_neg z, zb2_some]
      exact ⟨_, rfl, rfl, h, zSM_rfl⟩
    · unfold mX12_place
      rw [h.im N, if_neg z, zb2_some]
      exact ⟨_, rfl, rfl, h, zSX_rfl⟩
  · have hmu := hW.mu m hm
    have hbh := zbh_lt (n := g.n) g.mu m g.n (Nat.le_refl _)
    refine ⟨if q = 0 then nI (zbc (g.mu m) 10) else if q = 1 then nI g.n - 1 - nI (zbc (zbh g.mu m g.n) 10) else -1002, fun s h => ?_, fun s h => ?_⟩
    · unfold mX11_place jX11_place_j65
      rw [h.hm N, if_pos z, zb2_some]
      dsimp only
      rw [if_neg (show ¬ (1 : Int32) = 0 by decide), zck_nI (by omega) (by decide), zck_nI (by omega) (by decide), zga_nI _ _ (by omega), zga_nI _ _ (by omega), h.bf m hm, h.bh m hm, mJ6_bc N (by omega), mJ6_bc N (by omega), zb2_some, zb2_some, h.mk0]
      repeat' split
      all_goals exact ⟨_, rfl, rfl, h, zSM_rfl⟩
    · unfold mX12_place jX12_place_j54
      rw [h.im N, if_pos z, zb2_some]
      dsimp only
      rw [if_neg (show ¬ (1 : Int32) = 0 by decide), zck_nI (by omega) (by decide), zga_nI _ _ (by omega), h.mu m hm, mX12_bits_eq N hN (by omega), zb2_some, mX12_behind_eq N hN hn h.mk h.mu hW.mu (by omega), zb2_some]
      dsimp only
      rw [mX12_bits_eq N hN (by omega), zb2_some, h.mk]
      repeat' split
      all_goals exact ⟨_, rfl, rfl, h, zSX_rfl⟩
