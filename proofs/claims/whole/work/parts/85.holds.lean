/-! holds, when: the class -/
theorem zn_xo {S j : Nat} (hj : j < 31) : nI S ^^^ ((1 : Int32) <<< (nI j &&& 31)) = nI (S ^^^ 2 ^ j) := by rw [zn_shl hj, zn_xor]
theorem mX1_addFromWithout_eq (N : Nat) (hN : 5000 ≤ N) {g : zG} {s : zq_S} (h : zXI g s) {m : Nat} (hm : m < g.n) :
    mX1_addFromWithout N (nI m) s = some ((), zsL s 1 (zaw g.n m (zL s 1))) := by
  have hn := h.W.n
  have hp := zn_pow hn
  have h0 : 0 < 2 ^ g.n := Nat.pow_pos (by decide)
  unfold mX1_addFromWithout
  have e0 : ((0 : Int32), s) = (fun k => (nI k, zsL s 1 (fun q => if q < k then zaw g.n m (zL s 1) q else zL s 1 q))) 0 := by
    show _ = (nI 0, zsL s 1 (fun q => if q < 0 then zaw g.n m (zL s 1) q else zL s 1 q))
    have : (fun q => if q < 0 then zaw g.n m (zL s 1) q else zL s 1 q) = zL s 1 := by funext q; rw [if_neg (Nat.not_lt_zero _)]
    rw [this, zsL_same]; rfl
  rw [e0]
  refine zq_up (2 ^ g.n) (fun k => (nI k, zsL s 1 (fun q => if q < k then zaw g.n m (zL s 1) q else zL s 1 q))) (fun self => ?_) (fun self k hk => ?_) N 0 (by omega) (by omega)
  · have hx : zXI g (zsL s 1 (fun q => if q < 2 ^ g.n then zaw g.n m (zL s 1) q else zL s 1 q)) := zXI_room h (zfr_sL 1 _ (by decide))
    dsimp only [bX1_addFromWithout_2, jX1_addFromWithout_j53]
    rw [hx.full N, zb2_some]
    dsimp only
    rw [if_pos (nI_lt (by omega) (by omega))]
    congr 3
    funext q
    by_cases c : q < 2 ^ g.n
    · rw [if_pos c]
    · rw [if_neg c, zaw, if_neg (fun z => c z.1)]
  · have hx : zXI g (zsL s 1 (fun q => if q < k then zaw g.n m (zL s 1) q else zL s 1 q)) := zXI_room h (zfr_sL 1 _ (by decide))
    have hxl := zxor_lt hk hm
    dsimp only [bX1_addFromWithout_2, jX1_addFromWithout_j53, jX1_addFromWithout_j47, zq_let]
    rw [hx.full N, zb2_some]
    dsimp only
    rw [if_neg (nI_nlt (by omega) (by omega)), if_neg (show ¬ (1024 : Int32) ≤ nI k from nI_ge (a := k) (b := 1024) (by omega) (by decide)), zn_bit (by omega) (by omega), nI_1]
    cases q : k.testBit m with
    | false =>
      rw [zif_f]
      congr 3
      funext r
      by_cases c : r = k
      · subst c
        rw [if_neg (Nat.lt_irrefl _), if_pos (by omega), zaw, if_neg (fun z => by rw [q] at z; cases z.2)]
      · by_cases c2 : r < k
        · rw [if_pos c2, if_pos (by omega)]
        · rw [if_neg c2, if_neg (by omega)]
    | true =>
      have hlt : k ^^^ 2 ^ m < k := by
        have hnb : (k ^^^ 2 ^ m).testBit m = false := by rw [zxor_bit, if_pos rfl, q]; rfl
        have e : (k ^^^ 2 ^ m) ||| 2 ^ m = k := by
          apply Nat.eq_of_testBit_eq
          intro i
          rw [zor_bit, zxor_bit]
          by_cases c : i = m
          · rw [if_pos c, c, q]
          · rw [if_neg c, if_neg c]
        have := zor_gt hnb
        omega
      have hnb : (k ^^^ 2 ^ m).testBit m = false := by rw [zxor_bit, if_pos rfl, q]; rfl
      rw [zif_t, zck_nI (by omega) (by decide), zn_xo (by omega), zck_nI (by omega) (by decide), zck_nI (by omega) (by decide), zpl_nI _ _ (by omega), zgl_nI _ _ (by omega), zgl_nI _ _ (by omega), zL_self, zsL_sL, if_neg (Nat.lt_irrefl _), if_pos hlt]
      congr 3
      funext r
      unfold vp_updL
      by_cases c : r = k
      · have z1 : zaw g.n m (zL s 1) (k ^^^ 2 ^ m) = zL s 1 (k ^^^ 2 ^ m) := if_neg (fun z => by rw [hnb] at z; cases z.2)
        rw [c, if_pos rfl, if_pos (by omega), z1, zaw, if_pos ⟨hk, q⟩]
      · rw [if_neg c]
        dsimp only
        by_cases c2 : r < k
        · rw [if_pos c2, if_pos (by omega)]
        · rw [if_neg c2, if_neg (by omega)]
/-- the table at 1024 -/
def zhi (F : Nat → Int64) : Nat → Int64 := fun q => F (1024 + q)
def zsh (F G : Nat → Int64) : Nat → Int64 := fun q => if 1024 ≤ q ∧ q < 2048 then G (q - 1024) else F q
theorem zhi_sh (F G : Nat → Int64) {q : Nat} (h : q < 1024) : zhi (zsh F G) q = G q := by
  unfold zhi zsh
  rw [if_pos (by omega), Nat.add_sub_cancel_left]
theorem zn_1024 (a : Nat) : 1024 + nI a = nI (1024 + a) := by rw [show (1024 : Int32) = nI 1024 from rfl, nI_add]
theorem mX1_addFromWith_eq (N : Nat) (hN : 5000 ≤ N) {g : zG} {s : zq_S} (h : zXI g s) {m : Nat} (hm : m < g.n) :
    mX1_addFromWith N (nI m) s = some ((), zsL s 1 (zsh (zL s 1) (zax g.n m (zhi (zL s 1))))) := by
  have hn := h.W.n
  have hp := zn_pow hn
  have h0 : 0 < 2 ^ g.n := Nat.pow_pos (by decide)
  unfold mX1_addFromWith
  have e0 : ((0 : Int32), s) = (fun k => (nI k, zsL s 1 (zsh (zL s 1) (fun q => if q < k then zax g.n m (zhi (zL s 1)) q else zhi (zL s 1) q)))) 0 := by
    show _ = (nI 0, zsL s 1 (zsh (zL s 1) (fun q => if q < 0 then zax g.n m (zhi (zL s 1)) q else zhi (zL s 1) q)))
    have : zsh (zL s 1) (fun q => if q < 0 then zax g.n m (zhi (zL s 1)) q else zhi (zL s 1) q) = zL s 1 := by
      funext q
      unfold zsh zhi
      dsimp only
      split
      · rw [if_neg (Nat.not_lt_zero _), show 1024 + (q - 1024) = q by omega]
      · rfl
    rw [this, zsL_same]; rfl
  rw [e0]
  refine zq_up (2 ^ g.n) (fun k => (nI k, zsL s 1 (zsh (zL s 1) (fun q => if q < k then zax g.n m (zhi (zL s 1)) q else zhi (zL s 1) q)))) (fun self => ?_) (fun self k hk => ?_) N 0 (by omega) (by omega)
  · have hx : zXI g (zsL s 1 (zsh (zL s 1) (fun q => if q < 2 ^ g.n then zax g.n m (zhi (zL s 1)) q else zhi (zL s 1) q))) := zXI_room h (zfr_sL 1 _ (by decide))
    dsimp only [bX1_addFromWith_2, jX1_addFromWith_j61]
    rw [hx.full N, zb2_some]
    dsimp only
    rw [if_pos (nI_lt (by omega) (by omega))]
    congr 4
    funext q
    by_cases c : q < 2 ^ g.n
    · rw [if_pos c]
    · rw [if_neg c, zax, if_neg (fun z => c z.1)]
  · have hx : zXI g (zsL s 1 (zsh (zL s 1) (fun q => if q < k then zax g.n m (zhi (zL s 1)) q else zhi (zL s 1) q))) := zXI_room h (zfr_sL 1 _ (by decide))
    have hxl := zor_lt hk hm
    dsimp only [bX1_addFromWith_2, jX1_addFromWith_j61, jX1_addFromWith_j55, zq_let]
    rw [hx.full N, zb2_some]
    dsimp only
    rw [if_neg (nI_nlt (by omega) (by omega)), if_neg (show ¬ (1024 : Int32) ≤ nI k from nI_ge (a := k) (b := 1024) (by omega) (by decide)), zn_bit (by omega) (by omega), nI_1]
    cases q : k.testBit m with
    | true =>
      rw [zif_t]
      congr 4
      funext r
      by_cases c : r = k
      · subst c
        rw [if_neg (Nat.lt_irrefl _), if_pos (by omega), zax, if_neg (fun z => by rw [q] at z; cases z.2)]
      · by_cases c2 : r < k
        · rw [if_pos c2, if_pos (by omega)]
        · rw [if_neg c2, if_neg (by omega)]
    | false =>
      have hgt := zor_gt q
      have r1 : ∀ G : Nat → Int64, zsh (zL s 1) G (1024 + k) = G k := fun G => by unfold zsh; rw [if_pos (by omega), Nat.add_sub_cancel_left]
      have r2 : ∀ G : Nat → Int64, zsh (zL s 1) G (1024 + (k ||| 2 ^ m)) = G (k ||| 2 ^ m) := fun G => by unfold zsh; rw [if_pos (by omega), Nat.add_sub_cancel_left]
      rw [zif_f, zn_shl (by omega), zn_or, zn_1024, zn_1024, zck_nI (by omega) (by decide), zck_nI (by omega) (by decide), zck_nI (by omega) (by decide), zpl_nI _ _ (by omega), zgl_nI _ _ (by omega), zgl_nI _ _ (by omega), zL_self, zsL_sL, r1, r2, if_neg (Nat.lt_irrefl _), if_neg (by omega)]
      congr 3
      funext r
      unfold vp_updL zsh
      by_cases c : r = 1024 + k
      · rw [c, if_pos rfl, if_pos (by omega), Nat.add_sub_cancel_left]
        dsimp only
        rw [if_pos (by omega), zax, if_pos ⟨hk, q⟩]
      · rw [if_neg c]
        by_cases c1 : 1024 ≤ r ∧ r < 2048
        · rw [if_pos c1, if_pos c1]
          dsimp only
          by_cases c2 : r - 1024 < k
          · rw [if_pos c2, if_pos (by omega)]
          · rw [if_neg c2, if_neg (by omega)]
        · rw [if_neg c1, if_neg c1]
theorem mX1_allowAll_eq (N : Nat) (hN : 5000 ≤ N) {o : Nat} (ho : o ≤ 1024) (s : zq_S) : mX1_allowAll N (nI o) s = some ((), zsL s 1 (fun q => if o ≤ q ∧ q < o + 1024 then 1 else zL s 1 q)) := by
  unfold mX1_allowAll
  have e0 : ((0 : Int32), s) = (fun k => (nI k, zsL s 1 (fun q => if o ≤ q ∧ q < o + k then 1 else zL s 1 q))) 0 := by
    show _ = (nI 0, zsL s 1 (fun q => if o ≤ q ∧ q < o + 0 then 1 else zL s 1 q))
    have : (fun q => if o ≤ q ∧ q < o + 0 then (1 : Int64) else zL s 1 q) = zL s 1 := by funext q; rw [if_neg (by omega)]
    rw [this, zsL_same]; rfl
  rw [e0]
  refine zq_up 1024 (fun k => (nI k, zsL s 1 (fun q => if o ≤ q ∧ q < o + k then 1 else zL s 1 q))) (fun self => ?_) (fun self k hk => ?_) N 0 (by omega) (by omega)
  · dsimp only [bX1_allowAll_2]
    rw [if_pos (by decide)]
  · dsimp only [bX1_allowAll_2, zq_let]
    rw [if_neg (show ¬ (1024 : Int32) ≤ nI k from nI_ge (a := k) (b := 1024) (by omega) (by decide)), nI_add, zck_nI (by omega) (by decide), zpl_nI _ _ (by omega), zL_self, zsL_sL, nI_1]
    congr 3
    funext q
    unfold vp_updL
    by_cases c : q = o + k
    · rw [if_pos c, if_pos (by omega)]
    · rw [if_neg c]
      dsimp only
      by_cases c2 : o ≤ q ∧ q < o + k
      · rw [if_pos c2, if_pos (by omega)]
      · rw [if_neg c2, if_neg (by omega)]
abbrev zXR' (s t : zq_S) : Prop := zfr [(31, 7), (31, 9)] [37, 41] [1, 40, 55] s t
theorem zXR_Q {s t : zq_S} (h : zXR' s t) : zXQ s t := h.mo (by decide) (by decide) (by decide)
theorem xw_keep (N : Nat) (hN : 5000 ≤ N) {g : zG} {s : zq_S} (h : zXI g s) {c o : Nat} (hc : c < g.cp.length) (ho : o ≤ 1024) :
    zw (mX1_keepTimes N (nI c) (nI o) s) (fun v => zXI g v.2 ∧ zXR' s v.2 ∧ zL v.2 1 = fun q => if o ≤ q ∧ q < o + 2 ^ g.n then (if ztm g c (q - o) then zL s 1 q else 0) else zL s 1 q) := by
  have hn := h.W.n
  have hp := zn_pow hn
  have h0 : 0 < 2 ^ g.n := Nat.pow_pos (by decide)
  have hcl : g.cp[c]? = some (g.cp.getD c []) := by rw [List.getElem?_eq_getElem hc, List.getD_eq_getElem?_getD, List.getElem?_eq_getElem hc]; rfl
  have h4 := h.W.cp.1
  unfold mX1_keepTimes
  refine zw_cnt (2 ^ g.n) (fun k v => ∃ t, v = (nI k, t) ∧ zXI g t ∧ zXR' s t ∧ zL t 1 = fun q => if o ≤ q ∧ q < o + k then (if ztm g c (q - o) then zL s 1 q else 0) else zL s 1 q) ?_ ?_ N 0 _ (by omega) (by omega) ⟨s, rfl, h, zfr_rfl, by funext q; rw [if_neg (by omega)]⟩
  · rintro self v ⟨t, rfl, ht, hq, hL⟩
    dsimp only [bX1_keepTimes_2, jX1_keepTimes_j89]
    rw [ht.full N, zb2_some]
    dsimp only
    rw [if_pos (nI_lt (by omega) (by omega))]
    exact ⟨_, rfl, ht, hq, hL⟩
  · rintro self k v hk ⟨t, rfl, ht, hq, hL⟩ hself
    have k1 := zlt_pow hn hk
    dsimp only [bX1_keepTimes_2, jX1_keepTimes_j89, jX1_keepTimes_j55, jX1_keepTimes_j56, jX1_keepTimes_j82, zq_let]
    rw [ht.full N, zb2_some]
    dsimp only
    rw [if_neg (nI_nlt (by omega) (by omega)), if_neg (show ¬ (1024 : Int32) ≤ nI k from nI_ge (a := k) (b := 1024) (by omega) (by decide)), ht.isg N hN hk, zb2_some, nI_add, nI_1]
    dsimp only
    have fin : ∀ t2, zXI g t2 → zXG t t2 → ∀ x : Int64, x = (if ztm g c k then zL s 1 (o + k) else 0) → zw (zq_ck (nI (o + k)) 4096 (self (nI (k + 1), zpl t2 1 (nI (o + k)) x))) (fun v => zXI g v.2 ∧ zXR' s v.2 ∧ zL v.2 1 = fun q => if o ≤ q ∧ q < o + 2 ^ g.n then (if ztm g c (q - o) then zL s 1 q else 0) else zL s 1 q) := by
      intro t2 a b x hx
      rw [zck_nI (by omega) (by decide), zpl_nI _ _ (by omega)]
      refine hself _ ⟨_, rfl, zXI_room a (zfr_sL 1 _ (by decide)), (hq.tr (b.mo (by decide) (by decide) (by decide))).tr (zfr_sL 1 _ (by decide)), ?_⟩
      rw [zL_self, b.l 1 (by decide), hL]
      funext q
      unfold vp_updL
      by_cases e : q = o + k
      · rw [if_pos e, if_pos (by omega), e, Nat.add_sub_cancel_left]; exact hx
      · rw [if_neg e]
        dsimp only
        by_cases e2 : o ≤ q ∧ q < o + k
        · rw [if_pos e2, if_pos (show o ≤ q ∧ q < o + (k + 1) by omega)]
        · rw [if_neg e2, if_neg (by omega)]
    cases hg : zgd g.mu k g.n with
    | false =>
      rw [zif_f, if_pos rfl]
      refine fin t ht zfr_rfl 0 ?_
      rw [ztm, hg]; rfl
    | true =>
      rw [zif_t]
      refine zw_call (xw_with N hN ht k1) (fun r t2 ⟨m1, m2, m3, _⟩ => ?_)
      obtain ⟨c4, hr⟩ := m1.cr hcl
      rw [mX8_isAlike_l N hN m1.f51 m1.f39 (show c < zfS true by show c < 5; omega) hr k1 (zMd_row m1 k1 m3), zb2_some]
      dsimp only
      by_cases e : g.cp.getD c [] = ztx g.T k
      · rw [if_pos e, if_neg (show ¬ (1 : Int32) = 0 by decide), if_neg (show ¬ (1 : Int32) = 0 by decide), zck_nI (by omega) (by decide)]
        refine fin t2 m1 m2 _ ?_
        rw [zgl_nI _ _ (by omega), m2.l 1 (by decide), hL]
        have e3 : ztm g c k = true := by rw [ztm, hg, decide_eq_true e.symm]; rfl
        dsimp only
        rw [if_neg (by omega), e3, if_pos rfl]
      · rw [if_neg e, if_pos rfl, if_pos rfl]
        refine fin t2 m1 m2 0 ?_
        rw [ztm, hg, decide_eq_false (fun z => e z.symm)]
        rfl
