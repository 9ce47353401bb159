/-! sessions: the class's tables and answers -/
abbrev zXC (s t : zq_S) : Prop := zfr [(31, 7), (31, 9)] [37, 41] [1, 40, 48, 55] s t
theorem xw_bb (N : Nat) (hN : 5000 ≤ N) {g : zG} {s : zq_S} (h : zXI g s) {S : Nat} (hS : S < 1024) :
    zw (mX6_breaksBehind N (nI S) s) (fun v => v.1 = lN (zbks g.bs (ztx g.T S)) ∧ zXI g v.2 ∧ zXG s v.2) := by
  have hbr := zbr_le h.W true S
  unfold mX6_breaksBehind
  refine zw_call (xw_with N hN h hS) (fun r t ⟨h1, h2, h3, _⟩ => ?_)
  rw [xw_breaks N hN h1 hS h3, zb2_some]
  refine ⟨_, rfl, nI_l ?_, h1, h2⟩
  have : zbr g true S = zbks g.bs (ztx g.T S) := rfl
  omega
theorem zgL_two {g : zG} (hW : zGW g) (h0 : g.n ≠ 0) : 2 ≤ (zgL g.mu g.n (2 ^ g.n)).length ∧ 2 ≤ 2 ^ g.n := by
  have h2 : 2 ≤ 2 ^ g.n := by
    obtain ⟨k, hk⟩ : ∃ k, g.n = k + 1 := ⟨g.n - 1, by omega⟩
    rw [hk, Nat.pow_succ]
    have := Nat.pow_pos (n := k) (show 0 < 2 by decide)
    omega
  refine ⟨?_, h2⟩
  obtain ⟨e0, l0⟩ := zgL_0 g.mu g.n
  have hm : 2 ^ g.n - 1 ∈ zgL g.mu g.n (2 ^ g.n) := zgL_mem.mpr ⟨by omega, zgd_full hW.mu⟩
  obtain ⟨i, hi, e⟩ := List.getElem_of_mem hm
  have e1 : (zgL g.mu g.n (2 ^ g.n))[i]? = some (2 ^ g.n - 1) := List.getElem?_eq_some_iff.mpr ⟨hi, e⟩
  rcases Nat.eq_zero_or_pos i with z | z
  · rw [z, e0] at e1
    have := Option.some.inj e1
    omega
  · omega
theorem zgL_next {g : zG} {k S m : Nat} (hk : (zgL g.mu g.n (2 ^ g.n))[k]? = some S) (hS : S < 2 ^ g.n) (hm : m < g.n) (he : zed g.n g.mu S m = true) : ∃ x, k < x ∧ (zgL g.mu g.n (2 ^ g.n))[x]? = some (S ||| 2 ^ m) := by
  have h1 : S ||| 2 ^ m ∈ zgL g.mu g.n (2 ^ g.n) := zgL_mem.mpr ⟨zor_lt hS hm, zgd_next he⟩
  obtain ⟨i, hi, e⟩ := List.getElem_of_mem h1
  have e1 : (zgL g.mu g.n (2 ^ g.n))[i]? = some (S ||| 2 ^ m) := List.getElem?_eq_some_iff.mpr ⟨hi, e⟩
  refine ⟨i, ?_, e1⟩
  apply Classical.byContradiction
  intro z
  have := zgL_mono e1 hk (by omega)
  have := zed_gt S m he
  omega
/-- the costs of the sets behind index k stand in the room -/
def zRT (g : zG) (w : Bool) (k : Nat) (s : zq_S) : Prop := ∀ x T, k < x → (zgL g.mu g.n (2 ^ g.n))[x]? = some T → ∀ i, i < 4 → zL s 1 (4 * T + i) = lN (zQ g w T i)
theorem xw_fill4 (N : Nat) (hN : 5000 ≤ N) {s : zq_S} (V : Nat → Nat) (hV : ∀ i, i < 4 → V i < 2 ^ 60) {c : Nat} (hc : c < 2 ^ 60) (h48 : ∀ i, i < 4 → zL s 48 i = lN (V i)) {S : Nat} (hS : S < 1024) (f1 f3 : Int32) (k : zq_S → Option (Int64 × zq_S)) :
    zq_loop (bX6_fillCosts_104 N f1 f3 (nI S) (lN c) k) N (0, s) = k (zsL s 1 (fun q => if 4 * S ≤ q ∧ q < 4 * S + 4 then lN (min (V (q - 4 * S)) c) else zL s 1 q)) := by
  have e0 : ((0 : Int32), s) = (fun j => (nI j, zsL s 1 (fun q => if 4 * S ≤ q ∧ q < 4 * S + j then lN (min (V (q - 4 * S)) c) else zL s 1 q))) 0 := by
    show _ = (nI 0, zsL s 1 (fun q => if 4 * S ≤ q ∧ q < 4 * S + 0 then lN (min (V (q - 4 * S)) c) else zL s 1 q))
    have : (fun q => if 4 * S ≤ q ∧ q < 4 * S + 0 then lN (min (V (q - 4 * S)) c) else zL s 1 q) = zL s 1 := by funext q; rw [if_neg (by omega)]
    rw [this, zsL_same]; rfl
  rw [e0]
  refine zq_up 4 (fun j => (nI j, zsL s 1 (fun q => if 4 * S ≤ q ∧ q < 4 * S + j then lN (min (V (q - 4 * S)) c) else zL s 1 q))) (fun self => ?_) (fun self j hj => ?_) N 0 (by omega) (by omega)
  · dsimp only [bX6_fillCosts_104]
    rw [if_pos (by decide)]
  · have hVj := hV j hj
    dsimp only [bX6_fillCosts_104, zq_let]
    rw [if_neg (by rw [show (4 : Int32) = nI 4 from rfl, nI_leI (by omega) (by omega)]; omega), zck_nI hj (by decide), zgl_nI _ _ (by omega), zL_ne _ (by decide), h48 j hj, mJ9_min_eq N (by omega) (by omega), zb2_some, zn_4m]
    dsimp only
    rw [zck_nI (by omega) (by decide), zpl_nI _ _ (by omega), zL_self, zsL_sL, nI_1]
    have e : vp_updL (fun q => if 4 * S ≤ q ∧ q < 4 * S + j then lN (min (V (q - 4 * S)) c) else zL s 1 q) (4 * S + j) (lN (min (V j) c)) = fun q => if 4 * S ≤ q ∧ q < 4 * S + (j + 1) then lN (min (V (q - 4 * S)) c) else zL s 1 q := by
      funext q
      unfold vp_updL
      by_cases d : q = 4 * S + j
      · rw [if_pos d, if_pos (by omega), d, Nat.add_sub_cancel_left]
      · rw [if_neg d]
        dsimp only
        by_cases d2 : 4 * S ≤ q ∧ q < 4 * S + j
        · rw [if_pos d2, if_pos (by omega)]
        · rw [if_neg d2, if_neg (by omega)]
    rw [e]
theorem xw_costs (N : Nat) (hN : 5000 ≤ N) {g : zG} {s : zq_S} (h : zXI g s) (w : Bool) :
    zw (mX6_fillCosts N (if w then 1 else 0) s) (fun v => v.1 = lN (zQ g w 0 0) ∧ zXI g v.2 ∧ zXC s v.2 ∧ zRT g w 0 v.2) := by
  have hW := h.W
  have hn := hW.n
  have hp := zn_pow hn
  have hl := zgL_len_le g.mu g.n (2 ^ g.n)
  unfold mX6_fillCosts
  rw [h.full N, zb2_some]
  dsimp only
  by_cases h0 : g.n = 0
  · rw [if_pos (by rw [h0]; rfl)]
    refine ⟨_, rfl, ?_, h, zfr_rfl, fun x T hx hT => ?_⟩
    · unfold zQ zvl
      rw [zP_rec _ _ _ (Nat.pow_pos (by decide)), if_pos (by rw [h0]), if_pos h0]
      rfl
    · have := (List.getElem?_eq_some_iff.mp hT).1
      rw [h0] at hl
      have e : (zgL g.mu g.n (2 ^ g.n)).length ≤ 1 := by
        have := zgL_len_le g.mu g.n (2 ^ g.n)
        rw [h0] at this ⊢
        exact this
      omega
  obtain ⟨hl2, hp2⟩ := zgL_two hW h0
  have hfull := zgd_full (n := g.n) hW.mu
  rw [if_neg (by rw [show (0 : Int32) = nI 0 from rfl, nI_eq (by omega) (by decide)]; omega)]
  refine zw_cnt 4 (fun i v => ∃ t, v = (nI i, t) ∧ zXI g t ∧ zXC s t ∧ ∀ j, j < i → zL t 1 (4 * (2 ^ g.n - 1) + j) = lN (zbr g w (2 ^ g.n - 1))) ?_ ?_ N 0 _ (by omega) (by omega) ⟨s, rfl, h, zfr_rfl, fun j hj => absurd hj (Nat.not_lt_zero _)⟩
  · rintro self v ⟨t, rfl, ht, hq, hL⟩
    dsimp only [bX6_fillCosts_16]
    rw [if_pos (by decide)]
    refine zw_call (xw_goodCount N hN ht) (fun r t2 ⟨k1, k2, k3, _, _⟩ => ?_)
    dsimp only [zq_let] at k1 k2 k3 ⊢
    have e2 : r - 2 = nI ((zgL g.mu g.n (2 ^ g.n)).length - 2 - 0) := by
      rw [k1, Nat.sub_zero]
      have := pk_sub_toInt (a := (zgL g.mu g.n (2 ^ g.n)).length) (b := 2) (by omega) (by omega)
      rw [← Int32.toInt_inj]
      rw [show (2 : Int32) = nI 2 from rfl, this, nI_toInt (by omega)]
      omega
    rw [e2]
    have f2 : zXC s t2 := hq.tr (k3.mo (by decide) (by decide) (by decide))
    have rt0 : zRT g w ((zgL g.mu g.n (2 ^ g.n)).length - 2 - 0) t2 := by
      intro x T hx hT i hi
      have hxl := (List.getElem?_eq_some_iff.mp hT).1
      have eT := zgL_last hfull hT (by omega)
      rw [eT, k3.l 1 (by decide), hL i hi, zQ_full w i h0]
    refine zw_cnt ((zgL g.mu g.n (2 ^ g.n)).length - 2) (fun d v => ∃ t, v = (nI ((zgL g.mu g.n (2 ^ g.n)).length - 2 - d), t) ∧ zXI g t ∧ zXC s t ∧ zRT g w ((zgL g.mu g.n (2 ^ g.n)).length - 2 - d) t) ?_ ?_ N 0 _ (by omega) (by omega) ⟨t2, rfl, k2, f2, rt0⟩
    · rintro self2 v ⟨u, rfl, hu, fu, ru⟩
      rw [Nat.sub_self] at ru ⊢
      dsimp only [bX6_fillCosts_60]
      rw [if_pos (by decide), show (0 : Int32) = nI 0 from rfl, xw_cheap N hN hu (S := 0) (by omega) (zgd_zero _ _) (fun m => zQ g w (0 ||| 2 ^ m) (g.ik m)) (fun m hm he => ?_) (fun m hm he => ?_), zb2_some]
      · refine ⟨_, rfl, ?_, zXI_room hu (zfr_sL 48 _ (by decide)), fu.tr (zfr_sL 48 _ (by decide)), fun x T hx hT i hi => ?_⟩
        · dsimp only
          rw [show (1000 : Int64) = lN 1000 from rfl, lN_add, zQ_class0 hW w h0]
        · rw [zL_ne _ (by decide)]
          exact ru x T hx hT i hi
      · have := zQ_small hW w (g.ik m) (zor_lt (S := 0) (n := g.n) (by omega) hm) (zgd_next he)
        omega
      · obtain ⟨x, hx, hT⟩ := zgL_next (zgL_0 g.mu g.n).1 (by omega) hm he
        exact ru x _ hx hT (g.ik m) (hW.ik m hm)
    · rintro self2 d v hd ⟨u, rfl, hu, fu, ru⟩ hself2
      have hkl : (zgL g.mu g.n (2 ^ g.n)).length - 2 - d < (zgL g.mu g.n (2 ^ g.n)).length := by omega
      obtain ⟨S, e, hS, hg⟩ := zgL_get hkl
      have s1 := zlt_pow hn hS
      have hS0 : S ≠ 0 := by
        rintro rfl
        have := zgL_inj e (zgL_0 g.mu g.n).1
        omega
      have hSf : S ≠ 2 ^ g.n - 1 := zgL_nlast hfull e (by omega)
      dsimp only [bX6_fillCosts_60]
      rw [if_neg (by rw [show (0 : Int32) = nI 0 from rfl, nI_leI (by omega) (by omega)]; omega)]
      refine zw_call (xw_goodAt N hN hu e) (fun r t3 ⟨m1, m2, m3, _⟩ => ?_)
      dsimp only at m1 m2 m3
      subst m1
      have hnx : ∀ m, m < g.n → zed g.n g.mu S m = true → zL t3 1 (4 * (S ||| 2 ^ m) + g.ik m) = lN (zQ g w (S ||| 2 ^ m) (g.ik m)) := by
        intro m hm he
        obtain ⟨x, hx, hT⟩ := zgL_next e hS hm he
        rw [m3.l 1 (by decide)]
        exact ru x _ hx hT (g.ik m) (hW.ik m hm)
      rw [xw_cheap N hN m2 hS hg (fun m => zQ g w (S ||| 2 ^ m) (g.ik m)) (fun m hm he => by have := zQ_small hW w (g.ik m) (zor_lt hS hm) (zgd_next he); omega) hnx, zb2_some]
      dsimp only
      have m4 : zXI g (zsL t3 48 (zbe (zed g.n g.mu S) (fun m => zQ g w (S ||| 2 ^ m) (g.ik m)) g.ik 10 (zL t3 48))) := zXI_room m2 (zfr_sL 48 _ (by decide))
      have f4 : zXC s (zsL t3 48 (zbe (zed g.n g.mu S) (fun m => zQ g w (S ||| 2 ^ m) (g.ik m)) g.ik 10 (zL t3 48))) := (fu.tr (m3.mo (by decide) (by decide) (by decide))).tr (zfr_sL 48 _ (by decide))
      have hbrS := zbr_le hW w S
      have hml := zmi_le (zed g.n g.mu S) (fun m => zQ g w (S ||| 2 ^ m) (g.ik m)) 10
      -- behind the breaks
      have fin : ∀ t5, zXI g t5 → zXG (zsL t3 48 (zbe (zed g.n g.mu S) (fun m => zQ g w (S ||| 2 ^ m) (g.ik m)) g.ik 10 (zL t3 48))) t5 → ∀ f1, zw (jX6_fillCosts_j98 N f1 self2 (nI ((zgL g.mu g.n (2 ^ g.n)).length - 2 - d)) (nI S) (lN (zbr g w S)) (1000 + lN (zmi (zed g.n g.mu S) (fun m => zQ g w (S ||| 2 ^ m) (g.ik m)) 10)) t5) (fun v => v.1 = lN (zQ g w 0 0) ∧ zXI g v.2 ∧ zXC s v.2 ∧ zRT g w 0 v.2) := by
        intro t5 h5 f5 f1
        dsimp only [jX6_fillCosts_j98, zq_let]
        rw [show (1000 : Int64) = lN 1000 from rfl, lN_add, lN_add, xw_fill4 N hN (fun i => zmi (fun m => zed g.n g.mu S m && decide (g.ik m = i)) (fun m => zQ g w (S ||| 2 ^ m) (g.ik m)) 10) (fun i _ => by have := zmi_le (fun m => zed g.n g.mu S m && decide (g.ik m = i)) (fun m => zQ g w (S ||| 2 ^ m) (g.ik m)) 10; omega) (by omega) (fun i hi => by rw [f5.l 48 (by decide), zL_self]; exact if_pos hi) s1]
        have ek : nI ((zgL g.mu g.n (2 ^ g.n)).length - 2 - d) + -1 = nI ((zgL g.mu g.n (2 ^ g.n)).length - 2 - (d + 1)) := by
          rw [show (zgL g.mu g.n (2 ^ g.n)).length - 2 - d = ((zgL g.mu g.n (2 ^ g.n)).length - 2 - (d + 1)) + 1 by omega, pk_m1]
        rw [ek]
        refine hself2 _ ⟨_, rfl, zXI_room h5 (zfr_sL 1 _ (by decide)), (f4.tr (f5.mo (by decide) (by decide) (by decide))).tr (zfr_sL 1 _ (by decide)), fun x T hx hT i hi => ?_⟩
        rw [zL_self]
        by_cases c : x = (zgL g.mu g.n (2 ^ g.n)).length - 2 - d
        · have eT : T = S := by
            rw [c, e] at hT
            exact (Option.some.inj hT).symm
          rw [eT, if_pos (by omega), Nat.add_sub_cancel_left, zQ_class hW w hS hg hSf hS0]
        · have hTS : T ≠ S := by
            rintro rfl
            have := zgL_inj e hT
            omega
          rw [if_neg (by omega), f5.l 1 (by decide), zL_ne _ (by decide), m3.l 1 (by decide)]
          exact ru x T (by omega) hT i hi
      cases w with
      | false =>
        rw [zif_f]
        exact fin _ m4 zfr_rfl _
      | true =>
        rw [zif_t]
        refine zw_call (xw_bb N hN m4 s1) (fun r t5 ⟨n1, n2, n3⟩ => ?_)
        dsimp only at n1 n2 n3
        subst n1
        exact fin t5 n2 n3 _
  · rintro self i v hi ⟨t, rfl, ht, hq, hL⟩ hself
    have s1 : 2 ^ g.n - 1 < 1024 := by omega
    dsimp only [bX6_fillCosts_16]
    rw [if_neg (by rw [show (4 : Int32) = nI 4 from rfl, nI_leI (by omega) (by omega)]; omega), zn_4m]
    have fin : ∀ t5, zXI g t5 → zXG t t5 → ∀ f1 k50, zw (jX6_fillCosts_j43 N f1 (nI (2 ^ g.n - 1)) k50 self (nI i) (lN (zbr g w (2 ^ g.n - 1))) (nI (4 * (2 ^ g.n - 1) + i)) t5) (fun v => v.1 = lN (zQ g w 0 0) ∧ zXI g v.2 ∧ zXC s v.2 ∧ zRT g w 0 v.2) := by
      intro t5 h5 f5 f1 k50
      dsimp only [jX6_fillCosts_j43, zq_let]
      rw [zck_nI (by omega) (by decide), zpl_nI _ _ (by omega), nI_1]
      refine hself _ ⟨_, rfl, zXI_room h5 (zfr_sL 1 _ (by decide)), (hq.tr (f5.mo (by decide) (by decide) (by decide))).tr (zfr_sL 1 _ (by decide)), fun j hj => ?_⟩
      rw [zL_self]
      unfold vp_updL
      by_cases c : j = i
      · rw [if_pos (by omega)]
      · rw [if_neg (by omega), f5.l 1 (by decide)]
        exact hL j (by omega)
    cases w with
    | false =>
      rw [zif_f]
      exact fin t ht zfr_rfl _ _
    | true =>
      rw [zif_t]
      refine zw_call (xw_bb N hN ht s1) (fun r t5 ⟨n1, n2, n3⟩ => ?_)
      dsimp only at n1 n2 n3
      subst n1
      exact fin t5 n2 n3 _ _
