/-! clean -/
theorem zif_n0 {α : Type} {a : Nat} (ha : a < 2 ^ 31) (x y : α) : (if nI a = 0 then x else y) = if a = 0 then x else y := zif_nI (b := 0) ha (by decide) x y
def zok2 (g : zG) (S : Nat) : Bool := decide (zbks g.bs (ztx g.T S) = 0)
theorem xw_clean (N : Nat) (hN : 5000 ≤ N) {g : zG} {s : zq_S} (h : zXI g s) :
    zw (mX4_numberClean N s) (fun v => (∃ G, (∀ S, S < 2 ^ g.n → zgd g.mu S g.n = true → zcR g.n g.mu (fun S => if zok2 g S then 1 else 0) G S) ∧ v.1 = G 0) ∧ zXI g v.2 ∧ zXR' s v.2) := by
  have hl := zgL_len_le g.mu g.n (2 ^ g.n)
  have hp := zn_pow h.W.n
  unfold mX4_numberClean
  refine zw_cnt (zgL g.mu g.n (2 ^ g.n)).length (fun j v => ∃ t, v = (nI j, t) ∧ zXI g t ∧ zXR' s t ∧ zL t 1 = ztk (zgL g.mu g.n (2 ^ g.n)) j (fun S => if zok2 g S then 1 else 0) (zL s 1)) ?_ ?_ N 0 _ (by omega) (by omega) ⟨s, rfl, h, zfr_rfl, (ztk_0 _ _ _).symm⟩
  · rintro self v ⟨t, rfl, ht, hq, hL⟩
    dsimp only [bX4_numberClean_2]
    refine zw_call (xw_goodCount N hN ht) (fun r t2 ⟨k1, k2, k3, k4, _⟩ => ?_)
    dsimp only at k1
    rw [k1, if_pos (nI_le (Nat.le_refl _) (by omega))]
    obtain ⟨G, e, hG⟩ := xcw_1 N hN k4 _ rfl
    rw [e, zb2_some]
    dsimp only
    rw [show (0 : Int32) = nI 0 from rfl, zck_nI (by decide) (by decide), zgl_nI _ _ (by decide), zL_self]
    refine ⟨_, rfl, ⟨G, fun S hS hg => ?_, rfl⟩, zXI_room k2 (zfr_sL 1 _ (by decide)), (hq.tr (k3.mo (by decide) (by decide) (by decide))).tr (zfr_sL 1 _ (by decide))⟩
    have := hG S hS hg
    rw [k3.l 1 (by decide), hL] at this
    unfold zcR at this ⊢
    rw [ztk_all (zgL_mem.mpr ⟨hS, hg⟩)] at this
    exact this
  · rintro self j v hj ⟨t, rfl, ht, hq, hL⟩ hself
    obtain ⟨S, e, hS, hg⟩ := zgL_get hj
    have s1 := zlt_pow h.W.n hS
    dsimp only [bX4_numberClean_2, zq_let]
    refine zw_call (xw_goodCount N hN ht) (fun r t2 ⟨k1, k2, k3, k4, _⟩ => ?_)
    dsimp only at k1
    rw [k1, if_neg (by rw [nI_leI (by omega) (by omega)]; omega)]
    refine zw_call (xw_goodAt N hN k2 e) (fun r t3 ⟨l1, l2, l3, _⟩ => ?_)
    dsimp only at l1
    subst l1
    refine zw_call (xw_with N hN l2 s1) (fun r t4 ⟨m1, m2, m3, _⟩ => ?_)
    dsimp only at m1 m2 m3
    have hbk := zbk_le g.bs (ztx g.T S) ((ztx g.T S).length - 1)
    have hln := m1.ln S
    have hb2 : zbks g.bs (ztx g.T S) = zbk g.bs (ztx g.T S) ((ztx g.T S).length - 1) := rfl
    rw [xw_breaks N hN m1 s1 m3, zb2_some]
    dsimp only
    have ex : (if nI (zbks g.bs (ztx g.T S)) ≤ 0 then (1 : Int64) else 0) = if zok2 g S then 1 else 0 := by
      unfold zok2
      by_cases c : zbks g.bs (ztx g.T S) = 0
      · rw [c, if_pos (by decide), decide_eq_true rfl, if_pos rfl]
      · rw [if_neg (by rw [show (0 : Int32) = nI 0 from rfl, nI_leI (by omega) (by omega)]; omega), decide_eq_false c, if_neg (by decide)]
    have fr := (k3.tr l3).tr m2
    rw [ex, zck_nI (by omega) (by decide), zpl_nI _ _ (by omega), nI_1, fr.l 1 (by decide), hL, ztk_s e]
    exact hself _ ⟨_, rfl, zXI_room m1 (zfr_sL 1 _ (by decide)), (hq.tr (fr.mo (by decide) (by decide) (by decide))).tr (zfr_sL 1 _ (by decide)), zL_self _ _ _⟩
theorem zsi_start (t : Int64) (f : Nat → Int64) (k : Nat) : zsi t f k = t + zsi 0 f k := by
  induction k with
  | zero => exact (Int64.add_zero t).symm
  | succ k ih => rw [zsi, zsi, ih, Int64.add_assoc]
theorem zcl_congr {n : Nat} {mu : Nat → Nat} {ok : Nat → Bool} {C D : Nat → Int64} {S : Nat} (h : ∀ R, R ≤ S → C R = D R) (hc : zcl n mu ok C S) : zcl n mu ok D S := by
  unfold zcl at hc ⊢
  rw [← h S (Nat.le_refl _), hc]
  split
  · congr 1
    refine zsi_congr 0 _ (fun m _ => ?_)
    cases q : S.testBit m with
    | false => rfl
    | true =>
      have : S ^^^ 2 ^ m < S := by
        have hnb : (S ^^^ 2 ^ m).testBit m = false := by rw [zxor_bit, if_pos rfl, q]; rfl
        have e : (S ^^^ 2 ^ m) ||| 2 ^ m = S := by
          apply Nat.eq_of_testBit_eq
          intro i
          rw [zor_bit, zxor_bit]
          by_cases c : i = m
          · rw [if_pos c, c, q]
          · rw [if_neg c, if_neg c]
        have := zor_gt hnb
        omega
      rw [h _ (by omega)]
  · rfl
theorem mw_clean_in (N : Nat) (hN : 5000 ≤ N) {g : zG} {s : zq_S} (h : zMR g s) {S : Nat} (hS : S < 2 ^ g.n) (F : Nat → Int64) (x : Int64) (hF : zL s 97 = vp_updL F S x) (k : zq_S → Option (Int64 × zq_S)) :
    zq_loop (bX12_clean_31 N (nI S) k) N (0, s) = k (zsL s 97 (vp_updL F S (if zgd g.mu S g.n then x + zsi 0 (fun m => if S.testBit m && zed g.n g.mu (S ^^^ 2 ^ m) m then F (S ^^^ 2 ^ m) else 0) g.n else x))) := by
  have hn := h.i.W.n
  have hp := zn_pow hn
  have h1 := h.p hS
  cases hg : zgd g.mu S g.n with
  | false =>
    obtain ⟨M, rfl⟩ : ∃ M', N = M' + 1 := ⟨N - 1, by omega⟩
    rw [zq_loop_s]
    dsimp only [bX12_clean_31]
    rw [zck_nI h1 (by decide), zga_nI _ _ (by omega), h.good hS, hg, zib_f, if_pos rfl, ite_self, if_neg (by decide), ← hF, zsL_same]
  | true =>
    rw [if_pos rfl]
    have e0 : ((0 : Int32), s) = (fun j => (nI j, zsL s 97 (vp_updL F S (x + zsi 0 (fun m => if S.testBit m && zed g.n g.mu (S ^^^ 2 ^ m) m then F (S ^^^ 2 ^ m) else 0) j)))) 0 := by
      show _ = (nI 0, zsL s 97 (vp_updL F S (x + 0)))
      rw [Int64.add_zero, ← hF, zsL_same]; rfl
    rw [e0]
    refine zq_up g.n (fun j => (nI j, zsL s 97 (vp_updL F S (x + zsi 0 (fun m => if S.testBit m && zed g.n g.mu (S ^^^ 2 ^ m) m then F (S ^^^ 2 ^ m) else 0) j)))) (fun self => ?_) (fun self j hj => ?_) N 0 (by omega) (by omega)
    · dsimp only [bX12_clean_31]
      rw [zgf_sL, h.i.mk, if_pos (nI_le (Nat.le_refl _) (by omega))]
    · have hx := zxor_lt hS hj
      have hnx := znx_lt (n := g.n) g.mu (S ^^^ 2 ^ j) g.n (Nat.le_refl _)
      have hne : S ^^^ 2 ^ j ≠ S := by
        intro z
        have := congrArg (fun y => y.testBit j) z
        simp only [zxor_bit, if_true] at this
        cases q : S.testBit j <;> rw [q] at this <;> cases this
      have gs : ∀ f : Nat → Int64, ∀ R, R < 2 ^ g.n → zA (zsL s 97 f) 78 R = zib (zgd g.mu R g.n) := fun f R hR => h.good hR
      have ns : ∀ f : Nat → Int64, ∀ R, R < 2 ^ g.n → zA (zsL s 97 f) 79 R = nI (znx g.mu R g.n) := fun f R hR => h.nx hR
      dsimp only [bX12_clean_31, jX12_clean_j90, jX12_clean_j91, jX12_clean_j117, zq_let]
      rw [zgf_sL, h.i.mk, if_neg (by rw [nI_leI (by omega) (by omega)]; omega), zck_nI h1 (by decide), zga_nI _ _ (by omega), gs _ S hS, hg, zib_t, if_neg (show ¬ (1 : Int32) = 0 by decide), mX12_has_eq N (by omega) (by omega), zb2_some, zn_xo (by omega)]
      dsimp only
      rw [zck_nI (show S ^^^ 2 ^ j < 1024 by omega) (by decide), zck_nI (show S ^^^ 2 ^ j < 1024 by omega) (by decide), zga_nI _ _ (by omega), ns _ _ hx, mX12_has_eq N (by omega) (by omega), zb2_some]
      dsimp only
      rw [zga_nI _ _ (by omega), gs _ _ hx, zck_nI h1 (by decide), zck_nI (show S ^^^ 2 ^ j < 1024 by omega) (by decide), if_pos rfl, if_neg (show ¬ (1 : Int32) = 0 by decide), zck_nI h1 (by decide), zck_nI h1 (by decide), zgl_nI _ _ (by omega), zgl_nI _ _ (by omega), zL_self, pk_uLs, pk_uLn hne, zpl_nI _ _ (by omega), zpl_nI _ _ (by omega), zL_self, zsL_sL, zsL_sL, zupdL_upd, zupdL_upd, nI_1]
      have no : (S.testBit j && zed g.n g.mu (S ^^^ 2 ^ j) j) = false → zsi 0 (fun m => if S.testBit m && zed g.n g.mu (S ^^^ 2 ^ m) m then F (S ^^^ 2 ^ m) else 0) (j + 1) = zsi 0 (fun m => if S.testBit m && zed g.n g.mu (S ^^^ 2 ^ m) m then F (S ^^^ 2 ^ m) else 0) j := by
        intro z
        rw [zsi, z, if_neg (by decide), Int64.add_zero]
      have ze : zed g.n g.mu (S ^^^ 2 ^ j) j = (zgd g.mu (S ^^^ 2 ^ j) g.n && (znx g.mu (S ^^^ 2 ^ j) g.n).testBit j) := rfl
      cases q1 : S.testBit j with
      | false =>
        rw [zif_f, no (by rw [q1, Bool.false_and]), Int64.add_zero]
      | true =>
        rw [zif_t]
        cases q2 : (znx g.mu (S ^^^ 2 ^ j) g.n).testBit j with
        | false =>
          rw [zif_f, no (by rw [ze, q2, Bool.and_false, Bool.and_false]), Int64.add_zero]
        | true =>
          rw [zif_t]
          cases q3 : zgd g.mu (S ^^^ 2 ^ j) g.n with
          | false =>
            rw [zck_nI (show S ^^^ 2 ^ j < 1024 by omega) (by decide), zib_f, if_pos rfl, no (by rw [ze, q3, Bool.false_and, Bool.and_false]), Int64.add_zero]
          | true =>
            rw [zck_nI (show S ^^^ 2 ^ j < 1024 by omega) (by decide), zib_t, if_neg (show ¬ (1 : Int32) = 0 by decide), zck_nI h1 (by decide), zck_nI h1 (by decide)]
            have : zsi 0 (fun m => if S.testBit m && zed g.n g.mu (S ^^^ 2 ^ m) m then F (S ^^^ 2 ^ m) else 0) (j + 1) = zsi 0 (fun m => if S.testBit m && zed g.n g.mu (S ^^^ 2 ^ m) m then F (S ^^^ 2 ^ m) else 0) j + F (S ^^^ 2 ^ j) := by
              rw [zsi, q1, ze, q2, q3]
              rfl
            rw [this, Int64.add_assoc]
theorem mw_clean (N : Nat) (hN : 5000 ≤ N) {g : zG} {s : zq_S} (h : zMI g s) :
    zw (mX12_clean N s) (fun v => (∃ C, (∀ S, S < 2 ^ g.n → zcl g.n g.mu (zok2 g) C S) ∧ v.1 = C (2 ^ g.n - 1)) ∧ zMI g v.2 ∧ zMQ s v.2) := by
  have hn := h.W.n
  have hp := zn_pow hn
  have h0 : 0 < 2 ^ g.n := Nat.pow_pos (by decide)
  unfold mX12_clean
  refine zw_call (mw_findTexts N hN h) (fun r s1 ⟨k1, k2⟩ => ?_)
  dsimp only at k1 k2
  refine zw_cnt (2 ^ g.n) (fun S v => ∃ t, v = (nI S, t) ∧ zMZ s1 t ∧ ∀ R, R < S → zcl g.n g.mu (zok2 g) (zL t 97) R) ?_ ?_ N 0 _ (by omega) (by omega) ⟨s1, rfl, zfr_rfl, fun R hR => absurd hR (Nat.not_lt_zero _)⟩
  · rintro self v ⟨t, rfl, hq, ht⟩
    have r := zMR_Z k1 hq
    dsimp only [bX12_clean_6]
    rw [mX12_all_eq N r.i.mk hn, zb2_some]
    dsimp only
    rw [if_pos (nI_lt (by omega) (by omega)), mX12_all_eq N r.i.mk hn, zb2_some]
    dsimp only
    rw [zck_nI (by omega) (by decide), zgl_nI _ _ (by omega)]
    exact ⟨_, rfl, ⟨zL t 97, ht, rfl⟩, r.i, (zMG_Q k2).tr (zMZ_Q hq)⟩
  · rintro self S v hS ⟨t, rfl, hq, ht⟩ hself
    have r := zMR_Z k1 hq
    have s1' := r.p hS
    dsimp only [bX12_clean_6, zq_let]
    rw [mX12_all_eq N r.i.mk hn, zb2_some]
    dsimp only
    rw [if_neg (nI_nlt (by omega) (by omega)), zck_nI s1' (by decide), zpl_nI _ _ (by omega)]
    have ex : (if nI S = 0 then (1 : Int64) else 0) = if S = 0 then 1 else 0 := zif_nI (b := 0) (by omega) (by decide) _ _
    rw [ex]
    have r2 : zMR g (zsL t 97 (vp_updL (zL t 97) S (if S = 0 then 1 else 0))) := zMR_Z r (zfr_sL 97 _ (by decide))
    rw [mw_clean_in N hN r2 hS (zL t 97) _ (zL_self _ _ _), zsL_sL]
    have hln := r.ln S
    have hbk := zbk_le g.bs (ztx g.T S) ((ztx g.T S).length - 1)
    have hb2 : zbks g.bs (ztx g.T S) = zbk g.bs (ztx g.T S) ((ztx g.T S).length - 1) := rfl
    -- the end: keep or strike
    have fin : ∀ y : Int64, y = (if zgd g.mu S g.n && zok2 g S then (if S = 0 then 1 else 0) + zsi 0 (fun m => if S.testBit m && zed g.n g.mu (S ^^^ 2 ^ m) m then zL t 97 (S ^^^ 2 ^ m) else 0) g.n else 0) → zw (self (nI (S + 1), zsL t 97 (vp_updL (zL t 97) S y))) (fun v => (∃ C, (∀ S, S < 2 ^ g.n → zcl g.n g.mu (zok2 g) C S) ∧ v.1 = C (2 ^ g.n - 1)) ∧ zMI g v.2 ∧ zMQ s v.2) := by
      intro y hy
      refine hself _ ⟨_, rfl, hq.tr (zfr_sL 97 _ (by decide)), fun R hR => ?_⟩
      rw [zL_self]
      by_cases c : R = S
      · subst c
        unfold zcl
        rw [pk_uLs, hy]
        split
        · congr 1
          refine zsi_congr 0 _ (fun m _ => ?_)
          have hne : R ^^^ 2 ^ m ≠ R := by
            intro z
            have := congrArg (fun y => y.testBit m) z
            simp only [zxor_bit, if_true] at this
            cases q : R.testBit m <;> rw [q] at this <;> cases this
          rw [pk_uLn hne]
        · rfl
      · exact zcl_congr (fun Q hQ => (pk_uLn (by omega)).symm) (ht R (by omega))
    have gs : ∀ f : Nat → Int64, zA (zsL t 97 f) 78 S = zib (zgd g.mu S g.n) := fun f => r.good hS
    dsimp only [jX12_clean_j125, jX12_clean_j156, jX12_clean_j157, zq_let]
    rw [zck_nI s1' (by decide), zga_nI _ _ (by omega), gs]
    cases hg : zgd g.mu S g.n with
    | false =>
      rw [zib_f, if_pos rfl, zck_nI s1' (by decide), zpl_nI _ _ (by omega), zL_self, zsL_sL, zupdL_upd, nI_1]
      exact fin 0 (by rw [hg]; rfl)
    | true =>
      have r3 : ∀ f, zMR g (zsL t 97 f) := fun f => zMR_Z r (zfr_sL 97 f (by decide))
      rw [zib_t, if_neg (show ¬ (1 : Int32) = 0 by decide), mX12_breaksOf_r N hN (r3 _) hS, zb2_some]
      dsimp only
      rw [zck_nI s1' (by decide), zck_nI s1' (by decide), zck_nI s1' (by decide), zgl_nI _ _ (by omega), zL_self, pk_uLs, zpl_nI _ _ (by omega), zpl_nI _ _ (by omega), zL_self, zsL_sL, zsL_sL, zupdL_upd, zupdL_upd, nI_1, zif_n0 (by omega), if_pos rfl]
      by_cases c : zbks g.bs (ztx g.T S) = 0
      · rw [if_pos c]
        exact fin _ (by rw [hg, zok2, decide_eq_true c]; rfl)
      · rw [if_neg c]
        exact fin 0 (by rw [hg, zok2, decide_eq_false c]; rfl)
/-- two sides answer alike, where the answer is known by a rule -/
def zAg2 {α : Type} (g g' : zG) (cx cm : zq_S → Option (α × zq_S)) : Prop :=
  ∀ s t, zXI g s → zMI g t → ∃ r, zw (cx s) (fun v => v.1 = r ∧ zXI g' v.2 ∧ zSM s v.2) ∧ zw (cm t) (fun v => v.1 = r ∧ zMI g' v.2 ∧ zSX t v.2)
theorem zAg_2 {α : Type} {g g' : zG} {cx cm : zq_S → Option (α × zq_S)} (h : zAg g g' cx cm) : zAg2 g g' cx cm := by
  obtain ⟨r, h1, h2⟩ := h
  exact fun s t a b => ⟨r, h1 s a, h2 t b⟩
theorem pub_clean (N : Nat) (hN : 5000 ≤ N) {g : zG} (hW : zGW g) : zAg2 g g (mX11_clean N) (mX12_clean N) := by
  intro s t hs ht
  obtain ⟨v, e, ⟨G, hG, h1⟩, h2, h3⟩ := xw_clean N hN hs
  obtain ⟨w, f, ⟨C, hC, k1⟩, k2, k3⟩ := mw_clean N hN ht
  have := zclean_eq hW.mu hC hG
  refine ⟨G 0, ?_, w, f, by rw [k1, this], k2, zMQ_SX k3⟩
  unfold mX11_clean
  rw [e, zb2_some]
  exact ⟨_, rfl, h1, h2, zXQ_SM (zXR_Q h3)⟩
