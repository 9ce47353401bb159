/-! text, without, breaks, apart -/
theorem xw_wos (N : Nat) (hN : 5000 ≤ N) {g : zG} {s : zq_S} (h : zXI g s) {S : Nat} (hS : S < 1024) (p : Int32) :
    zw (mX11_wordOrSize N (nI S) p s) (fun v => v.1 = zwr (ztx g.T S) p ∧ zXI g v.2 ∧ zXG s v.2) :=
  ⟨_, mX11_wordOrSize_eq N hN h.W.W h.W.w40 h.xs h.r39 h.tc hS p, rfl, zXI_Wt h hS, zWt_fr _ _ _⟩
theorem pub_text (N : Nat) (hN : 5000 ≤ N) {g : zG} (hW : zGW g) (p q : Int32) : zAg g g (mX11_text N p q) (mX12_text N p q) := by
  rcases zargS hW.n p with z | ⟨S, hS, rfl, z⟩
  · refine ⟨-1001, fun s h => ?_, fun s h => ?_⟩
    · unfold mX11_text
      rw [h.rf0 N hN z, zb2_some]
      exact ⟨_, rfl, rfl, h, zSM_rfl⟩
    · unfold mX12_text
      rw [h.ar N, if_neg z, zb2_some]
      exact ⟨_, rfl, rfl, h, zSX_rfl⟩
  · have h1 := zlt_pow hW.n hS
    cases hg : zgd g.mu S g.n with
    | false =>
      refine ⟨-1003, fun s h => ?_, fun s h => ?_⟩
      · unfold mX11_text
        rw [h.rf N hN hS, hg, zb2_some]
        exact ⟨_, rfl, rfl, h, zSM_rfl⟩
      · unfold mX12_text
        rw [h.ar N, if_pos z, zb2_some]
        dsimp only
        rw [if_neg (by decide)]
        refine zw_call (mw_findTexts N hN h) (fun r t ⟨k1, k2⟩ => ?_)
        rw [zck_nI h1 (by decide), zga_nI _ _ (by omega), k1.good hS, hg]
        exact ⟨_, rfl, rfl, k1.i, zMG_SX k2⟩
    | true =>
      refine ⟨zwr (ztx g.T S) q, fun s h => ?_, fun s h => ?_⟩
      · unfold mX11_text
        rw [h.rf N hN hS, hg, zb2_some]
        dsimp only
        rw [if_pos rfl, if_pos rfl]
        refine zw_call (xw_wos N hN h h1 q) (fun r t ⟨k1, k2, k3⟩ => ?_)
        exact ⟨_, rfl, k1, k2, zXG_SM k3⟩
      · unfold mX12_text
        rw [h.ar N, if_pos z, zb2_some]
        dsimp only
        rw [if_neg (by decide)]
        refine zw_call (mw_findTexts N hN h) (fun r t ⟨k1, k2⟩ => ?_)
        rw [zck_nI h1 (by decide), zga_nI _ _ (by omega), k1.good hS, hg, zib_t, if_neg (by decide), mX12_wordAt_r N k1 hS, zb2_some]
        exact ⟨_, rfl, rfl, k1.i, zMG_SX k2⟩
theorem pub_breaks (N : Nat) (hN : 5000 ≤ N) {g : zG} (hW : zGW g) (p : Int32) : zAg g g (mX11_breaks N p) (mX12_breaks N p) := by
  rcases zargS hW.n p with z | ⟨S, hS, rfl, z⟩
  · refine ⟨-1001, fun s h => ?_, fun s h => ?_⟩
    · unfold mX11_breaks
      rw [h.rf0 N hN z, zb2_some]
      exact ⟨_, rfl, rfl, h, zSM_rfl⟩
    · unfold mX12_breaks
      rw [h.ar N, if_neg z, zb2_some]
      exact ⟨_, rfl, rfl, h, zSX_rfl⟩
  · have h1 := zlt_pow hW.n hS
    refine ⟨if zgd g.mu S g.n then nI (zbks g.bs (ztx g.T S)) else -1003, fun s h => ?_, fun s h => ?_⟩
    · unfold mX11_breaks
      rw [h.rf N hN hS, zb2_some]
      cases hg : zgd g.mu S g.n with
      | false => exact ⟨_, rfl, rfl, h, zSM_rfl⟩
      | true =>
        dsimp only
        rw [if_pos rfl, if_pos rfl]
        refine zw_call (xw_with N hN h h1) (fun r t ⟨k1, k2, k3, _⟩ => ?_)
        rw [xw_breaks N hN k1 h1 k3, zb2_some]
        exact ⟨_, rfl, (if_pos rfl).symm, k1, zXG_SM k2⟩
    · unfold mX12_breaks
      rw [h.ar N, if_pos z, zb2_some]
      dsimp only
      rw [if_neg (by decide)]
      unfold mX12_isGoodSet
      rw [zw_b2, zw_b2]
      refine zw_mono (mw_find N hN h) ?_
      rintro ⟨r, t⟩ ⟨k1, k2, k3, k4, k5⟩
      dsimp only
      rw [zck_nI h1 (by decide), zga_nI _ _ (by omega), k5.1 S hS]
      cases hg : zgd g.mu S g.n with
      | false =>
        rw [zib_f, zb_0, zw_some]
        exact ⟨_, rfl, rfl, k1, zMG_SX k2⟩
      | true =>
        rw [zib_t, zb_1, zw_some]
        dsimp only
        rw [if_neg (by decide)]
        have e : mX12_breaksOf N (nI S) t = zq_b2 (mX12_findTexts N t) (fun _ s2 => mX12_breaksOf N (nI S) s2) ∨ True := Or.inr trivial
        unfold mX12_breaksOf
        rw [zw_b2, zw_b2]
        refine zw_mono (mw_findTexts N hN k1) ?_
        rintro ⟨r2, t2⟩ ⟨l1, l2⟩
        have e2 := mX12_breaksOf_r N hN l1 hS
        unfold mX12_breaksOf at e2
        rw [mX12_findTexts_r N hN l1, zb2_some] at e2
        dsimp only at e2 ⊢
        rw [e2, zw_some]
        exact ⟨_, rfl, (if_pos rfl).symm, l1.i, zMG_SX (k2.tr l2)⟩
theorem zn_andnot {a b : Nat} : nI a &&& (nI b ^^^ (-1)) = nI (a ^^^ (a &&& b)) := by
  rw [← Int32.toBitVec_inj, Int32.toBitVec_and, Int32.toBitVec_xor, zn_bv, zn_bv, zn_bv, show (-1 : Int32).toBitVec = BitVec.allOnes 32 from rfl, BitVec.xor_allOnes, BitVec.ofNat_xor, BitVec.ofNat_and]
  apply BitVec.eq_of_getLsbD_eq
  intro i hi
  rw [BitVec.getLsbD_and, BitVec.getLsbD_not, BitVec.getLsbD_xor, BitVec.getLsbD_and, decide_eq_true hi]
  cases (BitVec.ofNat 32 a).getLsbD i <;> cases (BitVec.ofNat 32 b).getLsbD i <;> rfl
/-- a without the bits of b -/
def zmn (a b : Nat) : Nat := a ^^^ (a &&& b)
theorem zmn_bit (a b i : Nat) : (zmn a b).testBit i = (a.testBit i && !b.testBit i) := by
  unfold zmn
  rw [Nat.testBit_xor, Nat.testBit_and]
  cases a.testBit i <;> cases b.testBit i <;> rfl
theorem zmn_lt {a b n : Nat} (h : a < 2 ^ n) : zmn a b < 2 ^ n := by
  refine Nat.lt_pow_two_of_testBit _ (fun i hi => ?_)
  rw [zmn_bit, Nat.testBit_lt_two_pow (Nat.lt_of_lt_of_le h (Nat.pow_le_pow_right (by decide) hi)), Bool.false_and]
theorem pub_without (N : Nat) (hN : 5000 ≤ N) {g : zG} (hW : zGW g) (p q : Int32) : zAg g g (mX11_without N p q) (mX12_without N p q) := by
  have hp := zn_pow hW.n
  have hn := hW.n
  have h0 : 0 < 2 ^ g.n := Nat.pow_pos (by decide)
  rcases zarg (c := g.n) (by omega) p with z | ⟨m, hm, rfl, z⟩
  · refine ⟨-1001, fun s h => ?_, fun s h => ?_⟩
    · unfold mX11_without
      rw [h.hm N, if_neg z, zb2_some]
      exact ⟨_, rfl, rfl, h, zSM_rfl⟩
    · unfold mX12_without
      rw [h.im N, if_neg z, zb2_some]
      exact ⟨_, rfl, rfl, h, zSX_rfl⟩
  · have hR : zmn (2 ^ g.n - 1) (zbh g.mu m g.n ||| 2 ^ m) < 2 ^ g.n := zmn_lt (by omega)
    have e2 : zmn (zmn (2 ^ g.n - 1) (2 ^ m)) (zbh g.mu m g.n) = zmn (2 ^ g.n - 1) (zbh g.mu m g.n ||| 2 ^ m) := by
      apply Nat.eq_of_testBit_eq
      intro i
      rw [zmn_bit, zmn_bit, zmn_bit, Nat.testBit_or]
      cases (2 ^ g.n - 1).testBit i <;> cases (2 ^ m).testBit i <;> cases (zbh g.mu m g.n).testBit i <;> rfl
    refine ⟨zwr (ztx g.T (zmn (2 ^ g.n - 1) (zbh g.mu m g.n ||| 2 ^ m))) q, fun s h => ?_, fun s h => ?_⟩
    · unfold mX11_without
      rw [h.hm N, if_pos z, zb2_some]
      dsimp only
      rw [if_neg (by decide), h.full N, zb2_some]
      dsimp only
      rw [zck_nI (by omega) (by decide), zga_nI _ _ (by omega), h.bh m hm, zn_shl (by omega), zn_or, zn_andnot]
      refine zw_call (xw_wos N hN h (zlt_pow hn hR) q) (fun r t ⟨k1, k2, k3⟩ => ?_)
      exact ⟨_, rfl, k1, k2, zXG_SM k3⟩
    · unfold mX12_without
      rw [h.im N, if_pos z, zb2_some]
      dsimp only
      rw [if_neg (by decide)]
      refine zw_call (mw_findTexts N hN h) (fun r t ⟨k1, k2⟩ => ?_)
      rw [mX12_all_eq N k1.i.mk hn, zb2_some]
      dsimp only
      rw [mX12_behind_eq N hN hn k1.i.mk k1.i.mu hW.mu (by omega), zb2_some]
      dsimp only
      rw [zn_shl (by omega), zn_andnot, zn_andnot]
      have e3 : (2 ^ g.n - 1) ^^^ ((2 ^ g.n - 1) &&& 2 ^ m) ^^^ (((2 ^ g.n - 1) ^^^ ((2 ^ g.n - 1) &&& 2 ^ m)) &&& zbh g.mu m g.n) = zmn (2 ^ g.n - 1) (zbh g.mu m g.n ||| 2 ^ m) := e2
      rw [e3, mX12_wordAt_r N k1 hR, zb2_some]
      exact ⟨_, rfl, rfl, k1.i, zMG_SX k2⟩
theorem pub_apart (N : Nat) (hN : 5000 ≤ N) {g : zG} (hW : zGW g) (p q : Int32) : zAg g g (mX11_apart N p q) (mX12_apart N p q) := by
  have hp := zn_pow hW.n
  rcases zargS hW.n p with z | ⟨a, ha, rfl, z⟩
  · refine ⟨-1001, fun s h => ?_, fun s h => ?_⟩
    · unfold mX11_apart
      rw [h.hb N, if_neg z, zb2_some]
      exact ⟨_, rfl, rfl, h, zSM_rfl⟩
    · unfold mX12_apart
      rw [h.ar N, if_neg z, zb2_some]
      exact ⟨_, rfl, rfl, h, zSX_rfl⟩
  rcases zargS hW.n q with y | ⟨b, hb, rfl, y⟩
  · refine ⟨-1001, fun s h => ?_, fun s h => ?_⟩
    · unfold mX11_apart
      rw [h.hb N, if_pos z, zb2_some]
      dsimp only
      rw [if_neg (by decide), h.hb N, if_neg y, zb2_some]
      exact ⟨_, rfl, rfl, h, zSM_rfl⟩
    · unfold mX12_apart
      rw [h.ar N, if_pos z, zb2_some]
      dsimp only
      rw [if_neg (by decide), h.ar N, if_neg y, zb2_some]
      exact ⟨_, rfl, rfl, h, zSX_rfl⟩
  have a1 := zlt_pow hW.n ha
  have b1 := zlt_pow hW.n hb
  have hl := ztx_len hW.W hW.w40
  have hwl : ∀ S i, i < (ztx g.T S).length → zgt (ztx g.T S) i < 100 := fun S i hi => by
    rw [zgt_eq hi]; exact ztx_wd hW.w40 S _ (List.getElem_mem hi)
  refine ⟨if zgd g.mu a g.n && zgd g.mu b g.n then nI (zdist (ztx g.T a).length (zgt (ztx g.T a)) (ztx g.T b).length (zgt (ztx g.T b))) else -1003, fun s h => ?_, fun s h => ?_⟩
  · unfold mX11_apart
    rw [h.hb N, if_pos z, zb2_some]
    dsimp only
    rw [if_neg (by decide), h.hb N, if_pos y, zb2_some]
    dsimp only
    rw [if_neg (by decide), h.isg N hN ha, zb2_some]
    dsimp only
    cases hg : zgd g.mu a g.n with
    | false => exact ⟨_, rfl, rfl, h, zSM_rfl⟩
    | true =>
      rw [if_pos rfl, if_neg (by decide), h.isg N hN hb, zb2_some]
      dsimp only
      cases hg2 : zgd g.mu b g.n with
      | false => exact ⟨_, rfl, rfl, h, zSM_rfl⟩
      | true =>
        rw [if_pos rfl, if_neg (by decide)]
        refine zw_call (xw_with N hN h a1) (fun r t ⟨k1, k2, k3, _⟩ => ?_)
        refine zw_call (xw_with N hN k1 b1) (fun r t2 ⟨l1, l2, l3, l4⟩ => ?_)
        rw [mX2_between_eq N hN l1.f39 l1.f39 a1 (zMd_row l1 a1 (l4 a k3)) b1 (zMd_row l1 b1 l3), zb2_some]
        exact ⟨_, rfl, rfl, zXI_dS l1 _ _, zXG_SM ((k2.tr l2).tr (zdS_fr _ _ _))⟩
  · unfold mX12_apart
    rw [h.ar N, if_pos z, zb2_some]
    dsimp only
    rw [if_neg (by decide), h.ar N, if_pos y, zb2_some]
    dsimp only
    rw [if_neg (by decide)]
    refine zw_call (mw_findTexts N hN h) (fun r t ⟨k1, k2⟩ => ?_)
    rw [zck_nI a1 (by decide), zga_nI _ _ (by omega), k1.good ha]
    cases hg : zgd g.mu a g.n with
    | false => exact ⟨_, rfl, rfl, k1.i, zMG_SX k2⟩
    | true =>
      rw [zib_t, if_neg (by decide), zck_nI b1 (by decide), zga_nI _ _ (by omega), k1.good hb]
      cases hg2 : zgd g.mu b g.n with
      | false => exact ⟨_, rfl, rfl, k1.i, zMG_SX k2⟩
      | true =>
        rw [zib_t, if_neg (by decide), mX12_fill_a88_r N hN k1.mx hW ha, zb2_some]
        dsimp only
        have f1 := zFl_fr 88 (ztx g.T a) t
        have hx2 : zMx (zFl 88 (ztx g.T a) t) g.T (2 ^ g.n) := k1.mx
        rw [mX12_fill_a89_r N hN hx2 hW hb, zb2_some]
        dsimp only
        have f2 := zFl_fr 89 (ztx g.T b) (zFl 88 (ztx g.T a) t)
        rw [mX12_distance_eq N hN (hl a) (hl b) (w := zgt (ztx g.T a)) (u := zgt (ztx g.T b)) ?_ ?_ (hwl a) (hwl b), zb2_some]
        · have hq : zMQ s (zsA (zFl 89 (ztx g.T b) (zFl 88 (ztx g.T a) t)) 90 (zarr ((ztx g.T b).length + 1) (fun m => (zD (zeq (ztx g.T a).length (zgt (ztx g.T a)) (zgt (ztx g.T b))) (ztx g.T a).length m).toNat) (zA (zFl 89 (ztx g.T b) (zFl 88 (ztx g.T a) t)) 90))) := by
            refine (((zMG_Q k2).tr (f1.mo (by decide) (by decide) (by decide))).tr (f2.mo (by decide) (by decide) (by decide))).tr (zfr_sA 90 _ (by decide))
          refine ⟨_, rfl, rfl, zMI_Q h hq ?_, zMQ_SX hq⟩
          exact k1.i.cm
        · intro i hi
          show zA (zFl 89 (ztx g.T b) (zFl 88 (ztx g.T a) t)) 88 i = _
          unfold zFl
          rw [zA_ne _ (by decide), zA_self, zarr_get _ _ hi]
        · intro i hi
          show zA (zFl 89 (ztx g.T b) (zFl 88 (ztx g.T a) t)) 89 i = _
          unfold zFl
          rw [zA_self, zarr_get _ _ hi]
