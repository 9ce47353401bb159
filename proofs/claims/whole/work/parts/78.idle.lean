/-! idle -/
def zid (P : Nat → Bool) : Nat → Nat
  | 0 => 0
  | m + 1 => zid P m ||| (if P m then 2 ^ m else 0)
theorem zid_bit (P : Nat → Bool) (m : Nat) : ∀ j, (zid P j).testBit m = (decide (m < j) && P m) := by
  intro j
  induction j with
  | zero => simp [zid]
  | succ j ih =>
    rw [zid, Nat.testBit_or, ih]
    by_cases e : m = j
    · subst e
      cases q : P m <;> simp [Nat.testBit_two_pow_self]
    · have e2 : (if P j = true then 2 ^ j else 0).testBit m = false := by
        split
        · exact Nat.testBit_two_pow_of_ne (Ne.symm e)
        · exact Nat.zero_testBit m
      rw [e2, Bool.or_false]
      by_cases e3 : m < j
      · simp [e3, show m < j + 1 by omega]
      · simp [e3, show ¬ m < j + 1 by omega]
theorem zid_lt {n : Nat} (P : Nat → Bool) : ∀ j, j ≤ n → zid P j < 2 ^ n := by
  intro j hj
  refine Nat.lt_pow_two_of_testBit _ (fun i hi => ?_)
  rw [zid_bit, decide_eq_false (by omega), Bool.false_and]
theorem zid_congr {P Q : Nat → Bool} {n : Nat} (h : ∀ m, m < n → P m = Q m) : zid P n = zid Q n := by
  apply Nat.eq_of_testBit_eq
  intro i
  rw [zid_bit, zid_bit]
  by_cases q : i < n
  · rw [h i q]
  · rw [decide_eq_false q, Bool.false_and, Bool.false_and]
theorem zid_full (n : Nat) : zid (fun _ => true) n = 2 ^ n - 1 := by
  apply Nat.eq_of_testBit_eq
  intro i
  rw [zid_bit, Nat.testBit_two_pow_sub_one, Bool.and_true]
/-- mark m changes nothing behind S -/
def zok (g : zG) (m S : Nat) : Bool := !(znx g.mu S g.n).testBit m || decide (ztx g.T S = ztx g.T (S ||| 2 ^ m))
def zIdl (g : zG) : Nat := zid (fun m => (zgL g.mu g.n (2 ^ g.n)).all (zok g m)) g.n
theorem znx_or {mu : Nat → Nat} {S n m : Nat} (hS : S < 2 ^ n) (h : (znx mu S n).testBit m = true) : m < n ∧ S ||| 2 ^ m < 2 ^ n := by
  rw [znx_bit] at h
  simp only [Bool.and_eq_true, decide_eq_true_eq] at h
  exact ⟨h.1, zor_lt hS h.1⟩
theorem xw_never (N : Nat) (hN : 5000 ≤ N) {g : zG} {s : zq_S} (h : zXI g s) {m : Nat} (hm : m < g.n) :
    zw (mX11_neverChanges N (nI m) s) (fun v => v.1 = (if (zgL g.mu g.n (2 ^ g.n)).all (zok g m) then 1 else 0) ∧ zXI g v.2 ∧ zXG s v.2) := by
  have hl := zgL_len_le g.mu g.n (2 ^ g.n)
  have hp := zn_pow h.W.n
  have hn := h.W.n
  unfold mX11_neverChanges
  refine zw_cnt (zgL g.mu g.n (2 ^ g.n)).length (fun j v => ∃ t, v = (nI j, t) ∧ ((zgL g.mu g.n (2 ^ g.n)).take j).all (zok g m) = true ∧ zXI g t ∧ zXG s t) ?_ ?_ N 0 _ (by omega) (by omega) ⟨s, rfl, rfl, h, zfr_rfl⟩
  · rintro self v ⟨t, rfl, hk, ht, hq⟩
    dsimp only [bX11_neverChanges_2]
    refine zw_call (xw_goodCount N hN ht) (fun r t2 ⟨k1, k2, k3, _, _⟩ => ?_)
    dsimp only at k1
    rw [k1, if_pos (nI_le (Nat.le_refl _) (by omega))]
    rw [List.take_length] at hk
    refine ⟨_, rfl, ?_, k2, hq.tr k3⟩
    rw [if_pos hk]
  · rintro self j v hj ⟨t, rfl, hk, ht, hq⟩ hself
    obtain ⟨S, e, hS, hg⟩ := zgL_get hj
    have h1 := zlt_pow h.W.n hS
    have hx := znx_lt (n := g.n) g.mu S g.n (Nat.le_refl _)
    have hs : ((zgL g.mu g.n (2 ^ g.n)).take (j + 1)).all (zok g m) = zok g m S := by
      obtain ⟨e1, e2⟩ := List.getElem?_eq_some_iff.mp e
      rw [List.take_succ_eq_append_getElem e1, List.all_append, hk, e2]
      simp
    dsimp only [bX11_neverChanges_2, jX11_neverChanges_j55, zq_let]
    refine zw_call (xw_goodCount N hN ht) (fun r t2 ⟨k1, k2, k3, _, _⟩ => ?_)
    dsimp only at k1
    rw [k1, if_neg (by rw [nI_leI (by omega) (by omega)]; omega)]
    refine zw_call (xw_goodAt N hN k2 e) (fun r t3 ⟨l1, l2, l3, _⟩ => ?_)
    dsimp only at l1
    subst l1
    rw [l2.fol N hN hS, zb2_some]
    dsimp only
    rw [zn_bit (by omega) (by omega), nI_1]
    cases q : (znx g.mu S g.n).testBit m with
    | false =>
      rw [zif_f]
      refine hself _ ⟨t3, rfl, ?_, l2, (hq.tr k3).tr l3⟩
      rw [hs, zok, q]; rfl
    | true =>
      have ho := (znx_or hS q).2
      rw [zif_t, zn_shl (by omega), zn_or]
      refine zw_call (xw_alike N hN l2 h1 (by omega)) (fun r t4 ⟨m1, m2, m3⟩ => ?_)
      dsimp only at m1
      rw [m1]
      by_cases q2 : ztx g.T S = ztx g.T (S ||| 2 ^ m)
      · rw [if_pos q2, if_neg (by decide)]
        refine hself _ ⟨t4, rfl, ?_, m2, ((hq.tr k3).tr l3).tr m3⟩
        rw [hs, zok, q, decide_eq_true q2]; rfl
      · rw [if_neg q2, if_pos rfl]
        refine ⟨_, rfl, ?_, m2, ((hq.tr k3).tr l3).tr m3⟩
        rw [if_neg]
        intro z
        rw [List.all_eq_true] at z
        have := z S (List.mem_of_getElem? e)
        rw [zok, q, decide_eq_false q2] at this
        cases this
theorem xw_idle (N : Nat) (hN : 5000 ≤ N) {g : zG} {s : zq_S} (h : zXI g s) :
    zw (mX11_idle N s) (fun v => v.1 = nI (zIdl g) ∧ zXI g v.2 ∧ zXG s v.2) := by
  have hn := h.W.n
  unfold mX11_idle
  refine zw_cnt g.n (fun j v => ∃ t, v = (nI (zid (fun m => (zgL g.mu g.n (2 ^ g.n)).all (zok g m)) j), nI j, t) ∧ zXI g t ∧ zXG s t) ?_ ?_ N 0 _ (by omega) (by omega) ⟨s, rfl, h, zfr_rfl⟩
  · rintro self v ⟨t, rfl, ht, hq⟩
    dsimp only [bX11_idle_4]
    rw [ht.mk0, if_pos (nI_le (Nat.le_refl _) (by omega))]
    exact ⟨_, rfl, rfl, ht, hq⟩
  · rintro self j v hj ⟨t, rfl, ht, hq⟩ hself
    dsimp only [bX11_idle_4, zq_let]
    rw [ht.mk0, if_neg (by rw [nI_leI (by omega) (by omega)]; omega)]
    refine zw_call (xw_never N hN ht hj) (fun r t2 ⟨k1, k2, k3⟩ => ?_)
    dsimp only at k1
    rw [k1, nI_1, zn_shl (by omega), zn_or]
    refine hself _ ⟨t2, ?_, k2, hq.tr k3⟩
    congr 1
    conv => rhs; unfold zid
    cases (zgL g.mu g.n (2 ^ g.n)).all (zok g j) with
    | false => simp
    | true => simp
theorem mw_idle_in (N : Nat) (hN : 5000 ≤ N) {g : zG} {s : zq_S} (h : zMR g s) {S : Nat} (hS : S < 2 ^ g.n) (A : Nat → Bool) (k : Int32 × zq_S → Option (Int32 × zq_S)) :
    zq_loop (bX12_idle_21 N (nI S) k) N (nI (zid A g.n), 0, s) = k (nI (zid (fun m => A m && (!zgd g.mu S g.n || zok g m S)) g.n), s) := by
  have hn := h.i.W.n
  have hp := zn_pow hn
  have h1 := h.p hS
  have hx := znx_lt (n := g.n) g.mu S g.n (Nat.le_refl _)
  cases hg : zgd g.mu S g.n with
  | false =>
    obtain ⟨M, rfl⟩ : ∃ M', N = M' + 1 := ⟨N - 1, by omega⟩
    rw [zq_loop_s]
    dsimp only [bX12_idle_21]
    rw [zck_nI h1 (by decide), zga_nI _ _ (by omega), h.good hS, hg, zib_f, if_pos rfl, ite_self]
    congr 3
    exact zid_congr (fun m _ => by simp)
  | true =>
    have e0 : (nI (zid A g.n), (0 : Int32), s) = (fun i => (nI (zid (fun m => A m && (!decide (m < i) || zok g m S)) g.n), nI i, s)) 0 := by
      show _ = (nI (zid (fun m => A m && (!decide (m < 0) || zok g m S)) g.n), nI 0, s)
      congr 2
      exact zid_congr (fun m _ => by simp)
    rw [e0]
    refine zq_up g.n (fun i => (nI (zid (fun m => A m && (!decide (m < i) || zok g m S)) g.n), nI i, s)) (fun self => ?_) (fun self i hi => ?_) N 0 (by omega) (by omega)
    · dsimp only [bX12_idle_21]
      rw [h.i.mk, if_pos (nI_le (Nat.le_refl _) (by omega))]
      congr 3
      exact zid_congr (fun m hm => by simp [hm])
    · have hb := zid_lt (n := g.n) (fun m => A m && (!decide (m < i) || zok g m S)) g.n (Nat.le_refl _)
      have same : zok g i S = true ∨ A i = false → zid (fun m => A m && (!decide (m < i) || zok g m S)) g.n = zid (fun m => A m && (!decide (m < i + 1) || zok g m S)) g.n := by
        intro e
        refine zid_congr (fun m _ => ?_)
        by_cases q : m = i
        · subst q
          rcases e with e | e
          · rw [e]; simp
          · rw [e]; rfl
        · by_cases q2 : m < i
          · rw [decide_eq_true q2, decide_eq_true (show m < i + 1 by omega)]
          · rw [decide_eq_false q2, decide_eq_false (show ¬ m < i + 1 by omega)]
      dsimp only [bX12_idle_21, jX12_idle_j80, zq_let]
      rw [h.i.mk, if_neg (by rw [nI_leI (by omega) (by omega)]; omega), zck_nI h1 (by decide), zga_nI _ _ (by omega), h.good hS, hg, zib_t, if_neg (show ¬ (1 : Int32) = 0 by decide), zck_nI h1 (by decide), zga_nI _ _ (by omega), h.nx hS, mX12_has_eq N (by omega) (by omega), zb2_some, nI_1]
      dsimp only
      cases q : (znx g.mu S g.n).testBit i with
      | false =>
        rw [zif_f, same (Or.inl (by rw [zok, q]; rfl))]
      | true =>
        have ho := (znx_or hS q).2
        rw [zif_t, mX12_has_eq N (by omega) (by omega), zb2_some, zid_bit, decide_eq_true hi, Bool.true_and]
        dsimp only
        cases qa : A i with
        | false =>
          rw [Bool.false_and, zif_f, same (Or.inr qa)]
        | true =>
          rw [decide_eq_false (Nat.lt_irrefl i)]
          simp only [Bool.not_false, Bool.true_or, Bool.and_true, if_true]
          rw [if_neg (show ¬ (1 : Int32) = 0 by decide), zn_shl (by omega), zn_or, mX12_areLike_r N hN h hS ho, zb2_some]
          dsimp only
          by_cases q2 : ztx g.T S = ztx g.T (S ||| 2 ^ i)
          · rw [if_pos q2, if_neg (show ¬ (1 : Int32) = 0 by decide), same (Or.inl (by rw [zok, q, decide_eq_true q2]; rfl))]
          · rw [if_neg q2, if_pos rfl, zn_andnot]
            congr 3
            apply Nat.eq_of_testBit_eq
            intro m
            have : (zid (fun m => A m && (!decide (m < i) || zok g m S)) g.n ^^^ (zid (fun m => A m && (!decide (m < i) || zok g m S)) g.n &&& 2 ^ i)).testBit m = _ := zmn_bit _ _ m
            rw [this, zid_bit, zid_bit]
            by_cases e : m = i
            · subst e
              rw [Nat.testBit_two_pow_self, decide_eq_true (show m < m + 1 by omega), zok, q, decide_eq_false q2]
              simp
            · rw [Nat.testBit_two_pow_of_ne (Ne.symm e)]
              by_cases q3 : m < i
              · rw [decide_eq_true q3, decide_eq_true (show m < i + 1 by omega)]; simp
              · rw [decide_eq_false q3, decide_eq_false (show ¬ m < i + 1 by omega)]; simp
theorem mw_idle (N : Nat) (hN : 5000 ≤ N) {g : zG} {s : zq_S} (h : zMR g s) :
    zq_loop (bX12_idle_11 N) N (nI (2 ^ g.n - 1), 0, s) = some (nI (zIdl g), s) := by
  have hn := h.i.W.n
  have hp := zn_pow hn
  have h0 : 0 < 2 ^ g.n := Nat.pow_pos (by decide)
  have e0 : (nI (2 ^ g.n - 1), (0 : Int32), s) = (fun k => (nI (zid (fun m => (zgL g.mu g.n k).all (zok g m)) g.n), nI k, s)) 0 := by
    show _ = (nI (zid (fun m => (zgL g.mu g.n 0).all (zok g m)) g.n), nI 0, s)
    rw [← zid_full]
    rfl
  rw [e0]
  refine zq_up (2 ^ g.n) (fun k => (nI (zid (fun m => (zgL g.mu g.n k).all (zok g m)) g.n), nI k, s)) (fun self => ?_) (fun self j hj => ?_) N 0 (by omega) (by omega)
  · dsimp only [bX12_idle_11]
    rw [mX12_all_eq N h.i.mk hn, zb2_some]
    dsimp only
    rw [if_pos (nI_lt (by omega) (by omega))]
    rfl
  · dsimp only [bX12_idle_11, jX12_idle_j86, zq_let]
    rw [mX12_all_eq N h.i.mk hn, zb2_some]
    dsimp only
    rw [if_neg (nI_nlt (by omega) (by omega)), mw_idle_in N hN h hj, nI_1]
    have e : zid (fun m => (zgL g.mu g.n j).all (zok g m) && (!zgd g.mu j g.n || zok g m j)) g.n = zid (fun m => (zgL g.mu g.n (j + 1)).all (zok g m)) g.n := by
      refine zid_congr (fun m _ => ?_)
      rw [zgL_s, List.all_append]
      cases zgd g.mu j g.n <;> simp
    dsimp only
    rw [e]
theorem pub_idle (N : Nat) (hN : 5000 ≤ N) {g : zG} (hW : zGW g) : zAg g g (mX11_idle N) (mX12_idle N) := by
  refine ⟨nI (zIdl g), fun s h => ?_, fun s h => ?_⟩
  · exact zw_mono (xw_idle N hN h) (fun v ⟨a, b, c⟩ => ⟨a, b, zXG_SM c⟩)
  · unfold mX12_idle
    refine zw_call (mw_findTexts N hN h) (fun r t ⟨k1, k2⟩ => ?_)
    rw [mX12_all_eq N k1.i.mk hW.n, zb2_some]
    dsimp only
    rw [mw_idle N hN k1]
    exact ⟨_, rfl, rfl, k1.i, zMG_SX k2⟩
