/-! times, nearest -/
theorem zft_get {l : List Nat} {P : Nat → Bool} {j S : Nat} (e : l[j]? = some S) (hp : P S = true) : (l.filter P)[((l.take j).filter P).length]? = some S := by
  obtain ⟨h1, h2⟩ := List.getElem?_eq_some_iff.mp e
  have : l.filter P = (l.take j).filter P ++ (l.drop j).filter P := by rw [← List.filter_append, List.take_append_drop]
  rw [this, List.getElem?_append_right (Nat.le_refl _), Nat.sub_self, List.drop_eq_getElem_cons h1, h2, List.filter_cons, if_pos hp]
  rfl
theorem zft_s {l : List Nat} (P : Nat → Bool) {j S : Nat} (e : l[j]? = some S) : (l.take (j + 1)).filter P = (l.take j).filter P ++ (if P S then [S] else []) := by
  obtain ⟨h1, h2⟩ := List.getElem?_eq_some_iff.mp e
  rw [List.take_succ_eq_append_getElem h1, h2, List.filter_append]
  cases q : P S <;> simp [q]
theorem zgf_s (mu : Nat → Nat) (n k : Nat) (P : Nat → Bool) : (zgL mu n (k + 1)).filter P = (zgL mu n k).filter P ++ (if zgd mu k n = true ∧ P k = true then [k] else []) := by
  rw [zgL_s, List.filter_append]
  cases zgd mu k n <;> cases q : P k <;> simp [q]
theorem zgf_get {mu : Nat → Nat} {n k : Nat} {P : Nat → Bool} (hk : k < 2 ^ n) (hg : zgd mu k n = true) (hp : P k = true) : ((zgL mu n (2 ^ n)).filter P)[((zgL mu n k).filter P).length]? = some k := by
  have e : (zgL mu n k).filter P = ((List.range (2 ^ n)).take k).filter (fun S => P S && zgd mu S n) := by
    unfold zgL
    rw [List.filter_filter, List.take_range, Nat.min_eq_left (by omega)]
  have e2 : (zgL mu n (2 ^ n)).filter P = (List.range (2 ^ n)).filter (fun S => P S && zgd mu S n) := by
    unfold zgL
    rw [List.filter_filter]
  rw [e, e2]
  refine zft_get (List.getElem?_range hk) ?_
  simp only [hg, hp, Bool.and_self]
theorem zat_none {l : List Nat} {i : Int32} (h1 : i ≠ -1) (h : ∀ q, i = nI q → q < 2 ^ 31 → l.length ≤ q) : zat l i = -1 := by
  unfold zat
  rw [if_neg h1]
  by_cases h2 : i < 0
  · rw [if_pos h2]
  · obtain ⟨q, hq1, rfl⟩ := nI_of h2
    rw [if_neg h2, nI_clamp hq1, List.getElem?_eq_none (h q rfl hq1)]
theorem zat_some {l : List Nat} {q x : Nat} (hq : q < 2 ^ 31) (h : l[q]? = some x) : zat l (nI q) = nI x := by
  unfold zat
  rw [if_neg (nI_nm1 hq), if_neg (nI_nneg hq), nI_clamp hq, h]
def zTm (g : zG) (l : List Nat) (S : Nat) : Bool := decide (ztx g.T S = l)
theorem zlen_f (l : List Nat) (P : Nat → Bool) : (l.filter P).length ≤ l.length := List.length_filter_le _ _
theorem xw_timesOf (N : Nat) (hN : 5000 ≤ N) {g : zG} {s : zq_S} (h : zXI g s) {c : Nat} {l : List Nat} (hc : g.cp[c]? = some l) :
    zw (mX1_timesOf N (nI c) s) (fun v => v.1 = nI ((zgL g.mu g.n (2 ^ g.n)).filter (zTm g l)).length ∧ zXI g v.2 ∧ zXG s v.2) := by
  have hl := zgL_len_le g.mu g.n (2 ^ g.n)
  have hp := zn_pow h.W.n
  unfold mX1_timesOf
  refine zw_cnt (zgL g.mu g.n (2 ^ g.n)).length (fun j v => ∃ t, v = (nI (((zgL g.mu g.n (2 ^ g.n)).take j).filter (zTm g l)).length, nI j, t) ∧ zXI g t ∧ zXG s t) ?_ ?_ N 0 _ (by omega) (by omega) ⟨s, rfl, h, zfr_rfl⟩
  · rintro self v ⟨t, rfl, ht, hq⟩
    dsimp only [bX1_timesOf_4]
    refine zw_call (xw_goodCount N hN ht) (fun r t2 ⟨k1, k2, k3, _, _⟩ => ?_)
    dsimp only at k1
    rw [k1, if_pos (nI_le (Nat.le_refl _) (by omega)), List.take_length]
    exact ⟨_, rfl, rfl, k2, hq.tr k3⟩
  · rintro self j v hj ⟨t, rfl, ht, hq⟩ hself
    obtain ⟨S, e, hS, hg⟩ := zgL_get hj
    have h1 := zlt_pow h.W.n hS
    dsimp only [bX1_timesOf_4, jX1_timesOf_j34, zq_let]
    refine zw_call (xw_goodCount N hN ht) (fun r t2 ⟨k1, k2, k3, _, _⟩ => ?_)
    dsimp only at k1
    rw [k1, if_neg (by rw [nI_leI (by omega) (by omega)]; omega)]
    refine zw_call (xw_goodAt N hN k2 e) (fun r t3 ⟨l1, l2, l3, _⟩ => ?_)
    dsimp only at l1
    subst l1
    refine zw_call (xw_isTime N hN l2 hc h1) (fun r t4 ⟨m1, m2, m3⟩ => ?_)
    dsimp only at m1
    rw [m1, nI_1, nI_1]
    have es := zft_s (zTm g l) e
    by_cases q : ztx g.T S = l
    · rw [if_pos q, if_neg (by decide)]
      refine hself _ ⟨t4, ?_, m2, ((hq.tr k3).tr l3).tr m3⟩
      rw [es, zTm, if_pos (decide_eq_true q), List.length_append]; rfl
    · rw [if_neg q, if_pos rfl]
      refine hself _ ⟨t4, ?_, m2, ((hq.tr k3).tr l3).tr m3⟩
      rw [es, zTm, if_neg (by simpa using q), List.append_nil]
theorem xw_timeAt (N : Nat) (hN : 5000 ≤ N) {g : zG} {s : zq_S} (h : zXI g s) {c : Nat} {l : List Nat} (hc : g.cp[c]? = some l) {p : Int32} (hp1 : p ≠ -1) :
    zw (mX1_timeAt N (nI c) p s) (fun v => v.1 = zat ((zgL g.mu g.n (2 ^ g.n)).filter (zTm g l)) p ∧ zXI g v.2 ∧ zXG s v.2) := by
  have hl := zgL_len_le g.mu g.n (2 ^ g.n)
  have hp := zn_pow h.W.n
  unfold mX1_timeAt
  by_cases hneg : p < 0
  · obtain ⟨M, rfl⟩ : ∃ M', N = M' + 1 := ⟨N - 1, by omega⟩
    rw [zq_loop_s]
    dsimp only [bX1_timeAt_5, jX1_timeAt_j61]
    refine zw_call (xw_goodCount _ hN h) (fun r t2 ⟨k1, k2, k3, _, _⟩ => ?_)
    rw [if_pos hneg, ite_self]
    refine ⟨_, rfl, ?_, k2, k3⟩
    unfold zat
    rw [if_neg hp1, if_pos hneg]
  obtain ⟨q, hq1, rfl⟩ := nI_of hneg
  refine zw_cnt (zgL g.mu g.n (2 ^ g.n)).length (fun j v => ∃ t, v = (nI (q - (((zgL g.mu g.n (2 ^ g.n)).take j).filter (zTm g l)).length), nI j, t) ∧ (((zgL g.mu g.n (2 ^ g.n)).take j).filter (zTm g l)).length ≤ q ∧ zXI g t ∧ zXG s t) ?_ ?_ N 0 _ (by omega) (by omega) ⟨s, rfl, Nat.zero_le _, h, zfr_rfl⟩
  · rintro self v ⟨t, rfl, hle, ht, hq⟩
    dsimp only [bX1_timeAt_5, jX1_timeAt_j61]
    refine zw_call (xw_goodCount N hN ht) (fun r t2 ⟨k1, k2, k3, _, _⟩ => ?_)
    dsimp only at k1
    rw [k1, if_pos (nI_le (Nat.le_refl _) (by omega))]
    rw [List.take_length] at hle
    refine ⟨_, rfl, ?_, k2, hq.tr k3⟩
    refine (zat_none hp1 (fun r hr hr2 => ?_)).symm
    rw [nI_eq hq1 hr2] at hr
    omega
  · rintro self j v hj ⟨t, rfl, hle, ht, hq⟩ hself
    obtain ⟨S, e, hS, hg⟩ := zgL_get hj
    have h1 := zlt_pow h.W.n hS
    dsimp only [bX1_timeAt_5, jX1_timeAt_j61, jX1_timeAt_j55, zq_let]
    refine zw_call (xw_goodCount N hN ht) (fun r t2 ⟨k1, k2, k3, _, _⟩ => ?_)
    dsimp only at k1
    rw [k1, if_neg (by rw [nI_leI (by omega) (by omega)]; omega), if_neg hneg]
    refine zw_call (xw_goodAt N hN k2 e) (fun r t3 ⟨l1, l2, l3, _⟩ => ?_)
    dsimp only at l1
    subst l1
    refine zw_call (xw_isTime N hN l2 hc h1) (fun r t4 ⟨m1, m2, m3⟩ => ?_)
    dsimp only at m1
    rw [m1, nI_1]
    have es := zft_s (zTm g l) e
    by_cases q2 : ztx g.T S = l
    · rw [if_pos q2, if_neg (show ¬ (1 : Int32) = 0 by decide)]
      by_cases q3 : q - (((zgL g.mu g.n (2 ^ g.n)).take j).filter (zTm g l)).length = 0
      · rw [q3, if_pos (by rfl)]
        refine zw_call (xw_goodAt N hN m2 e) (fun r t5 ⟨n1, n2, n3, _⟩ => ?_)
        refine ⟨_, rfl, ?_, n2, (((hq.tr k3).tr l3).tr m3).tr n3⟩
        dsimp only at n1 ⊢
        rw [n1]
        have := zft_get (P := zTm g l) e (decide_eq_true q2)
        rw [show (((zgL g.mu g.n (2 ^ g.n)).take j).filter (zTm g l)).length = q by omega] at this
        exact (zat_some hq1 this).symm
      · rw [if_neg (by rw [show (0 : Int32) = nI 0 from rfl, nI_eq (by omega) (by decide)]; exact q3)]
        have e4 : (((zgL g.mu g.n (2 ^ g.n)).take (j + 1)).filter (zTm g l)).length = (((zgL g.mu g.n (2 ^ g.n)).take j).filter (zTm g l)).length + 1 := by
          rw [es, if_pos (show zTm g l S = true from decide_eq_true q2), List.length_append, List.length_singleton]
        have e5 : nI (q - (((zgL g.mu g.n (2 ^ g.n)).take j).filter (zTm g l)).length) + -1 = nI (q - (((zgL g.mu g.n (2 ^ g.n)).take (j + 1)).filter (zTm g l)).length) := by
          rw [e4, show q - (((zgL g.mu g.n (2 ^ g.n)).take j).filter (zTm g l)).length = (q - ((((zgL g.mu g.n (2 ^ g.n)).take j).filter (zTm g l)).length + 1)) + 1 by omega, pk_m1]
        rw [e5]
        exact hself _ ⟨t4, rfl, by omega, m2, ((hq.tr k3).tr l3).tr m3⟩
    · rw [if_neg q2, if_pos rfl]
      have e3 : ((zgL g.mu g.n (2 ^ g.n)).take (j + 1)).filter (zTm g l) = ((zgL g.mu g.n (2 ^ g.n)).take j).filter (zTm g l) := by
        rw [es, if_neg (by rw [zTm, decide_eq_false q2]; decide), List.append_nil]
      refine hself _ ⟨t4, ?_, ?_, m2, ((hq.tr k3).tr l3).tr m3⟩
      · rw [e3]
      · rw [e3]; exact hle
theorem mw_times (N : Nat) (hN : 5000 ≤ N) {g : zG} {s : zq_S} (h : zMR g s) {c : Nat} {l : List Nat} (hc : g.cp[c]? = some l) (p : Int32) :
    zq_loop (bX12_times_21 N (nI c) p) N (0, 0, s) = some (zat ((zgL g.mu g.n (2 ^ g.n)).filter (zTm g l)) p, s) := by
  have hp := zn_pow h.i.W.n
  have h0 : 0 < 2 ^ g.n := Nat.pow_pos (by decide)
  refine zw_of (zw_cnt (2 ^ g.n) (fun j v => v = (nI ((zgL g.mu g.n j).filter (zTm g l)).length, nI j, s) ∧ ∀ q, p = nI q → q < 2 ^ 31 → ((zgL g.mu g.n j).filter (zTm g l)).length ≤ q) ?_ ?_ N 0 _ (by omega) (by omega) ⟨rfl, fun _ _ _ => Nat.zero_le _⟩)
  · rintro self v ⟨rfl, hle⟩
    dsimp only [bX12_times_21, zq_let]
    rw [mX12_all_eq N h.i.mk h.i.W.n, zb2_some]
    dsimp only
    rw [if_pos (nI_lt (by omega) (by omega))]
    refine ⟨_, rfl, ?_⟩
    by_cases e : p = -1
    · rw [if_pos e, e]; rfl
    · rw [if_neg e, zat_none e hle]
  · rintro self j v hj ⟨rfl, hle⟩ hself
    have hl := zgL_len_le g.mu g.n j
    have hl2 := zlen_f (zgL g.mu g.n j) (zTm g l)
    dsimp only [bX12_times_21, jX12_times_j51, zq_let]
    rw [mX12_all_eq N h.i.mk h.i.W.n, zb2_some]
    dsimp only
    rw [if_neg (nI_nlt (by omega) (by omega)), mX12_isTime_r N hN h hc hj, zb2_some, nI_1, nI_1]
    dsimp only
    have es := zgf_s g.mu g.n j (zTm g l)
    by_cases q : zgd g.mu j g.n = true ∧ ztx g.T j = l
    · rw [if_pos ⟨q.1, decide_eq_true q.2⟩] at es
      rw [if_pos q, if_neg (show ¬ (1 : Int32) = 0 by decide)]
      by_cases q2 : nI ((zgL g.mu g.n j).filter (zTm g l)).length = p
      · rw [if_pos q2]
        refine ⟨_, rfl, ?_⟩
        rw [← q2, zat_some (by omega) (zgf_get hj q.1 (decide_eq_true q.2))]
      · rw [if_neg q2]
        refine hself _ ⟨?_, fun r hr hr2 => ?_⟩
        · rw [es, List.length_append]; rfl
        · have a := hle r hr hr2
          have b : ((zgL g.mu g.n j).filter (zTm g l)).length ≠ r := fun z => q2 (by rw [z, hr])
          rw [es, List.length_append, List.length_singleton]
          omega
    · rw [if_neg (fun z => q ⟨z.1, of_decide_eq_true z.2⟩), List.append_nil] at es
      rw [if_neg q, if_pos rfl]
      refine hself _ ⟨?_, fun r hr hr2 => ?_⟩
      · rw [es]
      · rw [es]; exact hle r hr hr2
theorem zXI.hc {g : zG} {s : zq_S} (h : zXI g s) (N : Nat) (p : Int32) : mX1_hasCopy N p s = some (if ¬ p < 0 ∧ ¬ nI g.cp.length ≤ p then 1 else 0, s) := by
  dsimp only [mX1_hasCopy, zq_let]
  rw [h.c3.2.2.1]
  by_cases q : p < 0
  · rw [if_pos q, if_neg (fun z => z.1 q), zb_0]
  · rw [if_neg q]
    by_cases q2 : nI g.cp.length ≤ p
    · rw [if_pos q2, if_neg (fun z => z.2 q2), zb_0]
    · rw [if_neg q2, if_pos ⟨q, q2⟩, zb_1]
theorem zMI.ic {g : zG} {s : zq_S} (h : zMI g s) (N : Nat) (p : Int32) : mX12_isCopy N p s = some (if ¬ p < 0 ∧ ¬ nI g.cp.length ≤ p then 1 else 0, s) := by
  have := h.W.cp.1
  unfold mX12_isCopy
  rw [mX12_in_eq, h.c3.2.2.1, zb2_some]
  dsimp only
  rw [zb_if]
  congr 2
  exact zif_iff (zin_lt (by omega) p)
theorem zcparg {g : zG} (hW : zGW g) (p : Int32) : ¬ (¬ p < 0 ∧ ¬ nI g.cp.length ≤ p) ∨ ∃ c l, g.cp[c]? = some l ∧ c < 4 ∧ p = nI c ∧ (¬ p < 0 ∧ ¬ nI g.cp.length ≤ p) := by
  have := hW.cp.1
  rcases zarg (c := g.cp.length) (by omega) p with z | ⟨c, hc, rfl, z⟩
  · exact Or.inl z
  · exact Or.inr ⟨c, _, List.getElem?_eq_getElem hc, by omega, rfl, z⟩
theorem pub_times (N : Nat) (hN : 5000 ≤ N) {g : zG} (hW : zGW g) (p q : Int32) : zAg g g (mX11_times N p q) (mX12_times N p q) := by
  rcases zcparg hW p with z | ⟨c, l, hc, hc4, rfl, z⟩
  · refine ⟨-1001, fun s h => ?_, fun s h => ?_⟩
    · unfold mX11_times
      rw [h.hc N, if_neg z, zb2_some]
      exact ⟨_, rfl, rfl, h, zSM_rfl⟩
    · unfold mX12_times
      rw [h.ic N, if_neg z, zb2_some]
      exact ⟨_, rfl, rfl, h, zSX_rfl⟩
  · refine ⟨zat ((zgL g.mu g.n (2 ^ g.n)).filter (zTm g l)) q, fun s h => ?_, fun s h => ?_⟩
    · unfold mX11_times
      rw [h.hc N, if_pos z, zb2_some]
      dsimp only
      rw [if_neg (show ¬ (1 : Int32) = 0 by decide)]
      by_cases e : q = -1
      · rw [if_pos e]
        refine zw_call (xw_timesOf N hN h hc) (fun r t ⟨k1, k2, k3⟩ => ?_)
        refine ⟨_, rfl, ?_, k2, zXG_SM k3⟩
        dsimp only at k1 ⊢
        rw [k1, e]; rfl
      · rw [if_neg e]
        refine zw_call (xw_timeAt N hN h hc e) (fun r t ⟨k1, k2, k3⟩ => ?_)
        exact ⟨_, rfl, k1, k2, zXG_SM k3⟩
    · unfold mX12_times
      rw [h.ic N, if_pos z, zb2_some]
      dsimp only
      rw [if_neg (show ¬ (1 : Int32) = 0 by decide)]
      refine zw_call (mw_findTexts N hN h) (fun r t ⟨k1, k2⟩ => ?_)
      rw [mw_times N hN k1 hc]
      exact ⟨_, rfl, rfl, k1.i, zMG_SX k2⟩
