/-! the class's counting from the full set back, over either row -/
/-- the rule of a table that counts on from the sets that c lets pass -/
def zcR (n : Nat) (mu : Nat → Nat) (c F : Nat → Int64) (S : Nat) : Prop := F S = if c S = 0 then 0 else if S = 2 ^ n - 1 then c S else zfv n (zed n mu S) S 0 F
theorem zgL_lt {mu : Nat → Nat} {n k i j a b : Nat} (hi : (zgL mu n k)[i]? = some a) (hj : (zgL mu n k)[j]? = some b) (h : i < j) : a < b := by
  have hp : (zgL mu n k).Pairwise (· < ·) := List.Pairwise.filter _ List.pairwise_lt_range
  obtain ⟨h1, e1⟩ := List.getElem?_eq_some_iff.mp hi
  obtain ⟨h2, e2⟩ := List.getElem?_eq_some_iff.mp hj
  have := List.pairwise_iff_getElem.mp hp i j h1 h2 h
  rw [e1, e2] at this
  exact this
theorem zgL_mono {mu : Nat → Nat} {n k i j a b : Nat} (hi : (zgL mu n k)[i]? = some a) (hj : (zgL mu n k)[j]? = some b) (h : i ≤ j) : a ≤ b := by
  by_cases e : i = j
  · subst e
    have := Option.some.inj (hi.symm.trans hj)
    omega
  · have := zgL_lt hi hj (by omega)
    omega
theorem zgL_inj {mu : Nat → Nat} {n k i j a : Nat} (hi : (zgL mu n k)[i]? = some a) (hj : (zgL mu n k)[j]? = some a) : i = j := by
  rcases Nat.lt_trichotomy i j with h | h | h
  · have := zgL_lt hi hj h; omega
  · exact h
  · have := zgL_lt hj hi h; omega
theorem zgL_end {mu : Nat → Nat} {n : Nat} (hg : zgd mu (2 ^ n - 1) n = true) : zgL mu n (2 ^ n) = zgL mu n (2 ^ n - 1) ++ [2 ^ n - 1] := by
  have h0 : 0 < 2 ^ n := Nat.pow_pos (by decide)
  have := zgL_s mu n (2 ^ n - 1)
  rw [show 2 ^ n - 1 + 1 = 2 ^ n by omega, hg] at this
  exact this
theorem zgL_last {mu : Nat → Nat} {n i S : Nat} (hg : zgd mu (2 ^ n - 1) n = true) (hi : (zgL mu n (2 ^ n))[i]? = some S) (h : (zgL mu n (2 ^ n)).length ≤ i + 1) : S = 2 ^ n - 1 := by
  have h1 := (List.getElem?_eq_some_iff.mp hi).1
  rw [zgL_end hg] at hi h h1
  simp only [List.length_append, List.length_singleton] at h h1
  rw [show i = (zgL mu n (2 ^ n - 1)).length by omega] at hi
  simp at hi
  exact hi.symm
theorem zgL_nlast {mu : Nat → Nat} {n i S : Nat} (hg : zgd mu (2 ^ n - 1) n = true) (hi : (zgL mu n (2 ^ n))[i]? = some S) (h : i + 1 < (zgL mu n (2 ^ n)).length) : S ≠ 2 ^ n - 1 := by
  have hj := List.getElem?_eq_getElem (show (zgL mu n (2 ^ n)).length - 1 < (zgL mu n (2 ^ n)).length by omega)
  have h2 := zgL_last hg hj (by omega)
  have h3 := zgL_lt hi hj (by omega)
  rw [h2] at h3
  omega
theorem xwo_45 (N : Nat) (hN : 5000 ≤ N) {s : zq_S} {n : Nat} {mu : Nat → Nat} (hX : zXM s n mu) {S : Nat} (hS : S < 2 ^ n) (hg : zgd mu S n = true) : mX4_waysOn_a45 N (nI S) s = some (zfv n (zed n mu S) S 0 (zL s 45), s) := by
  obtain ⟨hn, hmk, h34, hh⟩ := hX
  have hp := zn_pow hn
  have hx := znx_lt (n := n) mu S n (Nat.le_refl _)
  unfold mX4_waysOn_a45
  rw [mX3_following_eq N hN hn hmk h34 hh (by omega), zb2_some]
  dsimp only
  have e0 : ((0 : Int64), (0 : Int32), s) = (fun j => (zsi 0 (fun m => if zed n mu S m then zL s 45 (S ||| 2 ^ m) else 0) j, nI j, s)) 0 := rfl
  have e10 : zfv n (zed n mu S) S 0 (zL s 45) = zsi 0 (fun m => if zed n mu S m then zL s 45 (S ||| 2 ^ m) else 0) 10 := by
    unfold zfv
    have : ∀ r, n + r ≤ 10 → zsi 0 (fun m => if zed n mu S m then zL s 45 (S ||| 2 ^ m) else 0) (n + r) = zsi 0 (fun m => if zed n mu S m then zL s 45 (S ||| 2 ^ m) else 0) n := by
      intro r
      induction r with
      | zero => intro _; rfl
      | succ r ih =>
        intro hr
        have hz : zed n mu S (n + r) = false := by
          cases q : zed n mu S (n + r) with
          | false => rfl
          | true => have := (zed_lt q).1; omega
        rw [show n + (r + 1) = (n + r) + 1 by omega, zsi, ih (by omega), hz]
        simp
    have h2 := this (10 - n) (by omega)
    rw [show n + (10 - n) = 10 by omega] at h2
    exact h2.symm
  rw [e0, e10]
  refine zq_up 10 (fun j => (zsi 0 (fun m => if zed n mu S m then zL s 45 (S ||| 2 ^ m) else 0) j, nI j, s)) (fun self => rfl) (fun self j hj => ?_) N 0 (by omega) (by omega)
  have hq : (znx mu S n).testBit j = zed n mu S j := by rw [zed, hg, Bool.true_and]
  dsimp only [bX4_waysOn_a45_15, jX4_waysOn_a45_j43, zq_let]
  rw [if_neg (show ¬ (10 : Int32) ≤ nI j from nI_ge hj (by decide)), zn_bit (by omega) (by omega), hq, zn_shl (by omega), zn_or, nI_1]
  cases hz : zed n mu S j with
  | false => simp [zsi, hz]
  | true =>
    have hl := zor_lt hS (zed_lt hz).1
    rw [zck_nI (by omega) (by decide), zgl_nI _ _ (by omega)]
    simp [zsi, hz]
theorem zXM_L45 {s : zq_S} {n : Nat} {mu : Nat → Nat} (h : zXM s n mu) (T : Nat → Int64) : zXM (zsL s 45 T) n mu := h
theorem zGV_L45 {s : zq_S} {n : Nat} {mu : Nat → Nat} (h : zGV s n mu) (T : Nat → Int64) : zGV (zsL s 45 T) n mu := h
theorem xcw_45_loop (N : Nat) (hN : 5000 ≤ N) {s : zq_S} {n : Nat} {mu : Nat → Nat} (hV : zGV s n mu) (c : Nat → Int64) : ∀ (k M : Nat) (T : Nat → Int64), k < (zgL mu n (2 ^ n)).length → k < M →
    (∀ i S, (zgL mu n (2 ^ n))[i]? = some S → (k ≤ i → zcR n mu c T S) ∧ (i < k → T S = c S)) →
    ∃ T', zq_loop (bX4_countWays_a45_10 N) M (nI k + (-1), zsL s 45 T) = some ((), zsL s 45 T') ∧ ∀ S, S < 2 ^ n → zgd mu S n = true → zcR n mu c T' S := by
  have hn := hV.1.1
  have hp := zn_pow hn
  have hlen := zgL_len_le mu n (2 ^ n)
  intro k
  induction k with
  | zero =>
    intro M T hk hM hI
    obtain ⟨M, rfl⟩ : ∃ M', M = M' + 1 := ⟨M - 1, by omega⟩
    refine ⟨T, ?_, fun S h1 h2 => ?_⟩
    · rw [zq_loop_s]
      dsimp only [bX4_countWays_a45_10]
      rw [if_pos (by decide)]
    · obtain ⟨i, hi⟩ := List.getElem?_of_mem (zgL_mem.mpr ⟨h1, h2⟩)
      exact (hI i S hi).1 (Nat.zero_le _)
  | succ k ih =>
    intro M T hk hM hI
    obtain ⟨M, rfl⟩ : ∃ M', M = M' + 1 := ⟨M - 1, by omega⟩
    have hi := List.getElem?_eq_getElem (show k < (zgL mu n (2 ^ n)).length by omega)
    generalize (zgL mu n (2 ^ n))[k] = S at hi
    obtain ⟨hS, hg⟩ := zgL_mem.mp (List.mem_of_getElem? hi)
    have hTS := (hI k S hi).2 (by omega)
    rw [zq_loop_s, pk_m1]
    dsimp only [bX4_countWays_a45_10, jX4_countWays_a45_j40, zq_let]
    rw [if_neg (nI_pos (by omega)), mX3_goodAt_v N (zGV_L45 hV T) hi, zb2_some]
    dsimp only
    have hfull : S ≠ 2 ^ n - 1 := zgL_nlast (zgd_full hV.1.2.2.2) hi (by omega)
    rw [zck_nI (by omega) (by decide), zgl_nI _ _ (by omega), zL_self, hTS]
    by_cases hc : c S = 0
    · rw [if_pos ((lgc_eq _ _).mpr hc)]
      refine ih M T (by omega) (by omega) (fun i U hU => ⟨fun h => ?_, fun h => (hI i U hU).2 (by omega)⟩)
      by_cases e : i = k
      · subst e
        have : U = S := Option.some.inj (hU.symm.trans hi)
        subst this
        unfold zcR
        rw [if_pos hc, hTS, hc]
      · exact (hI i U hU).1 (by omega)
    · rw [if_neg (fun z => hc ((lgc_eq _ _).mp z)), xwo_45 N hN (zXM_L45 hV.1 T) hS hg, zb2_some]
      dsimp only
      rw [zck_nI (by omega) (by decide), zL_self, zpl_nI _ _ (by omega), zL_self, zsL_sL]
      refine ih M _ (by omega) (by omega) (fun i U hU => ⟨fun h => ?_, fun h => ?_⟩)
      · obtain ⟨hU1, hU2⟩ := zgL_mem.mp (List.mem_of_getElem? hU)
        have hle : S ≤ U := zgL_mono hi hU h
        by_cases e : U = S
        · subst e
          unfold zcR
          rw [if_neg hc, if_neg hfull, pk_uLs]
          exact zfv_congr (fun m _ hm => by rw [pk_uLn]; have := zed_gt _ _ hm; omega)
        · have e2 : i ≠ k := fun z => e (by subst z; exact Option.some.inj (hU.symm.trans hi))
          have := (hI i U hU).1 (by omega)
          unfold zcR at this ⊢
          rw [pk_uLn e, this]
          split
          · rfl
          · split
            · rfl
            · exact zfv_congr (fun m _ hm => by rw [pk_uLn]; have := zed_gt _ _ hm; omega)
      · have e : U ≠ S := fun z => by
          have := zgL_inj hU (z ▸ hi)
          omega
        rw [pk_uLn e]
        exact (hI i U hU).2 (by omega)
theorem xcw_45 (N : Nat) (hN : 5000 ≤ N) {s : zq_S} {n : Nat} {mu : Nat → Nat} (hV : zGV s n mu) (c : Nat → Int64) (hc : zL s 45 = c) :
    ∃ T', mX4_countWays_a45 N s = some ((), zsL s 45 T') ∧ ∀ S, S < 2 ^ n → zgd mu S n = true → zcR n mu c T' S := by
  have hn := hV.1.1
  have hp := zn_pow hn
  have hlen := zgL_len_le mu n (2 ^ n)
  have h0 : 0 < 2 ^ n := Nat.pow_pos (by decide)
  have hpos : 0 < (zgL mu n (2 ^ n)).length := List.length_pos_of_mem (zgL_mem.mpr ⟨h0, zgd_zero mu n⟩)
  unfold mX4_countWays_a45
  rw [mX3_goodCount_v N hV, zb2_some]
  dsimp only [zq_let]
  have e1 : nI (zgL mu n (2 ^ n)).length - 2 = nI ((zgL mu n (2 ^ n)).length - 1) + (-1) := by
    generalize (zgL mu n (2 ^ n)).length = L at hpos ⊢
    obtain ⟨L, rfl⟩ : ∃ L', L = L' + 1 := ⟨L - 1, by omega⟩
    rw [Nat.add_sub_cancel, nI_succ, Int32.sub_eq_add_neg, Int32.add_assoc]
    rfl
  have e2 : s = zsL s 45 c := by rw [← hc, zsL_same]
  rw [e1]
  have := xcw_45_loop N hN hV c ((zgL mu n (2 ^ n)).length - 1) N c (by omega) (by omega) (fun i S hi => ⟨fun h => ?_, fun _ => rfl⟩)
  · rw [← e2] at this
    exact this
  · have h1 := (List.getElem?_eq_some_iff.mp hi).1
    have h2 : S = 2 ^ n - 1 := zgL_last (zgd_full hV.1.2.2.2) hi (by omega)
    unfold zcR
    rw [if_pos h2]
    split
    · rename_i q; exact q
    · rfl
theorem xwo_1 (N : Nat) (hN : 5000 ≤ N) {s : zq_S} {n : Nat} {mu : Nat → Nat} (hX : zXM s n mu) {S : Nat} (hS : S < 2 ^ n) (hg : zgd mu S n = true) : mX4_waysOn_a1 N (nI S) s = some (zfv n (zed n mu S) S 0 (zL s 1), s) := by
  obtain ⟨hn, hmk, h34, hh⟩ := hX
  have hp := zn_pow hn
  have hx := znx_lt (n := n) mu S n (Nat.le_refl _)
  unfold mX4_waysOn_a1
  rw [mX3_following_eq N hN hn hmk h34 hh (by omega), zb2_some]
  dsimp only
  have e0 : ((0 : Int64), (0 : Int32), s) = (fun j => (zsi 0 (fun m => if zed n mu S m then zL s 1 (S ||| 2 ^ m) else 0) j, nI j, s)) 0 := rfl
  have e10 : zfv n (zed n mu S) S 0 (zL s 1) = zsi 0 (fun m => if zed n mu S m then zL s 1 (S ||| 2 ^ m) else 0) 10 := by
    unfold zfv
    have : ∀ r, n + r ≤ 10 → zsi 0 (fun m => if zed n mu S m then zL s 1 (S ||| 2 ^ m) else 0) (n + r) = zsi 0 (fun m => if zed n mu S m then zL s 1 (S ||| 2 ^ m) else 0) n := by
      intro r
      induction r with
      | zero => intro _; rfl
      | succ r ih =>
        intro hr
        have hz : zed n mu S (n + r) = false := by
          cases q : zed n mu S (n + r) with
          | false => rfl
          | true => have := (zed_lt q).1; omega
        rw [show n + (r + 1) = (n + r) + 1 by omega, zsi, ih (by omega), hz]
        simp
    have h2 := this (10 - n) (by omega)
    rw [show n + (10 - n) = 10 by omega] at h2
    exact h2.symm
  rw [e0, e10]
  refine zq_up 10 (fun j => (zsi 0 (fun m => if zed n mu S m then zL s 1 (S ||| 2 ^ m) else 0) j, nI j, s)) (fun self => rfl) (fun self j hj => ?_) N 0 (by omega) (by omega)
  have hq : (znx mu S n).testBit j = zed n mu S j := by rw [zed, hg, Bool.true_and]
  dsimp only [bX4_waysOn_a1_15, jX4_waysOn_a1_j43, zq_let]
  rw [if_neg (show ¬ (10 : Int32) ≤ nI j from nI_ge hj (by decide)), zn_bit (by omega) (by omega), hq, zn_shl (by omega), zn_or, nI_1]
  cases hz : zed n mu S j with
  | false => simp [zsi, hz]
  | true =>
    have hl := zor_lt hS (zed_lt hz).1
    rw [zck_nI (by omega) (by decide), zgl_nI _ _ (by omega)]
    simp [zsi, hz]
theorem zXM_L1 {s : zq_S} {n : Nat} {mu : Nat → Nat} (h : zXM s n mu) (T : Nat → Int64) : zXM (zsL s 1 T) n mu := h
theorem zGV_L1 {s : zq_S} {n : Nat} {mu : Nat → Nat} (h : zGV s n mu) (T : Nat → Int64) : zGV (zsL s 1 T) n mu := h
theorem xcw_1_loop (N : Nat) (hN : 5000 ≤ N) {s : zq_S} {n : Nat} {mu : Nat → Nat} (hV : zGV s n mu) (c : Nat → Int64) : ∀ (k M : Nat) (T : Nat → Int64), k < (zgL mu n (2 ^ n)).length → k < M →
    (∀ i S, (zgL mu n (2 ^ n))[i]? = some S → (k ≤ i → zcR n mu c T S) ∧ (i < k → T S = c S)) →
    ∃ T', zq_loop (bX4_countWays_a1_10 N) M (nI k + (-1), zsL s 1 T) = some ((), zsL s 1 T') ∧ ∀ S, S < 2 ^ n → zgd mu S n = true → zcR n mu c T' S := by
  have hn := hV.1.1
  have hp := zn_pow hn
  have hlen := zgL_len_le mu n (2 ^ n)
  intro k
  induction k with
  | zero =>
    intro M T hk hM hI
    obtain ⟨M, rfl⟩ : ∃ M', M = M' + 1 := ⟨M - 1, by omega⟩
    refine ⟨T, ?_, fun S h1 h2 => ?_⟩
    · rw [zq_loop_s]
      dsimp only [bX4_countWays_a1_10]
      rw [if_pos (by decide)]
    · obtain ⟨i, hi⟩ := List.getElem?_of_mem (zgL_mem.mpr ⟨h1, h2⟩)
      exact (hI i S hi).1 (Nat.zero_le _)
  | succ k ih =>
    intro M T hk hM hI
    obtain ⟨M, rfl⟩ : ∃ M', M = M' + 1 := ⟨M - 1, by omega⟩
    have hi := List.getElem?_eq_getElem (show k < (zgL mu n (2 ^ n)).length by omega)
    generalize (zgL mu n (2 ^ n))[k] = S at hi
    obtain ⟨hS, hg⟩ := zgL_mem.mp (List.mem_of_getElem? hi)
    have hTS := (hI k S hi).2 (by omega)
    rw [zq_loop_s, pk_m1]
    dsimp only [bX4_countWays_a1_10, jX4_countWays_a1_j40, zq_let]
    rw [if_neg (nI_pos (by omega)), mX3_goodAt_v N (zGV_L1 hV T) hi, zb2_some]
    dsimp only
    have hfull : S ≠ 2 ^ n - 1 := zgL_nlast (zgd_full hV.1.2.2.2) hi (by omega)
    rw [zck_nI (by omega) (by decide), zgl_nI _ _ (by omega), zL_self, hTS]
    by_cases hc : c S = 0
    · rw [if_pos ((lgc_eq _ _).mpr hc)]
      refine ih M T (by omega) (by omega) (fun i U hU => ⟨fun h => ?_, fun h => (hI i U hU).2 (by omega)⟩)
      by_cases e : i = k
      · subst e
        have : U = S := Option.some.inj (hU.symm.trans hi)
        subst this
        unfold zcR
        rw [if_pos hc, hTS, hc]
      · exact (hI i U hU).1 (by omega)
    · rw [if_neg (fun z => hc ((lgc_eq _ _).mp z)), xwo_1 N hN (zXM_L1 hV.1 T) hS hg, zb2_some]
      dsimp only
      rw [zck_nI (by omega) (by decide), zL_self, zpl_nI _ _ (by omega), zL_self, zsL_sL]
      refine ih M _ (by omega) (by omega) (fun i U hU => ⟨fun h => ?_, fun h => ?_⟩)
      · obtain ⟨hU1, hU2⟩ := zgL_mem.mp (List.mem_of_getElem? hU)
        have hle : S ≤ U := zgL_mono hi hU h
        by_cases e : U = S
        · subst e
          unfold zcR
          rw [if_neg hc, if_neg hfull, pk_uLs]
          exact zfv_congr (fun m _ hm => by rw [pk_uLn]; have := zed_gt _ _ hm; omega)
        · have e2 : i ≠ k := fun z => e (by subst z; exact Option.some.inj (hU.symm.trans hi))
          have := (hI i U hU).1 (by omega)
          unfold zcR at this ⊢
          rw [pk_uLn e, this]
          split
          · rfl
          · split
            · rfl
            · exact zfv_congr (fun m _ hm => by rw [pk_uLn]; have := zed_gt _ _ hm; omega)
      · have e : U ≠ S := fun z => by
          have := zgL_inj hU (z ▸ hi)
          omega
        rw [pk_uLn e]
        exact (hI i U hU).2 (by omega)
theorem xcw_1 (N : Nat) (hN : 5000 ≤ N) {s : zq_S} {n : Nat} {mu : Nat → Nat} (hV : zGV s n mu) (c : Nat → Int64) (hc : zL s 1 = c) :
    ∃ T', mX4_countWays_a1 N s = some ((), zsL s 1 T') ∧ ∀ S, S < 2 ^ n → zgd mu S n = true → zcR n mu c T' S := by
  have hn := hV.1.1
  have hp := zn_pow hn
  have hlen := zgL_len_le mu n (2 ^ n)
  have h0 : 0 < 2 ^ n := Nat.pow_pos (by decide)
  have hpos : 0 < (zgL mu n (2 ^ n)).length := List.length_pos_of_mem (zgL_mem.mpr ⟨h0, zgd_zero mu n⟩)
  unfold mX4_countWays_a1
  rw [mX3_goodCount_v N hV, zb2_some]
  dsimp only [zq_let]
  have e1 : nI (zgL mu n (2 ^ n)).length - 2 = nI ((zgL mu n (2 ^ n)).length - 1) + (-1) := by
    generalize (zgL mu n (2 ^ n)).length = L at hpos ⊢
    obtain ⟨L, rfl⟩ : ∃ L', L = L' + 1 := ⟨L - 1, by omega⟩
    rw [Nat.add_sub_cancel, nI_succ, Int32.sub_eq_add_neg, Int32.add_assoc]
    rfl
  have e2 : s = zsL s 1 c := by rw [← hc, zsL_same]
  rw [e1]
  have := xcw_1_loop N hN hV c ((zgL mu n (2 ^ n)).length - 1) N c (by omega) (by omega) (fun i S hi => ⟨fun h => ?_, fun _ => rfl⟩)
  · rw [← e2] at this
    exact this
  · have h1 := (List.getElem?_eq_some_iff.mp hi).1
    have h2 : S = 2 ^ n - 1 := zgL_last (zgd_full hV.1.2.2.2) hi (by omega)
    unfold zcR
    rw [if_pos h2]
    split
    · rename_i q; exact q
    · rfl
