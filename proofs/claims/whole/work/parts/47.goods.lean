/-! the good sets in a row: the class's cache, the reference's count -/
def zgL (mu : Nat → Nat) (n : Nat) (k : Nat) : List Nat := (List.range k).filter (fun S => zgd mu S n)
theorem zgL_s (mu : Nat → Nat) (n k : Nat) : zgL mu n (k + 1) = zgL mu n k ++ (if zgd mu k n then [k] else []) := by
  unfold zgL
  rw [List.range_succ, List.filter_append]
  congr 1
  cases h : zgd mu k n <;> simp [h]
theorem zgL_len_le (mu : Nat → Nat) (n k : Nat) : (zgL mu n k).length ≤ k := by
  have := List.length_filter_le (fun S => zgd mu S n) (List.range k)
  rw [List.length_range] at this
  exact this
theorem zgL_mem {mu : Nat → Nat} {n k S : Nat} : S ∈ zgL mu n k ↔ S < k ∧ zgd mu S n = true := by
  unfold zgL
  rw [List.mem_filter, List.mem_range]
/-- a row that holds a list -/
def zli (l : List Nat) (o : Nat → Int32) : Nat → Int32 := fun i => match l[i]? with
  | some x => nI x
  | none => o i
theorem zli_nil (o : Nat → Int32) : zli [] o = o := by funext i; simp [zli]
theorem zli_push (l : List Nat) (o : Nat → Int32) (x : Nat) : upd (zli l o) l.length (nI x) = zli (l ++ [x]) o := by
  funext i
  unfold upd zli
  by_cases e : i = l.length
  · subst e; simp
  · rw [if_neg e]
    by_cases h : i < l.length
    · rw [List.getElem?_append_left h]
    · rw [List.getElem?_eq_none (by omega), List.getElem?_eq_none (by simp; omega)]
theorem zli_get {l : List Nat} (o : Nat → Int32) {i x : Nat} (h : l[i]? = some x) : zli l o i = nI x := by simp [zli, h]
def zG3 (s : zq_S) (f : Nat → Int32) (c : Int32) : zq_S := zpf (zpf (zsA s 37 f) 31 9 (zgf s 31 8)) 31 7 c
section zG3s
variable (s : zq_S) (f g : Nat → Int32) (c d : Int32)
theorem zG3_b (i : Nat) : zgb (zG3 s f c) i = zgb s i := rfl
theorem zG3_L (k : Nat) : zL (zG3 s f c) k = zL s k := rfl
theorem zG3_37 : zA (zG3 s f c) 37 = f := rfl
theorem zG3_A {k : Nat} (h : k ≠ 37) : zA (zG3 s f c) k = zA s k := by
  show zA (zsA s 37 f) k = _
  rw [zA_ne _ h]
theorem zG3_7 : zgf (zG3 s f c) 31 7 = c := rfl
theorem zG3_9 : zgf (zG3 s f c) 31 9 = zgf s 31 8 := rfl
theorem zG3_f {k j : Nat} (h : k ≠ 31 ∨ (j ≠ 7 ∧ j ≠ 9)) : zgf (zG3 s f c) k j = zgf s k j := by
  unfold zG3
  rw [zgf_pf, if_neg (by omega), zgf_pf, if_neg (by omega), zgf_sA]
theorem zG3_s37 : zsA (zG3 s f c) 37 g = zG3 s g c := by
  refine zs_ext (fun _ _ => rfl) (fun _ => rfl) (fun k => ?_) (fun _ => rfl)
  rw [zA_sA]
  by_cases q : k = 37
  · rw [if_pos q, q]; rfl
  · rw [if_neg q, zG3_A _ _ _ q, zG3_A _ _ _ q]
theorem zG3_p7 : zpf (zG3 s f c) 31 7 d = zG3 s f d := zpf_pf _ _ _ _ _
end zG3s
/-- the class's row of good sets holds for mu -/
def zGD (s : zq_S) (n : Nat) (mu : Nat → Nat) : Prop := zgf s 31 7 = nI (zgL mu n (2 ^ n)).length ∧ ∃ o, zA s 37 = zli (zgL mu n (2 ^ n)) o
/-- what the class's Must holds: marks n, closure mu, told by the sheet that pointer 3 names -/
def zXM (s : zq_S) (n : Nat) (mu : Nat → Nat) : Prop := n ≤ 10 ∧ zgf s (zs (zgb s 3)) 7 = nI n ∧ (∀ m, m < n → zA s 34 m = nI (mu m)) ∧ (∀ m, m < n → mu m < 2 ^ n)
theorem zXM_G3 {s : zq_S} {n : Nat} {mu : Nat → Nat} (h : zXM s n mu) (f : Nat → Int32) (c : Int32) : zXM (zG3 s f c) n mu := by
  obtain ⟨h1, h2, h3, h4⟩ := h
  have hz := zs_or (zgb s 3)
  refine ⟨h1, ?_, fun m hm => ?_, h4⟩
  · rw [zG3_b, zG3_f _ _ _ (by omega)]; exact h2
  · rw [zG3_A _ _ _ (by decide)]; exact h3 m hm
theorem xgc_26 (N : Nat) (hN : 5000 ≤ N) {s : zq_S} {n : Nat} {mu : Nat → Nat} (hX : zXM s n mu) (k75 : zq_S → Option (Int32 × zq_S)) (o : Nat → Int32) :
    zq_loop (bX3_goodCount_26 N k75) N (0, zG3 s o 0) = k75 (zG3 s (zli (zgL mu n (2 ^ n)) o) (nI (zgL mu n (2 ^ n)).length)) := by
  obtain ⟨hn, hmk, h34, hh⟩ := hX
  have hp := zn_pow hn
  have h0 : 0 < 2 ^ n := Nat.pow_pos (by decide)
  have hz := zs_or (zgb s 3)
  have e0 : (0, zG3 s o 0) = (fun j => (nI j, zG3 s (zli (zgL mu n j) o) (nI (zgL mu n j).length))) 0 := by
    show _ = (nI 0, zG3 s (zli [] o) (nI 0))
    rw [zli_nil]; rfl
  have hmk2 : ∀ f c, zgf (zG3 s f c) (zs (zgb (zG3 s f c) 3)) 7 = nI n := fun f c => by rw [zG3_b, zG3_f _ _ _ (by omega)]; exact hmk
  rw [e0]
  refine zq_up (2 ^ n) (fun j => (nI j, zG3 s (zli (zgL mu n j) o) (nI (zgL mu n j).length))) (fun self => ?_) (fun self j hj => ?_) N 0 (by omega) (by omega)
  · dsimp only [bX3_goodCount_26]
    rw [mX3_full_eq N hn (hmk2 _ _), zb2_some]
    dsimp only
    rw [if_pos (nI_lt (by omega) (by omega))]
  · have hl := zgL_len_le mu n j
    dsimp only [bX3_goodCount_26, zq_let, jX3_goodCount_j69]
    rw [mX3_full_eq N hn (hmk2 _ _), zb2_some]
    dsimp only
    rw [if_neg (nI_nlt (by omega) (by omega)), if_neg (show ¬ (1024 : Int32) ≤ nI j from nI_ge (a := j) (b := 1024) (by omega) (by decide)), mX3_isGood_eq N hN hn (hmk2 _ _) (fun m hm => by rw [zG3_A _ _ _ (by decide)]; exact h34 m hm) hh (by omega), zb2_some]
    simp (disch := omega) only [zG3_7, zck_nI, zpa_nI, zG3_37, zG3_s37, zli_push, zG3_p7, nI_1, zgL_s]
    cases zgd mu j n with
    | false => simp
    | true => simp
/-- after goodCount the row holds; nothing else has changed -/
theorem mX3_goodCount_eq (N : Nat) (hN : 5000 ≤ N) {s : zq_S} {n : Nat} {mu : Nat → Nat} (hX : zXM s n mu) (hc : zgf s 31 9 = zgf s 31 8 → zGD s n mu) :
    ∃ o, mX3_goodCount N s = some (nI (zgL mu n (2 ^ n)).length, zG3 s (zli (zgL mu n (2 ^ n)) o) (nI (zgL mu n (2 ^ n)).length)) := by
  unfold mX3_goodCount jX3_goodCount_j75
  by_cases h : zgf s 31 9 = zgf s 31 8
  · obtain ⟨h1, o, h2⟩ := hc h
    refine ⟨o, ?_⟩
    rw [if_pos h, h1]
    congr 2
    unfold zG3
    rw [← h2, zsA_same, ← h, zpf_same, ← h1, zpf_same]
  · refine ⟨zA s 37, ?_⟩
    rw [if_neg h]
    dsimp only [zq_let]
    have e : zpf (zpf s 31 9 (zgf s 31 8)) 31 7 0 = zG3 s (zA s 37) 0 := by unfold zG3; rw [zsA_same]
    rw [e, xgc_26 N hN hX, zG3_7]
/-- where the row is up to date -/
def zGV (s : zq_S) (n : Nat) (mu : Nat → Nat) : Prop := zXM s n mu ∧ zgf s 31 9 = zgf s 31 8 ∧ zGD s n mu
theorem zGV_G3 {s : zq_S} {n : Nat} {mu : Nat → Nat} (h : zXM s n mu) (o : Nat → Int32) : zGV (zG3 s (zli (zgL mu n (2 ^ n)) o) (nI (zgL mu n (2 ^ n)).length)) n mu := by
  refine ⟨zXM_G3 h _ _, ?_, rfl, o, rfl⟩
  rw [zG3_9, zG3_f _ _ _ (by omega)]
theorem mX3_goodCount_v (N : Nat) {s : zq_S} {n : Nat} {mu : Nat → Nat} (h : zGV s n mu) : mX3_goodCount N s = some (nI (zgL mu n (2 ^ n)).length, s) := by
  unfold mX3_goodCount jX3_goodCount_j75
  rw [if_pos h.2.1, h.2.2.1]
theorem mX3_goodAt_v (N : Nat) {s : zq_S} {n : Nat} {mu : Nat → Nat} (h : zGV s n mu) {i S : Nat} (hi : (zgL mu n (2 ^ n))[i]? = some S) : mX3_goodAt N (nI i) s = some (nI S, s) := by
  have hl := zgL_len_le mu n (2 ^ n)
  have hp := zn_pow h.1.1
  have h1 := (List.getElem?_eq_some_iff.mp hi).1
  obtain ⟨-, o, ho⟩ := h.2.2
  unfold mX3_goodAt jX3_goodAt_j22
  rw [if_neg (nI_pos (by omega)), mX3_goodCount_v N h, zb2_some]
  dsimp only
  rw [if_pos (nI_lt h1 (by omega)), zck_nI (by omega) (by decide), zga_nI _ _ (by omega), ho, zli_get o hi]
/-- a public answer: the i-th of a row, how many for -1 -/
def zat (l : List Nat) (i : Int32) : Int32 := if i = -1 then nI l.length else if i < 0 then -1 else match l[i.toNatClampNeg]? with
  | some x => nI x
  | none => -1
theorem mX3_goodAt_eq (N : Nat) (hN : 5000 ≤ N) {s : zq_S} {n : Nat} {mu : Nat → Nat} (hX : zXM s n mu) (hc : zgf s 31 9 = zgf s 31 8 → zGD s n mu) (i : Int32) (hi : i ≠ -1) :
    ∃ s', mX3_goodAt N i s = some (zat (zgL mu n (2 ^ n)) i, s') ∧ (s' = s ∨ ∃ o, s' = zG3 s (zli (zgL mu n (2 ^ n)) o) (nI (zgL mu n (2 ^ n)).length)) := by
  have hl := zgL_len_le mu n (2 ^ n)
  have hp := zn_pow hX.1
  unfold mX3_goodAt jX3_goodAt_j12 jX3_goodAt_j22 zat
  rw [if_neg hi]
  by_cases h1 : i < 0
  · refine ⟨s, ?_, Or.inl rfl⟩
    rw [if_pos h1, if_pos h1]
  · obtain ⟨j, hj, rfl⟩ := nI_of h1
    obtain ⟨o, ho⟩ := mX3_goodCount_eq N hN hX hc
    refine ⟨_, ?_, Or.inr ⟨o, rfl⟩⟩
    rw [if_neg h1, if_neg h1, ho, zb2_some, nI_clamp hj]
    dsimp only
    by_cases h2 : j < (zgL mu n (2 ^ n)).length
    · have e := List.getElem?_eq_getElem h2
      rw [if_pos (nI_lt h2 (by omega)), zck_nI (by omega) (by decide), zga_nI _ _ hj, zG3_37, zli_get o e, e]
    · rw [if_neg (nI_nlt (by omega) hj), List.getElem?_eq_none (by omega)]
theorem mX12_good_loop (N : Nat) (hN : 5000 ≤ N) {s : zq_S} {n : Nat} {mu : Nat → Nat} (hn : n ≤ 10) (hmk : zgf s 57 6 = nI n) (h78 : ∀ S, S < 2 ^ n → zA s 78 S = zib (zgd mu S n)) (i : Int32) :
    zq_loop (bX12_good_8 N i) N (0, 0, s) = some (zat (zgL mu n (2 ^ n)) i, s) := by
  have hp := zn_pow hn
  have h0 : 0 < 2 ^ n := Nat.pow_pos (by decide)
  have key : ∀ (d j M : Nat), j + d = 2 ^ n → d < M → (∀ q, i = nI q → q < 2 ^ 31 → (zgL mu n j).length ≤ q) → zq_loop (bX12_good_8 N i) M (nI (zgL mu n j).length, nI j, s) = some (zat (zgL mu n (2 ^ n)) i, s) := by
    intro d
    induction d with
    | zero =>
      intro j M hj hM hq
      obtain ⟨M, rfl⟩ : ∃ M', M = M' + 1 := ⟨M - 1, by omega⟩
      have hj : j = 2 ^ n := by omega
      subst hj
      rw [zq_loop_s]
      dsimp only [bX12_good_8, zq_let]
      rw [mX12_all_eq N hmk hn, zb2_some]
      dsimp only
      rw [if_pos (nI_lt (by omega) (by omega))]
      unfold zat
      by_cases h1 : i = -1
      · rw [if_pos h1, if_pos h1]
      · rw [if_neg h1, if_neg h1]
        by_cases h2 : i < 0
        · rw [if_pos h2]
        · obtain ⟨q, hq1, rfl⟩ := nI_of h2
          rw [if_neg h2, nI_clamp hq1, List.getElem?_eq_none (hq q rfl hq1)]
    | succ d ih =>
      intro j M hj hM hq
      obtain ⟨M, rfl⟩ : ∃ M', M = M' + 1 := ⟨M - 1, by omega⟩
      have hl := zgL_len_le mu n j
      rw [zq_loop_s]
      dsimp only [bX12_good_8, zq_let, jX12_good_j35]
      rw [mX12_all_eq N hmk hn, zb2_some]
      dsimp only
      rw [if_neg (nI_nlt (by omega) (by omega)), zck_nI (by omega) (by decide), zga_nI _ _ (by omega), h78 j (by omega), nI_1, nI_1]
      have ih2 := ih (j + 1) M (by omega) (by omega)
      rw [zgL_s] at ih2
      cases hg : zgd mu j n with
      | false =>
        rw [hg] at ih2
        simp only [zib] at ih2 ⊢
        simp at ih2 ⊢
        exact ih2 hq
      | true =>
        rw [hg] at ih2
        simp only [zib, if_true, List.length_append, List.length_singleton] at ih2 ⊢
        rw [if_neg (by decide)]
        by_cases h1 : nI (zgL mu n j).length = i
        · rw [if_pos h1]
          have h2 : (zgL mu n (2 ^ n))[(zgL mu n j).length]? = some j := by
            have : ∀ r, j + 1 + r ≤ 2 ^ n → (zgL mu n (j + 1 + r))[(zgL mu n j).length]? = some j := by
              intro r
              induction r with
              | zero => intro _; rw [Nat.add_zero, zgL_s, hg]; simp
              | succ r ihr =>
                intro hr
                have h3 := ihr (by omega)
                rw [show j + 1 + (r + 1) = (j + 1 + r) + 1 by omega, zgL_s, List.getElem?_append_left (List.getElem?_eq_some_iff.mp h3).1]
                exact h3
            have h3 := this (2 ^ n - (j + 1)) (by omega)
            rw [show j + 1 + (2 ^ n - (j + 1)) = 2 ^ n by omega] at h3
            exact h3
          unfold zat
          rw [← h1, if_neg (fun z => by have := congrArg Int32.toInt z; rw [nI_toInt (by omega)] at this; have e : (-1 : Int32).toInt = -1 := rfl; omega), if_neg (nI_pos (by omega)), nI_clamp (by omega), h2]
        · rw [if_neg h1]
          refine ih2 (fun q hq1 hq2 => ?_)
          have h3 := hq q hq1 hq2
          have h4 : (zgL mu n j).length ≠ q := fun z => h1 (by rw [z, hq1])
          omega
  exact key (2 ^ n) 0 N (by omega) (by omega) (fun q _ _ => Nat.zero_le _)
