/-! the parser in the middle -/
def pzv (h : List Nat) (p : Nat) : Nat := zval h (zskp h p) (znd h (zskp h p))
def pze (h : List Nat) (p : Nat) : Nat := znd h (zskp h p)
def pzNc (h : List Nat) (p mx : Nat) : Nat := if zfig h (zskp h p) = true then (if 2 < pze h p - zskp h p ∨ mx < pzv h p then 2 else 0) else 1
def pzMc (h : List Nat) (K p : Nat) : Nat := if pzNc h p 9 = 0 then (if K.testBit (pzv h p) = true then 3 else 0) else pzNc h p 9
def pzWc (h : List Nat) (R : List zIt) (p : Nat) : Nat := if pzNc h p 99 = 0 then (if pzwn R = 40 then 4 else 0) else pzNc h p 99
abbrev pzRs : Type := (Nat × Nat) × (zIt × Nat)
def pzFl (c q : Nat) : pzRs := ((c, q), ((0, 0, 0, 0, 0), 0))
def pzcol (h : List Nat) (k v sd q e : Nat) : pzRs := if zgt h (zskp h e) = 58 then ((0, q), ((k, v, 0, sd, q), zskp h e + 1)) else pzFl 1 (zskp h e)
def pzO (h : List Nat) (R : List zIt) (q k : Nat) : pzRs :=
  if (pzstk R).length = 8 then pzFl 5 q else
  if pzMc h (pzmk R) (q + 1) = 0 then
    (if k = 2 ∧ zgt h (zskp h (pze h (q + 1))) = 33 then
      (if pzMc h (pzmk R ||| 2 ^ pzv h (q + 1)) (zskp h (pze h (q + 1)) + 1) = 0 then pzcol h k (pzv h (q + 1)) (pzv h (zskp h (pze h (q + 1)) + 1) + 1) q (pze h (zskp h (pze h (q + 1)) + 1))
       else pzFl (pzMc h (pzmk R ||| 2 ^ pzv h (q + 1)) (zskp h (pze h (q + 1)) + 1)) (zskp h (zskp h (pze h (q + 1)) + 1)))
     else pzcol h k (pzv h (q + 1)) 0 q (pze h (q + 1)))
  else pzFl (pzMc h (pzmk R) (q + 1)) (zskp h (q + 1))
def pzC (R : List zIt) (q k : Nat) : pzRs :=
  if pzstk R ≠ [] ∧ (pzstk R).headD 0 + 1 ≠ R.length ∧ (pzat R ((pzstk R).headD 0)).sg = k then ((0, q), ((k + 3, (pzat R ((pzstk R).headD 0)).mk, 0, 0, q), q + 1)) else pzFl 1 q
def pzA3 (R : List zIt) : Bool := (pzstk R).any (fun q => (pzat R q).sg == 3)
def pzA (h : List Nat) (R : List zIt) (q : Nat) : pzRs :=
  if pzA3 R = true then pzFl 1 q else
  if pzNc h (q + 1) 9 = 0 then (if (pzsr R).testBit (pzv h (q + 1)) = true then pzFl 3 (zskp h (q + 1)) else ((0, q), ((7, pzv h (q + 1), 0, 0, q), pze h (q + 1))))
  else pzFl (pzNc h (q + 1) 9) (zskp h (q + 1))
def pzWd (h : List Nat) (R : List zIt) (k q p : Nat) : pzRs :=
  if pzWc h R p = 0 then ((0, q), ((k, 0, pzv h p, 0, q), pze h p)) else pzFl (pzWc h R p) (zskp h p)
def pzL (h : List Nat) (R : List zIt) (q : Nat) : pzRs :=
  if pzMc h (pzmk R) (q + 1) = 0 then (if pzWc h R (pze h (q + 1)) = 0 then ((0, q), ((9, pzv h (q + 1), pzv h (pze h (q + 1)), 0, q), pze h (pze h (q + 1)))) else pzFl (pzWc h R (pze h (q + 1))) (zskp h (pze h (q + 1))))
  else pzFl (pzMc h (pzmk R) (q + 1)) (zskp h (q + 1))
/-- one item, from its first byte q on -/
def pzS (h : List Nat) (R : List zIt) (q : Nat) : pzRs :=
  if pzph R = 0 then
    (if zgt h q = 123 then pzO h R q 1 else if zgt h q = 91 then pzO h R q 2 else if zgt h q = 60 then pzO h R q 3
     else if zgt h q = 125 then pzC R q 1 else if zgt h q = 93 then pzC R q 2 else if zgt h q = 62 then pzC R q 3
     else if zgt h q = 42 then pzA h R q else if zgt h q = 40 then pzWd h R 8 q (q + 1) else pzWd h R 0 q q)
  else if zgt h q = 47 then pzL h R q
  else if zgt h q = 41 ∧ pzph R = 2 then ((0, q), ((10, 0, 0, 0, q), q + 1)) else pzFl 1 q
def pzgo (h : List Nat) : Nat → List zIt → Nat → Nat × Nat × List zIt
  | 0, R, _ => (0, 0, R)
  | d + 1, R, p =>
    if zskp h p < h.length then (if (pzS h R (zskp h p)).1.1 = 0 then pzgo h d ((pzS h R (zskp h p)).2.1 :: R) (pzS h R (zskp h p)).2.2 else ((pzS h R (zskp h p)).1.1, (pzS h R (zskp h p)).1.2, R))
    else if pzph R = 0 ∧ pzstk R = [] then (0, 0, R) else (1, h.length, R)
def pzG (h : List Nat) (R : List zIt) (p : Nat) : Nat × Nat × List zIt := pzgo h (h.length + 1 - p) R p
-- printing is no longer than what was heard
def pzB (h : List Nat) (l : List Nat) (p : Nat) : Prop := l.length ≤ p ∧ p ≤ h.length ∧ (48 ≤ l.getLastD 0 ∧ l.getLastD 0 ≤ 57 → zfig h p = false)
theorem pzsk (h : List Nat) {p : Nat} (hp : p ≤ h.length) : p ≤ zskp h p ∧ zskp h p ≤ h.length ∧ (∀ i, p ≤ i → i < zskp h p → zgt h i = 32) ∧ ¬ (zskp h p < h.length ∧ zgt h (zskp h p) = 32) := zskp_ok h (h.length - p) p (Nat.le_refl _) hp
theorem pznd (h : List Nat) {p : Nat} (hp : p ≤ h.length) : p ≤ znd h p ∧ znd h p ≤ h.length ∧ (∀ i, p ≤ i → i < znd h p → zfig h i = true) ∧ zfig h (znd h p) = false := znd_ok h (h.length - p) p (Nat.le_refl _) hp
theorem pzsk_id (h : List Nat) {p : Nat} (hp : p ≤ h.length) : zskp h (zskp h p) = zskp h p := zskp_stop (pzsk h hp).2.2.2
theorem pzgt_lt {h : List Nat} {p : Nat} (hb : zgt h p ≠ 0) : p < h.length := by
  apply Classical.byContradiction
  intro z
  exact hb (zgt_out (by omega))
theorem pzLast (l : List Nat) (x : Nat) : (l ++ [x]).getLastD 0 = x := by
  rw [List.getLastD_eq_getLast?, List.getLast?_concat]; rfl
theorem pzB_sgn {h l : List Nat} {p c : Nat} (hb : pzB h l p) (hq : zskp h p < h.length) (hc : c < 48 ∨ 57 < c) : pzB h (l ++ [c]) (zskp h p + 1) := by
  obtain ⟨a, b, d⟩ := hb
  have := (pzsk h b).1
  refine ⟨by rw [List.length_append, List.length_singleton]; omega, by omega, fun y => ?_⟩
  rw [pzLast] at y
  omega
theorem pzN_ok {h : List Nat} {p mx : Nat} (hp : p ≤ h.length) (hc : pzNc h p mx = 0) (hm : mx < 100) : zfig h (zskp h p) = true ∧ pze h p ≤ h.length ∧ zskp h p < pze h p ∧ pze h p - zskp h p ≤ 2 ∧ pzv h p ≤ mx ∧ (10 ≤ pzv h p → pze h p - zskp h p = 2) := by
  unfold pzNc at hc
  by_cases z : zfig h (zskp h p) = true
  · rw [if_pos z] at hc
    by_cases y : 2 < pze h p - zskp h p ∨ mx < pzv h p
    · rw [if_pos y] at hc; cases hc
    · have hq := (pzsk h hp).2.1
      obtain ⟨a, b, c, d⟩ := pznd h hq
      have hl := zfig_lt z
      obtain ⟨a', _⟩ := pznd h (show zskp h p + 1 ≤ h.length by omega)
      have e : pze h p = znd h (zskp h p + 1) := znd_fig z
      refine ⟨z, b, by omega, by omega, by omega, fun w => ?_⟩
      apply Classical.byContradiction
      intro v
      unfold pzv zval at w
      unfold pze at v
      rw [if_neg v] at w
      unfold zfig at z
      rw [decide_eq_true_eq] at z
      omega
  · rw [if_neg z] at hc; cases hc
theorem pzB_num {h l : List Nat} {p mx : Nat} (hb : pzB h l p) (hc : pzNc h p mx = 0) (hm : mx < 100) : pzB h (zpn l (pzv h p)) (pze h p) := by
  obtain ⟨a, b, d⟩ := hb
  obtain ⟨n1, n2, n3, n4, n5, n6⟩ := pzN_ok b hc hm
  have hs := (pzsk h b).1
  have hd : (zdg (pzv h p)).length ≤ pze h p - zskp h p := by
    unfold zdg
    split
    · rw [List.length_singleton]; omega
    · rw [n6 (by omega)]; exact Nat.le_refl 2
  refine ⟨?_, n2, fun _ => (pznd h (pzsk h b).2.1).2.2.2⟩
  unfold zpn
  split
  · rename_i z
    have := d z
    have hne : zskp h p ≠ p := by
      intro e
      rw [e, this] at n1
      cases n1
    rw [List.length_append, List.length_append, List.length_singleton]
    omega
  · rw [List.length_append]
    omega
def pzI (h : List Nat) (R : List zIt) (p : Nat) : Prop :=
  pzV R ∧ pzB h (pzpr R) p ∧ (∀ k, k < R.length → (pzat R k).ps < p) ∧ (∀ j k, j < k → k < R.length → (pzat R j).ps < (pzat R k).ps)
theorem pzI_cons {h : List Nat} {R : List zIt} {p e : Nat} {x : zIt} (hI : pzI h R p) (hx : pzok R x) (hb : pzB h (pzpx (pzpr R) x) e) (hp : x.ps = zskp h p) (he : zskp h p < e) : pzI h (x :: R) e := by
  obtain ⟨a, b, c, d⟩ := hI
  have hs := (pzsk h b.2.1).1
  refine ⟨⟨a, hx⟩, hb, fun k hk => ?_, fun j k hj hk => ?_⟩
  · rw [List.length_cons] at hk
    by_cases z : k < R.length
    · rw [pzat_old x z]; have := c k z; omega
    · rw [show k = R.length by omega, pzat_new]; omega
  · rw [List.length_cons] at hk
    by_cases z : k < R.length
    · rw [pzat_old x z, pzat_old x (by omega)]; exact d j k hj z
    · rw [show k = R.length by omega, pzat_new, pzat_old x (by omega)]; have := c j (by omega); omega
theorem pzM_ok {h : List Nat} {K p : Nat} (hc : pzMc h K p = 0) : pzNc h p 9 = 0 ∧ K.testBit (pzv h p) = false := by
  unfold pzMc at hc
  by_cases z : pzNc h p 9 = 0
  · rw [if_pos z] at hc
    refine ⟨z, ?_⟩
    cases y : K.testBit (pzv h p) with
    | false => rfl
    | true => rw [if_pos y] at hc; cases hc
  · rw [if_neg z] at hc; exact absurd hc z
theorem pzW_ok {h : List Nat} {R : List zIt} {p : Nat} (hV : pzV R) (hc : pzWc h R p = 0) : pzNc h p 99 = 0 ∧ pzwn R < 40 := by
  unfold pzWc at hc
  by_cases z : pzNc h p 99 = 0
  · rw [if_pos z] at hc
    refine ⟨z, ?_⟩
    have := pz_wn hV
    by_cases y : pzwn R = 40
    · rw [if_pos y] at hc; cases hc
    · omega
  · rw [if_neg z] at hc; exact absurd hc z
theorem pz_sgN (k v w d q : Nat) : zIt.sg (k, v, w, d, q) = k ∧ zIt.mk (k, v, w, d, q) = v ∧ zIt.wd (k, v, w, d, q) = w ∧ zIt.sd (k, v, w, d, q) = d ∧ zIt.ps (k, v, w, d, q) = q := ⟨rfl, rfl, rfl, rfl, rfl⟩
theorem pzcol_ok {h : List Nat} {k v sd q e : Nat} (hc : (pzcol h k v sd q e).1.1 = 0) : zgt h (zskp h e) = 58 ∧ pzcol h k v sd q e = ((0, q), ((k, v, 0, sd, q), zskp h e + 1)) := by
  unfold pzcol at hc ⊢
  by_cases z : zgt h (zskp h e) = 58
  · rw [if_pos z]; exact ⟨z, rfl⟩
  · rw [if_neg z] at hc; exact absurd (show (1 : Nat) = 0 from hc) (by decide)
theorem pz_dep {R : List zIt} (h : pzV R) : (pzstk R).length ≤ 8 := by
  induction R with
  | nil => exact Nat.zero_le _
  | cons x R ih =>
    have a := ih h.1
    rcases pz_cases x with y | y | y
    · rw [pzstk_o R y, List.length_cons]; have := (h.2.2.2.1 y).1; omega
    · rw [pzstk_c R y, List.length_tail]; omega
    · rw [pzstk_e R y]; exact a
theorem pzok_o {R : List zIt} {k v sd q : Nat} (h0 : pzph R = 0) (hk : 1 ≤ k ∧ k ≤ 3) (hv : v < 10) (hs : sd ≤ 10) (h2 : k ≠ 2 → sd = 0) (hd : (pzstk R).length < 8) (hf : (pzmk R).testBit v = false) (hf2 : sd ≠ 0 → sd - 1 ≠ v ∧ (pzmk R).testBit (sd - 1) = false) : pzok R (k, v, 0, sd, q) := by
  unfold pzok
  rw [(pz_sgN k v 0 sd q).1, (pz_sgN k v 0 sd q).2.1, (pz_sgN k v 0 sd q).2.2.1, (pz_sgN k v 0 sd q).2.2.2.1]
  exact ⟨⟨by omega, hv, by omega, hs, h2⟩, ⟨fun _ => by omega, fun y => by omega, fun y => by omega⟩, fun _ => ⟨hd, hf, hf2⟩, fun y => by omega, fun y => by omega, fun y => by omega, fun y => by omega⟩
def pzob (k : Nat) : Nat := if k = 1 then 123 else if k = 2 then 91 else 60
theorem pzob_c {k : Nat} (hk : 1 ≤ k ∧ k ≤ 3) : (k = 1 ∧ pzob k = 123) ∨ (k = 2 ∧ pzob k = 91) ∨ (k = 3 ∧ pzob k = 60) := by
  unfold pzob
  by_cases z : k = 1
  · left; exact ⟨z, if_pos z⟩
  · by_cases y : k = 2
    · right; left; exact ⟨y, by rw [if_neg z, if_pos y]⟩
    · right; right; exact ⟨by omega, by rw [if_neg z, if_neg y]⟩
theorem pzpx_o {l : List Nat} {k v q : Nat} (hk : 1 ≤ k ∧ k ≤ 3) : pzpx l (k, v, 0, 0, q) = zpn (l ++ [pzob k]) v ++ [58] := by
  unfold pzpx
  rw [(pz_sgN k v 0 0 q).1, (pz_sgN k v 0 0 q).2.1, (pz_sgN k v 0 0 q).2.2.2.1]
  rcases pzob_c hk with ⟨a, b⟩ | ⟨a, b⟩ | ⟨a, b⟩ <;> rw [b, a] <;> rfl
theorem pzpx_o2 {l : List Nat} {v d q : Nat} : pzpx l (2, v, 0, d + 1, q) = zpn (zpn (l ++ [91]) v ++ [33]) d ++ [58] := rfl
theorem pzO_ok {h : List Nat} {R : List zIt} {p k : Nat} (hI : pzI h R p) (h0 : pzph R = 0) (hk : 1 ≤ k ∧ k ≤ 3) (hg : zgt h (zskp h p) = pzob k) (hc : (pzO h R (zskp h p) k).1.1 = 0) : pzI h ((pzO h R (zskp h p) k).2.1 :: R) (pzO h R (zskp h p) k).2.2 ∧ zskp h p < (pzO h R (zskp h p) k).2.2 := by
  have hob := pzob_c hk
  have hq : zskp h p < h.length := pzgt_lt (by rw [hg]; omega)
  have hB1 := pzB_sgn (c := pzob k) hI.2.1 hq (by omega)
  have hdep := pz_dep hI.1
  unfold pzO at hc ⊢
  by_cases z8 : (pzstk R).length = 8
  · rw [if_pos z8] at hc; exact absurd (show (5 : Nat) = 0 from hc) (by decide)
  · rw [if_neg z8] at hc ⊢
    by_cases zm : pzMc h (pzmk R) (zskp h p + 1) = 0
    · rw [if_pos zm] at hc ⊢
      obtain ⟨m1, m2⟩ := pzM_ok zm
      have B2 := pzB_num hB1 m1 (by decide)
      obtain ⟨_, n2, n3, _, n5, _⟩ := pzN_ok hB1.2.1 m1 (by decide)
      have s1 := (pzsk h hB1.2.1).1
      have s2 := (pzsk h n2).1
      by_cases zb : k = 2 ∧ zgt h (zskp h (pze h (zskp h p + 1))) = 33
      · rw [if_pos zb] at hc ⊢
        by_cases zm2 : pzMc h (pzmk R ||| 2 ^ pzv h (zskp h p + 1)) (zskp h (pze h (zskp h p + 1)) + 1) = 0
        · rw [if_pos zm2] at hc ⊢
          obtain ⟨c1, c2⟩ := pzcol_ok hc
          have B3 := pzB_sgn (c := 33) B2 (pzgt_lt (by rw [zb.2]; decide)) (by decide)
          obtain ⟨m3, m4⟩ := pzM_ok zm2
          have B4 := pzB_num B3 m3 (by decide)
          obtain ⟨_, o2, o3, _, o5, _⟩ := pzN_ok B3.2.1 m3 (by decide)
          have B5 := pzB_sgn (c := 58) B4 (pzgt_lt (by rw [c1]; decide)) (by decide)
          have s3 := (pzsk h B3.2.1).1
          have s4 := (pzsk h o2).1
          have lt : zskp h p < zskp h (pze h (zskp h (pze h (zskp h p + 1)) + 1)) + 1 := by omega
          rw [zt_pow, Bool.or_eq_false_iff, decide_eq_false_iff_not] at m4
          rw [c2, zb.1]
          refine ⟨pzI_cons hI (pzok_o h0 (by omega) (by omega) (by omega) (fun y => absurd rfl y) (by omega) m2 (fun _ => ⟨fun y => m4.2 ?_, m4.1⟩)) ?_ rfl lt, lt⟩
          · rw [Nat.add_sub_cancel] at y; exact y.symm
          · rw [pzpx_o2]
            have e : pzob k = 91 := by omega
            rw [e] at B5
            exact B5
        · rw [if_neg zm2] at hc; exact absurd hc zm2
      · rw [if_neg zb] at hc ⊢
        obtain ⟨c1, c2⟩ := pzcol_ok hc
        have B5 := pzB_sgn (c := 58) B2 (pzgt_lt (by rw [c1]; decide)) (by decide)
        have lt : zskp h p < zskp h (pze h (zskp h p + 1)) + 1 := by omega
        rw [c2]
        refine ⟨pzI_cons hI (pzok_o h0 hk (by omega) (by omega) (fun _ => rfl) (by omega) m2 (fun y => absurd rfl y)) ?_ rfl lt, lt⟩
        rw [pzpx_o hk]
        exact B5
    · rw [if_neg zm] at hc; exact absurd hc zm
theorem pzC_ok {h : List Nat} {R : List zIt} {p k : Nat} (hI : pzI h R p) (h0 : pzph R = 0) (hk : 1 ≤ k ∧ k ≤ 3) (hq : zskp h p < h.length) (hc : (pzC R (zskp h p) k).1.1 = 0) : pzI h ((pzC R (zskp h p) k).2.1 :: R) (pzC R (zskp h p) k).2.2 ∧ zskp h p < (pzC R (zskp h p) k).2.2 := by
  unfold pzC at hc ⊢
  by_cases z : pzstk R ≠ [] ∧ (pzstk R).headD 0 + 1 ≠ R.length ∧ (pzat R ((pzstk R).headD 0)).sg = k
  · rw [if_pos z]
    cases e : pzstk R with
    | nil => exact absurd e z.1
    | cons q l =>
      rw [e] at z
      have hqm := pzstk_mem hI.1 (show q ∈ pzstk R by rw [e]; exact List.mem_cons_self)
      have e1 : (q :: l).headD 0 = q := rfl
      rw [e1] at z ⊢
      refine ⟨pzI_cons hI ?_ ?_ rfl (Nat.lt_succ_self _), Nat.lt_succ_self _⟩
      · unfold pzok
        rw [(pz_sgN (k + 3) (pzat R q).mk 0 0 (zskp h p)).1, (pz_sgN (k + 3) (pzat R q).mk 0 0 (zskp h p)).2.1, (pz_sgN (k + 3) (pzat R q).mk 0 0 (zskp h p)).2.2.1, (pz_sgN (k + 3) (pzat R q).mk 0 0 (zskp h p)).2.2.2.1]
        exact ⟨⟨by omega, (pzV_at hI.1 hqm.1).1.2.1, by omega, by omega, fun _ => rfl⟩, ⟨fun _ => by omega, fun y => by omega, fun y => by omega⟩, fun y => by omega, fun _ => ⟨q, l, e, by omega, rfl, by omega⟩, fun y => by omega, fun y => by omega, fun y => by omega⟩
      · have B := fun c hcc => pzB_sgn (c := c) hI.2.1 hq hcc
        unfold pzpx
        rw [(pz_sgN (k + 3) (pzat R q).mk 0 0 (zskp h p)).1]
        rw [if_neg (by omega), if_neg (by omega), if_neg (by omega), if_neg (by omega)]
        by_cases k1 : k + 3 = 4
        · rw [if_pos k1]; exact B _ (by decide)
        · rw [if_neg k1]
          by_cases k2 : k + 3 = 5
          · rw [if_pos k2]; exact B _ (by decide)
          · rw [if_neg k2, if_pos (by omega)]; exact B _ (by decide)
  · rw [if_neg z] at hc; exact absurd (show (1 : Nat) = 0 from hc) (by decide)
theorem pzA3_f {R : List zIt} (h : pzA3 R = false) : ∀ q, q ∈ pzstk R → (pzat R q).sg ≠ 3 := by
  intro q hq e
  have : pzA3 R = true := List.any_eq_true.2 ⟨q, hq, by rw [e]; rfl⟩
  rw [h] at this
  cases this
theorem pzA_ok {h : List Nat} {R : List zIt} {p : Nat} (hI : pzI h R p) (h0 : pzph R = 0) (hq : zskp h p < h.length) (hc : (pzA h R (zskp h p)).1.1 = 0) : pzI h ((pzA h R (zskp h p)).2.1 :: R) (pzA h R (zskp h p)).2.2 ∧ zskp h p < (pzA h R (zskp h p)).2.2 := by
  have hB1 := pzB_sgn (c := 42) hI.2.1 hq (by decide)
  unfold pzA at hc ⊢
  cases z3 : pzA3 R with
  | true => rw [if_pos z3] at hc; exact absurd (show (1 : Nat) = 0 from hc) (by decide)
  | false =>
    rw [if_neg (by rw [z3]; decide)] at hc
    rw [if_neg (by decide)]
    by_cases zm : pzNc h (zskp h p + 1) 9 = 0
    · rw [if_pos zm] at hc ⊢
      cases zb : (pzsr R).testBit (pzv h (zskp h p + 1)) with
      | true => rw [if_pos zb] at hc; exact absurd (show (3 : Nat) = 0 from hc) (by decide)
      | false =>
        rw [if_neg (by decide)]
        obtain ⟨_, n2, n3, _, n5, _⟩ := pzN_ok hB1.2.1 zm (by decide)
        have s1 := (pzsk h hB1.2.1).1
        have lt : zskp h p < pze h (zskp h p + 1) := by omega
        refine ⟨pzI_cons hI ?_ (pzB_num hB1 zm (by decide)) rfl lt, lt⟩
        unfold pzok
        rw [(pz_sgN 7 (pzv h (zskp h p + 1)) 0 0 (zskp h p)).1, (pz_sgN 7 (pzv h (zskp h p + 1)) 0 0 (zskp h p)).2.1, (pz_sgN 7 (pzv h (zskp h p + 1)) 0 0 (zskp h p)).2.2.1, (pz_sgN 7 (pzv h (zskp h p + 1)) 0 0 (zskp h p)).2.2.2.1]
        exact ⟨⟨by omega, by omega, by omega, by omega, fun _ => rfl⟩, ⟨fun _ => by omega, fun y => by omega, fun y => by omega⟩, fun y => by omega, fun y => by omega, fun _ => ⟨pzA3_f z3, zb⟩, fun y => by omega, fun y => by omega⟩
    · rw [if_neg zm] at hc; exact absurd hc zm
theorem pzok_w {R : List zIt} {k v q : Nat} (h0 : pzph R = 0) (hk : k = 0 ∨ k = 8) (hv : v < 100) (hw : pzwn R < 40) : pzok R (k, 0, v, 0, q) := by
  unfold pzok
  rw [(pz_sgN k 0 v 0 q).1, (pz_sgN k 0 v 0 q).2.1, (pz_sgN k 0 v 0 q).2.2.1, (pz_sgN k 0 v 0 q).2.2.2.1]
  exact ⟨⟨by omega, by omega, hv, by omega, fun _ => rfl⟩, ⟨fun _ => by omega, fun y => by omega, fun y => by omega⟩, fun y => by omega, fun y => by omega, fun y => by omega, fun y => by omega, fun _ => hw⟩
theorem pzWd8_ok {h : List Nat} {R : List zIt} {p : Nat} (hI : pzI h R p) (h0 : pzph R = 0) (hq : zskp h p < h.length) (hc : (pzWd h R 8 (zskp h p) (zskp h p + 1)).1.1 = 0) : pzI h ((pzWd h R 8 (zskp h p) (zskp h p + 1)).2.1 :: R) (pzWd h R 8 (zskp h p) (zskp h p + 1)).2.2 ∧ zskp h p < (pzWd h R 8 (zskp h p) (zskp h p + 1)).2.2 := by
  have hB1 := pzB_sgn (c := 40) hI.2.1 hq (by decide)
  unfold pzWd at hc ⊢
  by_cases z : pzWc h R (zskp h p + 1) = 0
  · rw [if_pos z]
    obtain ⟨m1, m2⟩ := pzW_ok hI.1 z
    obtain ⟨_, n2, n3, _, n5, _⟩ := pzN_ok hB1.2.1 m1 (by decide)
    have s1 := (pzsk h hB1.2.1).1
    have lt : zskp h p < pze h (zskp h p + 1) := by omega
    exact ⟨pzI_cons hI (pzok_w h0 (Or.inr rfl) (by omega) m2) (pzB_num hB1 m1 (by decide)) rfl lt, lt⟩
  · rw [if_neg z] at hc; exact absurd hc z
theorem pzWd0_ok {h : List Nat} {R : List zIt} {p : Nat} (hI : pzI h R p) (h0 : pzph R = 0) (hc : (pzWd h R 0 (zskp h p) (zskp h p)).1.1 = 0) : pzI h ((pzWd h R 0 (zskp h p) (zskp h p)).2.1 :: R) (pzWd h R 0 (zskp h p) (zskp h p)).2.2 ∧ zskp h p < (pzWd h R 0 (zskp h p) (zskp h p)).2.2 := by
  unfold pzWd at hc ⊢
  have e := pzsk_id h hI.2.1.2.1
  have ev : pzv h (zskp h p) = pzv h p := by unfold pzv; rw [e]
  have ee : pze h (zskp h p) = pze h p := by unfold pze; rw [e]
  by_cases z : pzWc h R (zskp h p) = 0
  · rw [if_pos z, ev, ee]
    obtain ⟨m1, m2⟩ := pzW_ok hI.1 z
    have m1' : pzNc h p 99 = 0 := by
      unfold pzNc at m1 ⊢
      rw [e, ev, ee] at m1
      exact m1
    obtain ⟨_, n2, n3, _, n5, _⟩ := pzN_ok hI.2.1.2.1 m1' (by decide)
    exact ⟨pzI_cons hI (pzok_w h0 (Or.inl rfl) (by omega) m2) (pzB_num hI.2.1 m1' (by decide)) rfl n3, n3⟩
  · rw [if_neg z] at hc; exact absurd hc z
theorem pzL_ok {h : List Nat} {R : List zIt} {p : Nat} (hI : pzI h R p) (h0 : pzph R ≠ 0) (hq : zskp h p < h.length) (hc : (pzL h R (zskp h p)).1.1 = 0) : pzI h ((pzL h R (zskp h p)).2.1 :: R) (pzL h R (zskp h p)).2.2 ∧ zskp h p < (pzL h R (zskp h p)).2.2 := by
  have hB1 := pzB_sgn (c := 47) hI.2.1 hq (by decide)
  unfold pzL at hc ⊢
  by_cases zm : pzMc h (pzmk R) (zskp h p + 1) = 0
  · rw [if_pos zm] at hc ⊢
    obtain ⟨m1, m2⟩ := pzM_ok zm
    have B2 := pzB_num hB1 m1 (by decide)
    obtain ⟨_, n2, n3, _, n5, _⟩ := pzN_ok hB1.2.1 m1 (by decide)
    have s1 := (pzsk h hB1.2.1).1
    by_cases z : pzWc h R (pze h (zskp h p + 1)) = 0
    · rw [if_pos z]
      obtain ⟨o1, o2⟩ := pzW_ok hI.1 z
      obtain ⟨_, q2, q3, _, q5, _⟩ := pzN_ok n2 o1 (by decide)
      have s2 := (pzsk h n2).1
      have lt : zskp h p < pze h (pze h (zskp h p + 1)) := by omega
      refine ⟨pzI_cons hI ?_ (pzB_num B2 o1 (by decide)) rfl lt, lt⟩
      unfold pzok
      rw [(pz_sgN 9 (pzv h (zskp h p + 1)) (pzv h (pze h (zskp h p + 1))) 0 (zskp h p)).1, (pz_sgN 9 (pzv h (zskp h p + 1)) (pzv h (pze h (zskp h p + 1))) 0 (zskp h p)).2.1, (pz_sgN 9 (pzv h (zskp h p + 1)) (pzv h (pze h (zskp h p + 1))) 0 (zskp h p)).2.2.1, (pz_sgN 9 (pzv h (zskp h p + 1)) (pzv h (pze h (zskp h p + 1))) 0 (zskp h p)).2.2.2.1]
      exact ⟨⟨by omega, by omega, by omega, by omega, fun _ => rfl⟩, ⟨fun y => absurd y h0, fun _ => rfl, fun _ => Or.inl rfl⟩, fun y => by omega, fun y => by omega, fun y => by omega, fun _ => m2, fun _ => o2⟩
    · rw [if_neg z] at hc; exact absurd hc z
  · rw [if_neg zm] at hc; exact absurd hc zm
/-- an item that is read keeps all in order, and goes on -/
theorem pzS_ok {h : List Nat} {R : List zIt} {p : Nat} (hI : pzI h R p) (hq : zskp h p < h.length) (hc : (pzS h R (zskp h p)).1.1 = 0) : pzI h ((pzS h R (zskp h p)).2.1 :: R) (pzS h R (zskp h p)).2.2 ∧ zskp h p < (pzS h R (zskp h p)).2.2 := by
  unfold pzS at hc ⊢
  by_cases h0 : pzph R = 0
  · rw [if_pos h0] at hc ⊢
    by_cases z1 : zgt h (zskp h p) = 123
    · rw [if_pos z1] at hc ⊢; exact pzO_ok hI h0 (by decide) z1 hc
    rw [if_neg z1] at hc ⊢
    by_cases z2 : zgt h (zskp h p) = 91
    · rw [if_pos z2] at hc ⊢; exact pzO_ok hI h0 (by decide) z2 hc
    rw [if_neg z2] at hc ⊢
    by_cases z3 : zgt h (zskp h p) = 60
    · rw [if_pos z3] at hc ⊢; exact pzO_ok hI h0 (by decide) z3 hc
    rw [if_neg z3] at hc ⊢
    by_cases z4 : zgt h (zskp h p) = 125
    · rw [if_pos z4] at hc ⊢; exact pzC_ok hI h0 (by decide) hq hc
    rw [if_neg z4] at hc ⊢
    by_cases z5 : zgt h (zskp h p) = 93
    · rw [if_pos z5] at hc ⊢; exact pzC_ok hI h0 (by decide) hq hc
    rw [if_neg z5] at hc ⊢
    by_cases z6 : zgt h (zskp h p) = 62
    · rw [if_pos z6] at hc ⊢; exact pzC_ok hI h0 (by decide) hq hc
    rw [if_neg z6] at hc ⊢
    by_cases z7 : zgt h (zskp h p) = 42
    · rw [if_pos z7] at hc ⊢; exact pzA_ok hI h0 hq hc
    rw [if_neg z7] at hc ⊢
    by_cases z8 : zgt h (zskp h p) = 40
    · rw [if_pos z8] at hc ⊢; exact pzWd8_ok hI h0 hq hc
    rw [if_neg z8] at hc ⊢
    exact pzWd0_ok hI h0 hc
  · rw [if_neg h0] at hc ⊢
    by_cases z1 : zgt h (zskp h p) = 47
    · rw [if_pos z1] at hc ⊢; exact pzL_ok hI h0 hq hc
    rw [if_neg z1] at hc ⊢
    by_cases z2 : zgt h (zskp h p) = 41 ∧ pzph R = 2
    · rw [if_pos z2]
      refine ⟨pzI_cons hI ?_ (pzB_sgn (c := 41) hI.2.1 hq (by decide)) rfl (Nat.lt_succ_self _), Nat.lt_succ_self _⟩
      have h2 := z2.2
      unfold pzok
      rw [(pz_sgN 10 0 0 0 (zskp h p)).1, (pz_sgN 10 0 0 0 (zskp h p)).2.1, (pz_sgN 10 0 0 0 (zskp h p)).2.2.1, (pz_sgN 10 0 0 0 (zskp h p)).2.2.2.1]
      exact ⟨⟨by omega, by omega, by omega, by omega, fun _ => rfl⟩, ⟨fun y => by omega, fun y => by omega, fun _ => Or.inr rfl⟩, fun y => by omega, fun y => by omega, fun y => by omega, fun y => by omega, fun y => by omega⟩
    · rw [if_neg z2] at hc; exact absurd (show (1 : Nat) = 0 from hc) (by decide)
theorem pzgo_fuel (h : List Nat) : ∀ d d' R p, pzI h R p → h.length - p < d → h.length - p < d' → pzgo h d R p = pzgo h d' R p := by
  intro d
  induction d with
  | zero => intro d' R p _ h1; omega
  | succ d ih =>
    intro d' R p hI h1 h2
    obtain ⟨d', rfl⟩ : ∃ c, d' = c + 1 := ⟨d' - 1, by omega⟩
    rw [pzgo, pzgo]
    by_cases z : zskp h p < h.length
    · rw [if_pos z, if_pos z]
      by_cases y : (pzS h R (zskp h p)).1.1 = 0
      · rw [if_pos y, if_pos y]
        obtain ⟨a, b⟩ := pzS_ok hI z y
        have := (pzsk h hI.2.1.2.1).1
        exact ih d' _ _ a (by omega) (by omega)
      · rw [if_neg y, if_neg y]
    · rw [if_neg z, if_neg z]
theorem pzG_end {h : List Nat} {R : List zIt} {p : Nat} (hI : pzI h R p) (hq : ¬ zskp h p < h.length) : pzG h R p = if pzph R = 0 ∧ pzstk R = [] then (0, 0, R) else (1, h.length, R) := by
  unfold pzG
  have := hI.2.1.2.1
  obtain ⟨d, hd⟩ : ∃ c, h.length + 1 - p = c + 1 := ⟨h.length - p, by omega⟩
  rw [hd, pzgo, if_neg hq]
theorem pzG_bad {h : List Nat} {R : List zIt} {p : Nat} (hI : pzI h R p) (hq : zskp h p < h.length) (hc : (pzS h R (zskp h p)).1.1 ≠ 0) : pzG h R p = ((pzS h R (zskp h p)).1.1, (pzS h R (zskp h p)).1.2, R) := by
  unfold pzG
  have := hI.2.1.2.1
  obtain ⟨d, hd⟩ : ∃ c, h.length + 1 - p = c + 1 := ⟨h.length - p, by omega⟩
  rw [hd, pzgo, if_pos hq, if_neg hc]
theorem pzG_next {h : List Nat} {R : List zIt} {p : Nat} (hI : pzI h R p) (hq : zskp h p < h.length) (hc : (pzS h R (zskp h p)).1.1 = 0) : pzG h R p = pzG h ((pzS h R (zskp h p)).2.1 :: R) (pzS h R (zskp h p)).2.2 := by
  obtain ⟨a, b⟩ := pzS_ok hI hq hc
  have s := (pzsk h hI.2.1.2.1).1
  have e : pzG h R p = pzgo h (h.length - p) ((pzS h R (zskp h p)).2.1 :: R) (pzS h R (zskp h p)).2.2 := by
    unfold pzG
    have := hI.2.1.2.1
    obtain ⟨d, hd⟩ : ∃ c, h.length + 1 - p = c + 1 := ⟨h.length - p, by omega⟩
    rw [hd, pzgo, if_pos hq, if_pos hc, show h.length - p = d by omega]
  rw [e]
  have := a.2.1.2.1
  exact pzgo_fuel h _ _ _ _ a (by omega) (by omega)
