/-! the class: the whole text -/
section
variable {N : Nat} {h : List Nat} {b : Bool} {K : Int32 × Int32 × zq_S → Option (Int32 × zq_S)} {Q : Int32 × zq_S → Prop}
theorem X_road (hN : 5000 ≤ N) : ∀ d R p s, h.length - p < d → pzI h R p → pzCX h b R (pzst R) s →
    ((pzG h R p).1 ≠ 0 → (∀ t, pzFX b s t → (pzG h R p).2.1 < h.length → zw (K (nI (pzG h R p).2.1, nI (pzG h R p).1, t)) Q) ∧ ((pzG h R p).1 = 1 → (pzG h R p).2.1 = h.length → ∀ t, pzFX b s t → (¬ zgf t 26 4 = 0 ∨ ¬ zgf t 26 6 ≤ 0) → zw (K (nI h.length, 0, t)) Q)) →
    ((pzG h R p).1 = 0 → ∀ t p', pzFX b s t → pzI h (pzG h R p).2.2 p' → pzCX h b (pzG h R p).2.2 0 t → pzph (pzG h R p).2.2 = 0 → pzstk (pzG h R p).2.2 = [] → zw (K (nI h.length, 0, t)) Q) →
    pzRX N h b K Q p s := by
  intro d
  induction d with
  | zero => intro R p s h1; omega
  | succ d ih =>
    intro R p s h1 hI hs hB hE
    have hpl := hI.2.1.2.1
    have sk := pzsk h hpl
    by_cases hq : zskp h p < h.length
    · refine X_item hN hI hs hq ⟨fun c0 t F C => ?_, fun c0 => ?_⟩
      · have ok := pzS_ok hI hq c0
        rw [pzG_next hI hq c0] at hB hE
        refine ih _ _ t (by omega) ok.1 C (fun y => ⟨fun u Fu => (hB y).1 u (F.tr Fu), fun a1 a2 u Fu => (hB y).2 a1 a2 u (F.tr Fu)⟩) (fun y u p' Fu => hE y u p' (F.tr Fu))
      · rw [pzG_bad hI hq c0] at hB
        have hB := hB c0
        exact ⟨hB.1, fun a1 a2 t F a3 => hB.2 a1 a2 t F (Or.inl a3)⟩
    · have e : zskp h p = h.length := by omega
      refine pzRX_skip hN hs.1 _ p (Nat.le_refl _) hpl (pzRX_end hs.1 e ?_)
      rw [pzG_end hI hq] at hB hE
      rw [e]
      by_cases y : pzph R = 0 ∧ pzstk R = []
      · rw [if_pos y] at hE
        have hst : pzst R = 0 := by unfold pzst; rw [if_pos y.1]
        rw [hst] at hs
        exact hE rfl s p zfr_rfl hI hs y.1 y.2
      · rw [if_neg y] at hB
        refine (hB Nat.one_ne_zero).2 rfl rfl s zfr_rfl ?_
        by_cases z : pzph R = 0
        · refine Or.inr ?_
          rw [hs.2.2.2.1]
          have hd := pz_dep hI.1
          have : (pzstk R).length ≠ 0 := fun w => y ⟨z, List.eq_nil_of_length_eq_zero w⟩
          rw [show (0 : Int32) = nI 0 from rfl, nI_leI (by omega) (by decide)]
          omega
        · refine Or.inl ?_
          rw [hs.2.2.1]
          unfold pzst
          rw [if_neg z]
          by_cases w : pzph R = 1
          · rw [if_pos w]; decide
          · rw [if_neg w]; decide
end
/-- a star or an arrow alone -/
def pzln (R : List zIt) (k : Nat) : Prop := ((pzat R k).sg = 7 ∧ (pzmv R).testBit (pzat R k).mk = false) ∨ ((pzat R k).sg = 3 ∧ (pzsr R).testBit (pzat R k).mk = false)
theorem pzln_no {R : List zIt} (hn : ∀ k, k < R.length → ¬ pzln R k) : ∀ m, (pzmv R).testBit m = (pzsr R).testBit m := by
  intro m
  cases a : (pzmv R).testBit m with
  | true =>
    cases c : (pzsr R).testBit m with
    | true => rfl
    | false =>
      obtain ⟨o1, o2, o3⟩ := pz_op a
      exact absurd (Or.inr ⟨o2, by rw [o3]; exact c⟩) (hn _ o1)
  | false =>
    cases c : (pzsr R).testBit m with
    | false => rfl
    | true =>
      obtain ⟨o1, o2, o3⟩ := pz_sx c
      exact absurd (Or.inl ⟨o2, by rw [o3]; exact a⟩) (hn _ o1)
theorem pzln_first (R : List zIt) : (∀ k, k < R.length → ¬ pzln R k) ∨ ∃ k0, k0 < R.length ∧ pzln R k0 ∧ ∀ k, k < k0 → ¬ pzln R k := by
  have key : ∀ n, (∀ k, k < n → ¬ pzln R k) ∨ ∃ k0, k0 < n ∧ pzln R k0 ∧ ∀ k, k < k0 → ¬ pzln R k := by
    intro n
    induction n with
    | zero => exact Or.inl (fun k hk => absurd hk (Nat.not_lt_zero k))
    | succ n ih =>
      rcases ih with a | ⟨k0, a1, a2⟩
      · by_cases y : pzln R n
        · exact Or.inr ⟨n, by omega, y, a⟩
        · refine Or.inl (fun k hk => ?_)
          by_cases z : k < n
          · exact a k z
          · rw [show k = n by omega]; exact y
      · exact Or.inr ⟨k0, by omega, a2⟩
  exact key R.length
def zlm (s : zq_S) : Nat → Int32
  | 0 => -1
  | n + 1 => if (if (if zA s 29 n = (-1 : Int32) then (1 : Int32) else 0) = (if zA s 30 n = (-1 : Int32) then (1 : Int32) else 0) then (0 : Int32) else 1) = 0 then zlm s n else (if zlm s n = -1 then (if zA s 29 n < zA s 30 n then zA s 30 n else zA s 29 n) else (if zlm s n ≤ (if zA s 29 n < zA s 30 n then zA s 30 n else zA s 29 n) then zlm s n else (if zA s 29 n < zA s 30 n then zA s 30 n else zA s 29 n)))
theorem mX5_loneArrow_eq (N : Nat) (hN : 5000 ≤ N) (s : zq_S) : mX5_loneArrow N s = some (zlm s 10, s) := by
  unfold mX5_loneArrow
  refine zq_up (b := bX5_loneArrow_4 N) 10 (fun j => (zlm s j, nI j, s)) (fun self => ?_) (fun self j hj => ?_) N 0 (by decide) (by omega)
  · dsimp only [bX5_loneArrow_4]
    rw [if_pos (show (10 : Int32) ≤ nI 10 by decide)]
  · dsimp only [bX5_loneArrow_4, zq_let]
    rw [if_neg (show ¬ (10 : Int32) ≤ nI j by rw [show (10 : Int32) = nI 10 from rfl, nI_leI (by decide) (by omega)]; omega), zck_nI hj (by decide), zck_nI hj (by decide), zck_nI hj (by decide), zck_nI hj (by decide), zga_nI _ _ (by omega), zga_nI _ _ (by omega), nI_1]
    unfold mJ9_max_7cf53
    rfl
theorem zlm_nn : ∀ x, x < 1000 → (¬ nI x = (-1 : Int32)) ∧ (¬ nI x < (-1 : Int32)) ∧ ((-1 : Int32) < nI x) := by decide +kernel
theorem zlm_one {s : zq_S} {n P : Nat} (hP : P < 1000) (h : (zA s 29 n = nI P ∧ zA s 30 n = -1) ∨ (zA s 29 n = -1 ∧ zA s 30 n = nI P)) : zlm s (n + 1) = if zlm s n = -1 then nI P else if zlm s n ≤ nI P then zlm s n else nI P := by
  obtain ⟨a1, a2, a3⟩ := zlm_nn P hP
  rw [zlm]
  rcases h with ⟨h1, h2⟩ | ⟨h1, h2⟩
  · rw [h1, h2, if_neg a1, if_pos rfl, if_neg (show ¬ (0 : Int32) = 1 by decide), if_neg (show ¬ (1 : Int32) = 0 by decide), if_neg a2]
  · rw [h1, h2, if_neg a1, if_pos rfl, if_neg (show ¬ (1 : Int32) = 0 by decide), if_neg (show ¬ (1 : Int32) = 0 by decide), if_pos a3]
theorem zlm_none {s : zq_S} {n P P' : Nat} (hP : P < 1000) (hP' : P' < 1000) (h : (zA s 29 n = nI P ∧ zA s 30 n = nI P') ∨ (zA s 29 n = -1 ∧ zA s 30 n = -1)) : zlm s (n + 1) = zlm s n := by
  obtain ⟨a1, a2, a3⟩ := zlm_nn P hP
  obtain ⟨b1, b2, b3⟩ := zlm_nn P' hP'
  rw [zlm]
  rcases h with ⟨h1, h2⟩ | ⟨h1, h2⟩
  · rw [h1, h2, if_neg a1, if_neg b1, if_pos rfl, if_pos rfl]
  · rw [h1, h2, if_pos rfl, if_pos rfl]
/-- the place of the lone star or arrow of m -/
def pzlp (R : List zIt) (m : Nat) : Nat := if (pzsr R).testBit m then (pzat R (pzsx R m)).ps else (pzat R (pzop R m)).ps
theorem pzlm_min {h : List Nat} {R : List zIt} {p : Nat} {s : zq_S} (hh : h.length ≤ 400) (hI : pzI h R p) (h29 : ∀ m, m < 10 → zA s 29 m = (if (pzsr R).testBit m then nI (pzat R (pzsx R m)).ps else -1)) (h30 : ∀ m, m < 10 → zA s 30 m = (if (pzmv R).testBit m then nI (pzat R (pzop R m)).ps else -1)) : ∀ n, n ≤ 10 →
    (zlm s n = -1 ∧ ∀ m, m < n → (pzmv R).testBit m = (pzsr R).testBit m) ∨ (∃ m0, m0 < n ∧ (pzmv R).testBit m0 ≠ (pzsr R).testBit m0 ∧ pzlp R m0 < 1000 ∧ zlm s n = nI (pzlp R m0) ∧ ∀ m, m < n → (pzmv R).testBit m ≠ (pzsr R).testBit m → pzlp R m0 ≤ pzlp R m) := by
  have hpl := hI.2.1.2.1
  intro n
  induction n with
  | zero => intro _; exact Or.inl ⟨rfl, fun m hm => absurd hm (Nat.not_lt_zero m)⟩
  | succ n ih =>
    intro hn
    have r29 := h29 n (by omega)
    have r30 := h30 n (by omega)
    have ih := ih (by omega)
    by_cases e : (pzmv R).testBit n = (pzsr R).testBit n
    · have hz : zlm s (n + 1) = zlm s n := by
        cases y : (pzsr R).testBit n with
        | true =>
          rw [y] at e r29
          rw [e] at r30
          have a := hI.2.2.1 _ (pz_sx y).1
          have c := hI.2.2.1 _ (pz_op e).1
          exact zlm_none (P := (pzat R (pzsx R n)).ps) (P' := (pzat R (pzop R n)).ps) (by omega) (by omega) (Or.inl ⟨r29, r30⟩)
        | false =>
          rw [y] at e r29
          rw [e] at r30
          exact zlm_none (P := 0) (P' := 0) (by omega) (by omega) (Or.inr ⟨r29, r30⟩)
      rw [hz]
      rcases ih with ⟨i1, i2⟩ | ⟨m0, j1, j2, j3, j4, j5⟩
      · refine Or.inl ⟨i1, fun m hm => ?_⟩
        by_cases w : m < n
        · exact i2 m w
        · rw [show m = n by omega]; exact e
      · refine Or.inr ⟨m0, by omega, j2, j3, j4, fun m hm hne => ?_⟩
        by_cases w : m < n
        · exact j5 m w hne
        · rw [show m = n by omega] at hne; exact absurd e hne
    · have key : pzlp R n < 1000 ∧ ((zA s 29 n = nI (pzlp R n) ∧ zA s 30 n = -1) ∨ (zA s 29 n = -1 ∧ zA s 30 n = nI (pzlp R n))) := by
        unfold pzlp
        cases y : (pzsr R).testBit n with
        | true =>
          cases w : (pzmv R).testBit n with
          | true => rw [y, w] at e; exact absurd rfl e
          | false =>
            rw [y] at r29
            rw [w] at r30
            have a := hI.2.2.1 _ (pz_sx y).1
            rw [if_pos rfl] at r29 ⊢
            exact ⟨by omega, Or.inl ⟨r29, r30⟩⟩
        | false =>
          cases w : (pzmv R).testBit n with
          | false => rw [y, w] at e; exact absurd rfl e
          | true =>
            rw [y] at r29
            rw [w] at r30
            have a := hI.2.2.1 _ (pz_op w).1
            rw [if_pos rfl] at r30
            rw [if_neg (show ¬ false = true by decide)]
            exact ⟨by omega, Or.inr ⟨r29, r30⟩⟩
      rw [zlm_one key.1 key.2]
      rcases ih with ⟨i1, i2⟩ | ⟨m0, j1, j2, j3, j4, j5⟩
      · refine Or.inr ⟨n, by omega, e, key.1, by rw [if_pos i1], fun m hm hne => ?_⟩
        by_cases w : m < n
        · exact absurd (i2 m w) hne
        · rw [show m = n by omega]; exact Nat.le_refl _
      · rw [j4, if_neg (zlm_nn _ j3).1]
        by_cases w : pzlp R m0 ≤ pzlp R n
        · rw [if_pos (nI_le w (by omega))]
          refine Or.inr ⟨m0, by omega, j2, j3, rfl, fun m hm hne => ?_⟩
          by_cases v : m < n
          · exact j5 m v hne
          · rw [show m = n by omega]; exact w
        · rw [if_neg (by rw [nI_leI (by omega) (by omega)]; exact w)]
          refine Or.inr ⟨n, by omega, e, key.1, rfl, fun m hm hne => ?_⟩
          by_cases v : m < n
          · have := j5 m v hne; omega
          · rw [show m = n by omega]; exact Nat.le_refl _
theorem pzlm_none {h : List Nat} {R : List zIt} {p : Nat} {s : zq_S} (hh : h.length ≤ 400) (hI : pzI h R p) (h29 : ∀ m, m < 10 → zA s 29 m = (if (pzsr R).testBit m then nI (pzat R (pzsx R m)).ps else -1)) (h30 : ∀ m, m < 10 → zA s 30 m = (if (pzmv R).testBit m then nI (pzat R (pzop R m)).ps else -1)) (hn : ∀ k, k < R.length → ¬ pzln R k) : zlm s 10 = -1 := by
  rcases pzlm_min hh hI h29 h30 10 (Nat.le_refl _) with ⟨a, _⟩ | ⟨m0, _, a2, _⟩
  · exact a
  · exact absurd (pzln_no hn m0) a2
theorem pzlm_first {h : List Nat} {R : List zIt} {p k0 : Nat} {s : zq_S} (hh : h.length ≤ 400) (hI : pzI h R p) (h29 : ∀ m, m < 10 → zA s 29 m = (if (pzsr R).testBit m then nI (pzat R (pzsx R m)).ps else -1)) (h30 : ∀ m, m < 10 → zA s 30 m = (if (pzmv R).testBit m then nI (pzat R (pzop R m)).ps else -1)) (hk : k0 < R.length) (hl : pzln R k0) (hf : ∀ k, k < k0 → ¬ pzln R k) : zlm s 10 = nI (pzat R k0).ps ∧ (pzat R k0).ps < 1000 := by
  have hpl := hI.2.1.2.1
  have hps := hI.2.2.1 k0 hk
  have hm := (pzV_at hI.1 hk).1.2.1
  have own : (pzmv R).testBit (pzat R k0).mk ≠ (pzsr R).testBit (pzat R k0).mk ∧ pzlp R (pzat R k0).mk = (pzat R k0).ps := by
    unfold pzlp
    rcases hl with ⟨a1, a2⟩ | ⟨a1, a2⟩
    · obtain ⟨c1, c2⟩ := pz_sx1 hI.1 k0 hk a1
      rw [a2, c2, if_pos rfl, c1]
      exact ⟨by decide, rfl⟩
    · obtain ⟨c1, c2⟩ := pz_op1 hI.1 k0 hk a1
      rw [a2, c2, if_neg (by decide), c1]
      exact ⟨by decide, rfl⟩
  refine ⟨?_, by omega⟩
  rcases pzlm_min hh hI h29 h30 10 (Nat.le_refl _) with ⟨_, a⟩ | ⟨m0, a1, a2, a3, a4, a5⟩
  · exact absurd (a _ hm) own.1
  · have le := a5 _ hm own.1
    rw [own.2] at le
    have ge : (pzat R k0).ps ≤ pzlp R m0 := by
      have ex : ∃ k, k < R.length ∧ pzln R k ∧ pzlp R m0 = (pzat R k).ps := by
        unfold pzlp
        cases y : (pzsr R).testBit m0 with
        | true =>
          cases w : (pzmv R).testBit m0 with
          | true => rw [y, w] at a2; exact absurd rfl a2
          | false =>
            obtain ⟨o1, o2, o3⟩ := pz_sx y
            exact ⟨_, o1, Or.inl ⟨o2, by rw [o3]; exact w⟩, if_pos rfl⟩
        | false =>
          cases w : (pzmv R).testBit m0 with
          | false => rw [y, w] at a2; exact absurd rfl a2
          | true =>
            obtain ⟨o1, o2, o3⟩ := pz_op w
            exact ⟨_, o1, Or.inr ⟨o2, by rw [o3]; exact y⟩, if_neg (by decide)⟩
      obtain ⟨k, e1, e2, e3⟩ := ex
      rw [e3]
      by_cases z : k < k0
      · exact absurd e2 (hf k z)
      · by_cases w : k = k0
        · rw [w]; exact Nat.le_refl _
        · have := hI.2.2.2 k0 k (by omega) e1
          omega
    rw [a4, show pzlp R m0 = (pzat R k0).ps by omega]
