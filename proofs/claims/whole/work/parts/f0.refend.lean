/-! the reference: the end of sheet, its faults -/
theorem zkd2_c : ∀ g, g < 11 → (zkd2 g = 0 ↔ g = 0) ∧ (zkd2 g = 1 ↔ g = 1) ∧ (zkd2 g = 2 ↔ g = 2) ∧ (zkd2 g = 3 ↔ g = 3) ∧ (zkd2 g = 4 ↔ (4 ≤ g ∧ g ≤ 6)) ∧ (zkd2 g = 5 ↔ g = 7) ∧ (zkd2 g = 6 ↔ g = 8) ∧ (zkd2 g = 7 ↔ g = 9) := by decide
theorem mX12_cm_body (N : Nat) {R : List zIt} {t : zq_S} (hV : pzV R) (h21 : zgf t 57 21 = nI R.length) (h29 : zgf t 57 29 = nI (pzmv R)) (h30 : zgf t 57 30 = nI (pzsr R)) (hM : pzMa R t) {k : Nat} (hk : k < R.length) (k82 : Int32 × zq_S → Option (Int32 × zq_S)) (k101 : zq_S → Option (Int32 × zq_S)) (self : Int32 × zq_S → Option (Int32 × zq_S)) :
    (pzln R k → bX12_checkMarks_2 N k82 k101 self (nI k, t) = k82 (nI k, t)) ∧ (¬ pzln R k → bX12_checkMarks_2 N k82 k101 self (nI k, t) = self (nI (k + 1), t)) := by
  have hlen := pz_len hV
  have hok := pzV_at hV hk
  have hg := hok.1.1
  have hm := hok.1.2.1
  obtain ⟨a1, a2, a3, a4⟩ := hM k hk
  obtain ⟨z0, z1, z2, z3, z4, z5, z6, z7⟩ := zkd2_c (pzat R k).sg (by omega)
  have l1 := pzmv_lt hV
  have l2 := pzsr_lt hV
  unfold pzln
  dsimp only [bX12_checkMarks_2]
  rw [h21, if_neg (show ¬ nI R.length ≤ nI k by rw [nI_leI (by omega) (by omega)]; omega), zck_nI (show k < 400 by omega) (by decide), zga_nI _ _ (by omega), a1]
  unfold jX12_checkMarks_j40 jX12_checkMarks_j41 jX12_checkMarks_j72 jX12_checkMarks_j73
  by_cases s7 : (pzat R k).sg = 7
  · rw [if_pos (z5.2 s7), zck_nI (show k < 400 by omega) (by decide), zga_nI _ _ (by omega), a3 (Or.inr s7), h29, mX12_has_eq N (by omega) (by omega), zb2_some]
    dsimp only [zq_let]
    have n3 : ¬ zkd2 (pzat R k).sg = 3 := fun y => by have := z3.1 y; omega
    have hck : ∀ (c : Option (Int32 × zq_S)), zq_ck (nI k) 400 c = c := fun c => zck_nI (show k < 400 by omega) (by decide) c
    have hga : zga t 71 (nI k) = zkd2 (pzat R k).sg := by rw [zga_nI _ _ (by omega), a1]
    simp only [hck, hga, if_neg n3, nI_1]
    cases e : (pzmv R).testBit (pzat R k).mk with
    | true =>
      exact ⟨fun y => by rcases y with y | y; exact absurd y.2 (by decide); omega, fun _ => rfl⟩
    | false =>
      exact ⟨fun _ => rfl, fun y => absurd (Or.inl ⟨s7, rfl⟩) y⟩
  · rw [if_neg (fun y => s7 (z5.1 y)), zck_nI (show k < 400 by omega) (by decide), zga_nI _ _ (by omega), a1]
    by_cases s3 : (pzat R k).sg = 3
    · rw [if_pos (z3.2 s3), zck_nI (show k < 400 by omega) (by decide), zga_nI _ _ (by omega), a3 (Or.inl (by omega)), h30, mX12_has_eq N (by omega) (by omega), zb2_some]
      dsimp only [zq_let]
      rw [nI_1]
      cases e : (pzsr R).testBit (pzat R k).mk with
      | true =>
        rw [if_pos rfl, if_neg (show ¬ (1 : Int32) = 0 by decide), if_pos rfl, if_pos rfl]
        exact ⟨fun y => by rcases y with y | y; omega; exact absurd y.2 (by decide), fun _ => rfl⟩
      | false =>
        rw [if_neg (show ¬ false = true by decide), if_pos rfl, if_pos rfl, if_neg (show ¬ (1 : Int32) = 0 by decide)]
        exact ⟨fun _ => rfl, fun y => absurd (Or.inr ⟨s3, rfl⟩) y⟩
    · rw [if_neg (fun y => s3 (z3.1 y)), if_pos rfl, if_pos rfl]
      dsimp only [zq_let]
      rw [nI_1]
      exact ⟨fun y => by omega, fun _ => rfl⟩
theorem mX12_cm_loop (N : Nat) {R : List zIt} {t : zq_S} (hV : pzV R) (h21 : zgf t 57 21 = nI R.length) (h29 : zgf t 57 29 = nI (pzmv R)) (h30 : zgf t 57 30 = nI (pzsr R)) (hM : pzMa R t) (k82 : Int32 × zq_S → Option (Int32 × zq_S)) (k101 : zq_S → Option (Int32 × zq_S)) :
    (∀ k0, k0 < R.length → pzln R k0 → (∀ k, k < k0 → ¬ pzln R k) → ∀ d k M, k0 - k ≤ d → k ≤ k0 → d < M → zq_loop (bX12_checkMarks_2 N k82 k101) M (nI k, t) = k82 (nI k0, t)) ∧
    ((∀ k, k < R.length → ¬ pzln R k) → ∀ d k M, R.length - k ≤ d → k ≤ R.length → d < M → zq_loop (bX12_checkMarks_2 N k82 k101) M (nI k, t) = k101 t) := by
  have hlen := pz_len hV
  refine ⟨fun k0 hk0 hl hf d => ?_, fun hn d => ?_⟩
  · induction d with
    | zero =>
      intro k M h1 h2 h3
      obtain ⟨M, rfl⟩ : ∃ M', M = M' + 1 := ⟨M - 1, by omega⟩
      obtain rfl : k = k0 := by omega
      rw [zq_loop_s]
      exact (mX12_cm_body N hV h21 h29 h30 hM hk0 _ _ _).1 hl
    | succ d ih =>
      intro k M h1 h2 h3
      obtain ⟨M, rfl⟩ : ∃ M', M = M' + 1 := ⟨M - 1, by omega⟩
      rw [zq_loop_s]
      by_cases e : k = k0
      · subst e
        exact (mX12_cm_body N hV h21 h29 h30 hM hk0 _ _ _).1 hl
      · rw [(mX12_cm_body N hV h21 h29 h30 hM (show k < R.length by omega) _ _ _).2 (hf k (by omega))]
        exact ih (k + 1) M (by omega) (by omega) (by omega)
  · have stop : ∀ M, zq_loop (bX12_checkMarks_2 N k82 k101) (M + 1) (nI R.length, t) = k101 t := by
      intro M
      rw [zq_loop_s]
      dsimp only [bX12_checkMarks_2]
      rw [h21, if_pos (nI_le (Nat.le_refl _) (by omega))]
    induction d with
    | zero =>
      intro k M h1 h2 h3
      obtain ⟨M, rfl⟩ : ∃ M', M = M' + 1 := ⟨M - 1, by omega⟩
      obtain rfl : k = R.length := by omega
      exact stop M
    | succ d ih =>
      intro k M h1 h2 h3
      obtain ⟨M, rfl⟩ : ∃ M', M = M' + 1 := ⟨M - 1, by omega⟩
      by_cases e : k = R.length
      · subst e; exact stop M
      · rw [zq_loop_s, (mX12_cm_body N hV h21 h29 h30 hM (show k < R.length by omega) _ _ _).2 (hn k (by omega))]
        exact ih (k + 1) M (by omega) (by omega) (by omega)
theorem mX12_checkMarks_eq (N : Nat) (hN : 5000 ≤ N) {h : List Nat} {R : List zIt} {q : Nat} {t : zq_S} (hV : pzV R) (hs : pzCM h R q t) :
    (∀ k0, k0 < R.length → pzln R k0 → (∀ k, k < k0 → ¬ pzln R k) → mX12_checkMarks N t = some (6, zpf t 57 17 (nI (pzat R k0).ps))) ∧
    ((∀ k, k < R.length → ¬ pzln R k) → (pzmk R &&& (pzmk R + 1) ≠ 0 → mX12_checkMarks N t = some (7, zpf t 57 17 (nI h.length))) ∧ (pzmk R &&& (pzmk R + 1) = 0 → mX12_checkMarks N t = some (0, t))) := by
  obtain ⟨c1, c2, c3, c4, c5, c6, c7, c8, c9, c10, c11, c12, c13⟩ := hs
  have hlen := pz_len hV
  have hM := pzmk_lt hV
  have e7 : (zgf t 57 28 &&& (zgf t 57 28 + 1) = 0) ↔ pzmk R &&& (pzmk R + 1) = 0 := by
    rw [c6, nI_1, zn_and, show (0 : Int32) = nI 0 from rfl]
    have := @Nat.and_le_left (pzmk R) (pzmk R + 1)
    exact nI_eq (by omega) (by decide)
  unfold mX12_checkMarks
  have lp := mX12_cm_loop N hV c4 c7 c8 c13 (fun e6 => jX12_checkMarks_j82 N e6.1 e6.2) (fun e9 => if ((zgf e9 57 28) &&& ((zgf e9 57 28) + (1 : Int32))) = (0 : Int32) then jX12_checkMarks_j129 N (0 : Int32) e9 else zq_b2 (mX12_fails N (7 : Int32) (zgf e9 57 16) e9) (fun r10 s11 => jX12_checkMarks_j129 N r10 s11))
  refine ⟨fun k0 hk hl hf => ?_, fun hn => ⟨fun y => ?_, fun y => ?_⟩⟩
  · refine (lp.1 k0 hk hl hf k0 0 N (by omega) (by omega) (by omega)).trans ?_
    unfold jX12_checkMarks_j82
    have e75 : zA t 75 k0 = nI (pzat R k0).ps := (c13 k0 hk).2.2.2.2.2.2.2.2 (by rcases hl with y | y; exact Or.inr y.1; exact Or.inl y.1)
    rw [zck_nI (show k0 < 400 by omega) (by decide), zga_nI _ _ (by omega), e75]
    rfl
  · refine (lp.2 hn R.length 0 N (by omega) (by omega) (by omega)).trans ?_
    rw [if_neg (fun w => y (e7.1 w)), c1.1]
    rfl
  · refine (lp.2 hn R.length 0 N (by omega) (by omega) (by omega)).trans ?_
    rw [if_pos (e7.2 y)]
    rfl
/-- the whole of the reference's sheet, but keepSheet -/
theorem mX12_sheet_w (N : Nat) (hN : 5000 ≤ N) {h : List Nat} {s : zq_S} (hs : zHM h s) {c pl : Nat} {R : List zIt} (hO : pzOut h c pl R) {Q : Int32 × zq_S → Prop}
    (hbad : c ≠ 0 → ∀ t, pzFM s t → zgf t 57 17 = nI pl → Q ((-10 : Int32) - nI c, zpf t 57 16 0))
    (hok : c = 0 → ∀ t q, pzFM s t → pzCM h R q t → zw (mX12_keepSheet N (zpf t 57 16 0)) (fun v => Q (zgf v.2 57 6, v.2))) : zw (mX12_sheet N s) Q := by
  have hh := hs.2.2.1
  have h5 := pzG_le h
  have z0 : ∀ k, k ≠ 0 → k < 100 → ¬ nI k = (0 : Int32) ∧ ¬ nI k ≤ 0 := fun k a1 a2 => by
    rw [show (0 : Int32) = nI 0 from rfl, nI_eq (by omega) (by decide), nI_leI (by omega) (by decide)]; omega
  have z1 : ∀ c' pl' t, c' ≠ 0 → c' < 100 → c' = c → pl' = pl → pzFM s t → zgf t 57 17 = nI pl' → zw (jX12_sheet_j108 N (nI c') t) Q := by
    intro c' pl' t a1 a2 a3 a4 F e
    subst a3
    subst a4
    unfold jX12_sheet_j108
    dsimp only [zq_let]
    rw [if_neg (z0 c' a1 a2).2]
    exact zw_some.2 (hbad a1 t F e)
  unfold mX12_sheet
  dsimp only [zq_let]
  generalize hu : zpf (zpf (zpf (zpf (zpf (zpf (zpf (zpf (zpf (zpf s 57 17 (-1 : Int32)) 57 18 0) 57 21 0) 57 27 0) 57 28 0) 57 29 0) 57 30 0) 57 31 0) 57 33 0) 57 34 0 = u
  have F0 : pzFM s u := by
    rw [← hu]
    exact (((((((((zfr_pf _ _ _ (by decide)).tr (zfr_pf _ _ _ (by decide))).tr (zfr_pf _ _ _ (by decide))).tr (zfr_pf _ _ _ (by decide))).tr (zfr_pf _ _ _ (by decide))).tr (zfr_pf _ _ _ (by decide))).tr (zfr_pf _ _ _ (by decide))).tr (zfr_pf _ _ _ (by decide))).tr (zfr_pf _ _ _ (by decide))).tr (zfr_pf _ _ _ (by decide))
  have C0 : pzCM h [] 0 u := by
    refine ⟨⟨?_, ?_, hs.2.2⟩, ?_, ?_, ?_, ?_, ?_, ?_, ?_, ?_, ?_, fun _ => ?_, trivial, fun k hk => absurd hk (Nat.not_lt_zero k)⟩
    · rw [F0.f 57 16 (by decide)]; exact hs.1
    · rw [F0.a 70 (by decide)]; exact hs.2.1
    all_goals rw [← hu]; rfl
  clear hu
  refine mX12_items N hN (s0 := s) (g := pzG h [] 0) (K := fun e15 => jX12_sheet_j71 N e15.1 e15.2) (fun c' q' R' t a1 a2 a3 F e17 => ?_) (fun R' p q' t hI h0 hC F hg => ?_) (h.length + 1) [] 0 u N (by omega) (by omega) (pzI_0 h) rfl C0 F0 rfl
  · rcases hO with ⟨b1, b2, b3⟩ | ⟨b1, _⟩
    · rw [a3] at b2 b3
      unfold jX12_sheet_j71 jX12_sheet_j94 jX12_sheet_j95
      dsimp only
      rw [if_neg (z0 c' a1 (by omega)).1, if_neg (z0 c' a1 (by omega)).2]
      exact z1 c' q' t a1 (by omega) b2.symm b3.symm F e17
    · rw [a3] at b1; exact absurd b1 a1
  · have hV := hI.1
    have hd := pz_dep hV
    unfold jX12_sheet_j71 jX12_sheet_j94 jX12_sheet_j95
    dsimp only
    rw [if_pos rfl, hC.2.2.2.2.2.2.2.2.1]
    by_cases e : pzstk R' = []
    · rw [if_pos e] at hg
      rw [e, if_pos (show nI ([] : List Nat).length ≤ 0 by decide), if_pos (show (0 : Int32) ≤ 0 by decide)]
      rcases hO with ⟨b1, _⟩ | ⟨b1, b2, hO⟩
      · rw [hg] at b1; exact absurd rfl b1
      · rw [hg] at b2
        have b2 : R = R' := b2
        subst b2
        obtain ⟨m1, m2⟩ := mX12_checkMarks_eq N hN hV hC
        rcases hO with ⟨d1, k0, d2, d3, d4, d5⟩ | ⟨d1, ⟨d2, d3, d4⟩ | ⟨d2, d3⟩⟩
        · rw [m1 k0 d2 d3 d4, zb2_some]
          exact z1 6 _ _ (by decide) (by decide) d1.symm d5.symm (F.tr (zfr_pf _ _ _ (by decide))) rfl
        · rw [(m2 d1).1 d4, zb2_some]
          exact z1 7 _ _ (by decide) (by decide) d2.symm d3.symm (F.tr (zfr_pf _ _ _ (by decide))) rfl
        · rw [(m2 d1).2 d3, zb2_some]
          unfold jX12_sheet_j108
          dsimp only [zq_let]
          rw [if_pos (show (0 : Int32) ≤ 0 by decide), zw_b2]
          exact zw_mono (hok d2 t q' F hC) (fun v hv => zw_some.2 hv)
    · rw [if_neg e] at hg
      have hl : (pzstk R').length ≠ 0 := fun w => e (List.eq_nil_of_length_eq_zero w)
      rw [if_neg (z0 _ hl (by omega)).2]
      rcases hO with ⟨b1, b2, b3⟩ | ⟨b1, _⟩
      · rw [hg] at b2 b3
        unfold mX12_fails
        dsimp only [zq_let]
        rw [zb2_some]
        dsimp only
        rw [if_neg (show ¬ (1 : Int32) ≤ 0 by decide), hC.1.1]
        exact z1 1 _ _ (by decide) (by decide) b2.symm b3.symm (F.tr (zfr_pf _ _ _ (by decide))) rfl
      · rw [hg] at b1; exact absurd b1 Nat.one_ne_zero
