/-! the reference: findMarks, item by item -/
def pzKi (R : List zIt) (s : zq_S) (k : Nat) : Prop :=
  zA s 58 k = zkd2 (pzat R k).sg ∧
  ((pzat R k).sg = 0 ∨ (pzat R k).sg = 8 ∨ (pzat R k).sg = 9 → zA s 59 k = nI (pzat R k).wd) ∧
  ((1 ≤ (pzat R k).sg ∧ (pzat R k).sg ≤ 3) ∨ (pzat R k).sg = 7 → zA s 59 k = nI (pzat R k).mk) ∧
  (4 ≤ (pzat R k).sg ∧ (pzat R k).sg ≤ 6 → zA s 59 k = nI ((pzat R k).sg - 3) ∧ zA s 61 k = nI ((pzstk (pzpre R k)).headD 0)) ∧
  (1 ≤ (pzat R k).sg ∧ (pzat R k).sg ≤ 3 → zA s 60 k = if (pzat R k).sd = 0 then -1 else nI ((pzat R k).sd - 1)) ∧
  ((pzat R k).sg = 9 → zA s 60 k = nI (pzat R k).mk) ∧
  ((1 ≤ (pzat R k).sg ∧ (pzat R k).sg ≤ 3) ∨ (pzat R k).sg = 8 → zA s 61 k = nI (pzlk R k))
theorem pzar_e {x : zIt} {P : List zIt} (hV : pzV P) (hx : x.sg = 0 ∨ 7 ≤ x.sg) : pzar (x :: P) = pzar P := by
  unfold pzar
  rw [pzstk_e P hx, pzor_old x _ (fun q hq => (pzstk_mem hV hq).1)]
theorem pzar_o {x : zIt} {P : List zIt} (hV : pzV P) (hx : 1 ≤ x.sg ∧ x.sg ≤ 3) : pzar (x :: P) = pzar P ||| (if x.sg = 1 then 2 ^ x.mk else 0) := by
  unfold pzar
  rw [pzstk_o P hx, pzor, pzat_new, pzor_old x _ (fun q hq => (pzstk_mem hV hq).1)]
theorem pzar_c {x : zIt} {P : List zIt} (hV : pzV P) (hx : 4 ≤ x.sg ∧ x.sg ≤ 6) (hok : pzok P x) : pzar (x :: P) = (if x.sg = 4 then pzar P ^^^ (pzar P &&& 2 ^ x.mk) else pzar P) := by
  obtain ⟨q, l, e1, e2, e3, e4⟩ := hok.2.2.2.1 hx
  have hl : ∀ q', q' ∈ l → q' ∈ pzstk P := fun q' h' => by rw [e1]; exact List.mem_cons_of_mem _ h'
  have hq : q ∈ pzstk P := by rw [e1]; exact List.mem_cons_self
  have a1 : pzar (x :: P) = pzor P l := by
    unfold pzar
    rw [pzstk_c P hx, e1, List.tail_cons, pzor_old x _ (fun q' hq' => (pzstk_mem hV (hl q' hq')).1)]
  have a2 : pzar P = pzor P l ||| (if (pzat P q).sg = 1 then 2 ^ (pzat P q).mk else 0) := by
    unfold pzar
    rw [e1, pzor]
  rw [a1]
  by_cases y : x.sg = 4
  · rw [if_pos y, a2, if_pos (show (pzat P q).sg = 1 by omega), e3]
    have nb : (pzor P l).testBit x.mk = false := by
      cases w : (pzor P l).testBit x.mk with
      | false => rfl
      | true =>
        obtain ⟨q', m1, m2, m3⟩ := pzor_bit l w
        have hm' := pzstk_mem hV (hl q' m1)
        have hm := pzstk_mem hV hq
        have eq := pz_one hV hm'.1 hm.1 (m := x.mk) (Or.inl ⟨Or.inl hm'.2, m3⟩) (Or.inl ⟨Or.inl hm.2, e3⟩)
        rw [eq] at m1
        exact absurd m1 (pzstk_hd hV e1).2
    apply Nat.eq_of_testBit_eq
    intro i
    rw [Nat.testBit_xor, Nat.testBit_and, Nat.testBit_or, Nat.testBit_two_pow]
    by_cases w : x.mk = i
    · subst w
      rw [nb, decide_eq_true rfl]; rfl
    · rw [decide_eq_false w]
      cases (pzor P l).testBit i <;> rfl
  · rw [if_neg y, a2, if_neg (show ¬ (pzat P q).sg = 1 by omega), Nat.or_zero]
def pzJ (R : List zIt) (u : zq_S) (n k : Nat) (w3 : Int32) (t : zq_S) : Prop :=
  (pzph (pzpre R k) ≠ 0 → w3 = pzov (pzpre R k)) ∧ zfr [] [62, 64, 66, 67, 68] [] u t ∧ ∀ m, m < 10 → pzFm R (pzpre R k) n t m
section
variable {N : Nat} {R : List zIt} {u : zq_S} {n k : Nat} {w3 : Int32} {t : zq_S} {self : Int32 × Int32 × Int32 × Int32 × zq_S → Option (Unit × zq_S)} {Q : Unit × zq_S → Prop}
theorem F_268 {c : Int32} (h6 : ¬ c = 6) (h7 : ¬ c = 7) (a b : Int32) : jX12_findMarks_j268 N self a b w3 (nI k) c t = self (a, b, w3, nI (k + 1), t) := by
  unfold jX12_findMarks_j268 jX12_findMarks_j331
  dsimp only [zq_let]
  rw [if_neg h7, if_neg h6, nI_1]
theorem F_203 {c : Int32} (h4 : ¬ c = 4) (h5 : ¬ c = 5) (a b : Int32) : jX12_findMarks_j203 N self a b w3 (nI k) c t = jX12_findMarks_j268 N self a b w3 (nI k) c t := by
  unfold jX12_findMarks_j203 jX12_findMarks_j246
  rw [if_neg h4, if_neg h5]
theorem F_body (hV : pzV R) (hk : k < R.length) (h0 : zgf u 57 0 = nI R.length) (hK : ∀ k, k < R.length → pzKi R u k) (hJ : pzJ R u n k w3 t) (a b : Int32) :
    ((1 ≤ (pzat R k).sg ∧ (pzat R k).sg ≤ 3) → bX12_findMarks_9 N self (a, b, w3, nI k, t) = jX12_findMarks_j45 N self a b w3 (nI k) (zkd2 (pzat R k).sg) t) ∧
    (¬ (1 ≤ (pzat R k).sg ∧ (pzat R k).sg ≤ 3) → bX12_findMarks_9 N self (a, b, w3, nI k, t) = jX12_findMarks_j203 N self a b w3 (nI k) (zkd2 (pzat R k).sg) t) := by
  have hlen := pz_len hV
  obtain ⟨j1, j2, j3⟩ := hJ
  obtain ⟨z0, z1, z2, z3, z4, z5, z6, z7⟩ := zkd2_c (pzat R k).sg (by have := (pzV_at hV hk).1.1; omega)
  dsimp only [bX12_findMarks_9, zq_let]
  rw [j2.f 57 0 List.not_mem_nil, h0, if_neg (show ¬ nI R.length ≤ nI k by rw [nI_leI (by omega) (by omega)]; omega), zck_nI (show k < 400 by omega) (by decide), zga_nI _ _ (by omega), j2.a 58 (by decide), (hK k hk).1]
  constructor
  · intro hx
    rcases (show (pzat R k).sg = 1 ∨ (pzat R k).sg = 2 ∨ (pzat R k).sg = 3 by omega) with y | y | y
    · rw [if_pos (z1.2 y)]
    · rw [if_neg (fun w => by have := z1.1 w; omega), if_pos (z2.2 y)]
    · rw [if_neg (fun w => by have := z1.1 w; omega), if_neg (fun w => by have := z2.1 w; omega), if_pos (z3.2 y)]
  · intro hx
    rw [if_neg (fun w => by have := z1.1 w; omega), if_neg (fun w => by have := z2.1 w; omega), if_neg (fun w => by have := z3.1 w; omega)]
theorem F_flat (hV : pzV R) (hk : k < R.length) (h0 : zgf u 57 0 = nI R.length) (hK : ∀ k, k < R.length → pzKi R u k) (hJ : pzJ R u n k w3 t) (hx : (pzat R k).sg = 0 ∨ (pzat R k).sg = 10)
    (hs : ∀ w3' t', pzJ R u n (k + 1) w3' t' → zw (self (nI (pzar (pzpre R (k + 1))), nI (pzstk (pzpre R (k + 1))).length, w3', nI (k + 1), t')) Q) : zw (bX12_findMarks_9 N self (nI (pzar (pzpre R k)), nI (pzstk (pzpre R k)).length, w3, nI k, t)) Q := by
  have hPV := pzV_pre R k (Nat.le_of_lt hk) hV
  obtain ⟨z0, z1, z2, z3, z4, z5, z6, z7⟩ := zkd2_c (pzat R k).sg (by omega)
  rw [(F_body hV hk h0 hK hJ _ _).2 (by omega), F_203 (fun w => by have := z4.1 w; omega) (fun w => by have := z5.1 w; omega), F_268 (fun w => by have := z6.1 w; omega) (fun w => by have := z7.1 w; omega)]
  obtain ⟨j1, j2, j3⟩ := hJ
  have := hs w3 t (by
    unfold pzJ
    rw [pzpre_s R k hk]
    refine ⟨fun y => ?_, j2, fun m hm => pzFm_flat (by omega) (j3 m hm)⟩
    rw [pzph, if_neg (by omega), if_neg (by omega)] at y
    exact absurd rfl y)
  rw [pzpre_s R k hk, pzar_e hPV (by omega), pzstk_e _ (by omega)] at this
  exact this
theorem F_row (hV : pzV R) (hk : k < R.length) (h0 : zgf u 57 0 = nI R.length) (hK : ∀ k, k < R.length → pzKi R u k) (hJ : pzJ R u n k w3 t) (hx : (pzat R k).sg = 8)
    (hs : ∀ w3' t', pzJ R u n (k + 1) w3' t' → zw (self (nI (pzar (pzpre R (k + 1))), nI (pzstk (pzpre R (k + 1))).length, w3', nI (k + 1), t')) Q) : zw (bX12_findMarks_9 N self (nI (pzar (pzpre R k)), nI (pzstk (pzpre R k)).length, w3, nI k, t)) Q := by
  have hPV := pzV_pre R k (Nat.le_of_lt hk) hV
  obtain ⟨z0, z1, z2, z3, z4, z5, z6, z7⟩ := zkd2_c (pzat R k).sg (by omega)
  rw [(F_body hV hk h0 hK hJ _ _).2 (by omega), F_203 (fun w => by have := z4.1 w; omega) (fun w => by have := z5.1 w; omega)]
  unfold jX12_findMarks_j268 jX12_findMarks_j331
  dsimp only [zq_let]
  rw [if_neg (fun w => by have := z7.1 w; omega), if_pos (z6.2 hx), nI_1]
  obtain ⟨j1, j2, j3⟩ := hJ
  have := hs (-1) t (by
    unfold pzJ
    rw [pzpre_s R k hk]
    refine ⟨fun y => ?_, j2, fun m hm => pzFm_flat (by omega) (j3 m hm)⟩
    rw [pzov, if_neg (by omega)])
  rw [pzpre_s R k hk, pzar_e hPV (by omega), pzstk_e _ (by omega)] at this
  exact this
theorem F_star (hV : pzV R) (hk : k < R.length) (h0 : zgf u 57 0 = nI R.length) (hK : ∀ k, k < R.length → pzKi R u k) (hJ : pzJ R u n k w3 t) (hx : (pzat R k).sg = 7)
    (hs : ∀ w3' t', pzJ R u n (k + 1) w3' t' → zw (self (nI (pzar (pzpre R (k + 1))), nI (pzstk (pzpre R (k + 1))).length, w3', nI (k + 1), t')) Q) : zw (bX12_findMarks_9 N self (nI (pzar (pzpre R k)), nI (pzstk (pzpre R k)).length, w3, nI k, t)) Q := by
  have hPV := pzV_pre R k (Nat.le_of_lt hk) hV
  have hlen := pz_len hV
  have hm10 := (pzV_at hV hk).1.2.1
  obtain ⟨z0, z1, z2, z3, z4, z5, z6, z7⟩ := zkd2_c (pzat R k).sg (by omega)
  rw [(F_body hV hk h0 hK hJ _ _).2 (by omega)]
  obtain ⟨j1, j2, j3⟩ := hJ
  have r59 : zga t 59 (nI k) = nI (pzat R k).mk := by rw [zga_nI _ _ (by omega), j2.a 59 (by decide)]; exact (hK k hk).2.2.1 (Or.inr hx)
  unfold jX12_findMarks_j203 jX12_findMarks_j246
  rw [if_neg (fun w => by have := z4.1 w; omega), if_pos (z5.2 hx), zck_nI (show k < 400 by omega) (by decide), r59, zck_nI hm10 (by decide), zck_nI hm10 (by decide)]
  dsimp only [zq_let]
  rw [F_268 (fun w => by have := z6.1 w; omega) (fun w => by have := z7.1 w; omega), zpa_eq, zga_nI _ _ (by omega), nI_clamp (by omega)]
  have := hs w3 (zsA t 64 (upd (zA t 64) (pzat R k).mk (zA t 64 (pzat R k).mk ||| nI (pzar (pzpre R k))))) (by
    unfold pzJ
    rw [pzpre_s R k hk]
    refine ⟨fun y => ?_, j2.tr (zfr_sA _ _ (by decide)), fun m hm => pzFm_star hx (j3 m hm) ?_ (by rw [zA_ne _ (by decide)]) (by rw [zA_ne _ (by decide)]) (by rw [zA_ne _ (by decide)]) (by rw [zA_ne _ (by decide)])⟩
    · rw [pzph, if_neg (by omega), if_neg (by omega)] at y
      exact absurd rfl y
    · rw [zA_sA, if_pos rfl]
      unfold upd
      by_cases w : m = (pzat R k).mk
      · rw [if_pos w, if_pos w, w]
      · rw [if_neg w, if_neg w])
  rw [pzpre_s R k hk, pzar_e hPV (by omega), pzstk_e _ (by omega)] at this
  exact this
theorem F_over (hV : pzV R) (hk : k < R.length) (h0 : zgf u 57 0 = nI R.length) (hK : ∀ k, k < R.length → pzKi R u k) (hJ : pzJ R u n k w3 t) (hx : (pzat R k).sg = 9)
    (hs : ∀ w3' t', pzJ R u n (k + 1) w3' t' → zw (self (nI (pzar (pzpre R (k + 1))), nI (pzstk (pzpre R (k + 1))).length, w3', nI (k + 1), t')) Q) : zw (bX12_findMarks_9 N self (nI (pzar (pzpre R k)), nI (pzstk (pzpre R k)).length, w3, nI k, t)) Q := by
  have hPV := pzV_pre R k (Nat.le_of_lt hk) hV
  have hlen := pz_len hV
  have hok := pzV_at hV hk
  have hm10 := hok.1.2.1
  have hph : pzph (pzpre R k) ≠ 0 := fun y => by have := hok.2.1.1 y; omega
  obtain ⟨z0, z1, z2, z3, z4, z5, z6, z7⟩ := zkd2_c (pzat R k).sg (by omega)
  rw [(F_body hV hk h0 hK hJ _ _).2 (by omega), F_203 (fun w => by have := z4.1 w; omega) (fun w => by have := z5.1 w; omega)]
  obtain ⟨j1, j2, j3⟩ := hJ
  have r60 : zA u 60 k = nI (pzat R k).mk := (hK k hk).2.2.2.2.2.1 hx
  have elr : (if w3 < (0 : Int32) then (0 : Int32) else ((1 : Int32) <<< (w3 &&& 31))) = nI (pzlr (pzpre R k)) := by
    rw [j1 hph]
    cases e : pzpre R k with
    | nil => rfl
    | cons y P =>
      rw [e] at hPV
      rw [pzov, pzlr]
      by_cases z : y.sg = 9
      · have := hPV.2.1.2.1
        rw [if_pos z, if_pos z, if_neg (nI_nneg (by omega)), zn_shl (by omega)]
      · rw [if_neg z, if_neg z]; rfl
  unfold jX12_findMarks_j268 jX12_findMarks_j331
  dsimp only [zq_let]
  rw [if_pos (z7.2 hx), if_neg (show ¬ zkd2 (pzat R k).sg = 6 from fun w => by have := z6.1 w; omega), elr, zn_or, zck_nI (show k < 400 by omega) (by decide), zga_nI _ _ (by omega), j2.a 60 (by decide), r60]
  refine zw_call (mX12_setMark_w N hm10 _ _ _) ?_
  intro r s1 ⟨f1, g62, g67, g64⟩
  dsimp only at f1 g62 g67 g64 ⊢
  have e60 : zga s1 60 (nI k) = nI (pzat R k).mk := by rw [zga_nI _ _ (by omega), f1.a 60 (by decide), j2.a 60 (by decide), r60]
  rw [e60, zck_nI (show k < 400 by omega) (by decide), zck_nI hm10 (by decide), zck_nI (show k < 400 by omega) (by decide), zpa_eq, nI_clamp (by omega)]
  have e60' : zga (zsA s1 66 (upd (zA s1 66) (pzat R k).mk 1)) 60 (nI k) = nI (pzat R k).mk := e60
  rw [e60', nI_1]
  have := hs (nI (pzat R k).mk) (zsA s1 66 (upd (zA s1 66) (pzat R k).mk 1)) (by
    unfold pzJ
    rw [pzpre_s R k hk]
    refine ⟨fun y => ?_, (j2.tr (f1.mo (by decide) (by decide) (by decide))).tr (zfr_sA _ _ (by decide)), fun m hm => pzFm_over hx (pzns_9 hV k hk hx) (j3 m hm) ?_ ?_ ?_ ?_ ?_⟩
    · rw [pzov, if_pos hx]
    · rw [zA_ne _ (by decide), g64]
      by_cases w : m = (pzat R k).mk
      · rw [if_pos w, if_pos w, w]
      · rw [if_neg w, if_neg w]
    · rw [zA_ne _ (by decide), g62]
    · rw [zA_sA, if_pos rfl, f1.a 66 (by decide)]
      rfl
    · rw [zA_ne _ (by decide), g67]
    · rw [zA_ne _ (by decide), f1.a 68 (by decide)])
  rw [pzpre_s R k hk, pzar_e hPV (by omega), pzstk_e _ (by omega)] at this
  exact this
theorem F_close (hV : pzV R) (hk : k < R.length) (h0 : zgf u 57 0 = nI R.length) (hK : ∀ k, k < R.length → pzKi R u k) (hJ : pzJ R u n k w3 t) (hx : 4 ≤ (pzat R k).sg ∧ (pzat R k).sg ≤ 6)
    (hs : ∀ w3' t', pzJ R u n (k + 1) w3' t' → zw (self (nI (pzar (pzpre R (k + 1))), nI (pzstk (pzpre R (k + 1))).length, w3', nI (k + 1), t')) Q) : zw (bX12_findMarks_9 N self (nI (pzar (pzpre R k)), nI (pzstk (pzpre R k)).length, w3, nI k, t)) Q := by
  have hPV := pzV_pre R k (Nat.le_of_lt hk) hV
  have hlen := pz_len hV
  have hok := pzV_at hV hk
  have hm10 := hok.1.2.1
  obtain ⟨z0, z1, z2, z3, z4, z5, z6, z7⟩ := zkd2_c (pzat R k).sg (by omega)
  rw [(F_body hV hk h0 hK hJ _ _).2 (by omega)]
  obtain ⟨j1, j2, j3⟩ := hJ
  obtain ⟨q, l, e1, e2, e3, e4⟩ := hok.2.2.2.1 hx
  have hPl := pzpre_len R k (Nat.le_of_lt hk)
  rw [hPl] at e4
  have eq : pzat (pzpre R k) q = pzat R q := pzat_pre R k q (by omega) (Nat.le_of_lt hk)
  rw [eq] at e2 e3
  have r59 : zga t 59 (nI k) = nI ((pzat R k).sg - 3) := by rw [zga_nI _ _ (by omega), j2.a 59 (by decide)]; exact ((hK k hk).2.2.2.1 hx).1
  have r61 : zga t 61 (nI k) = nI q := by
    rw [zga_nI _ _ (by omega), j2.a 61 (by decide), ((hK k hk).2.2.2.1 hx).2, e1]; rfl
  have r59q : zga t 59 (nI q) = nI (pzat R k).mk := by
    rw [zga_nI _ _ (by omega), j2.a 59 (by decide), (hK q (by omega)).2.2.1 (Or.inl (by omega)), e3]
  have fin : ∀ a : Int32, a = nI (pzar (pzat R k :: pzpre R k)) → zw (jX12_findMarks_j246 N self a (nI (pzstk (pzpre R k)).length + -1) w3 (nI k) (zkd2 (pzat R k).sg) t) Q := by
    intro a ha
    unfold jX12_findMarks_j246
    rw [if_neg (fun w => by have := z5.1 w; omega), F_268 (fun w => by have := z6.1 w; omega) (fun w => by have := z7.1 w; omega), ha]
    have := hs w3 t (by
      unfold pzJ
      rw [pzpre_s R k hk]
      refine ⟨fun y => ?_, j2, fun m hm => pzFm_flat (by omega) (j3 m hm)⟩
      rw [pzph, if_neg (by omega), if_neg (by omega)] at y
      exact absurd rfl y)
    rw [pzpre_s R k hk, pzstk_c _ hx, e1, List.tail_cons] at this
    rw [e1, List.length_cons, pk_m1]
    exact this
  unfold jX12_findMarks_j203 jX12_findMarks_j241
  dsimp only [zq_let]
  rw [if_pos (z4.2 hx), zck_nI (show k < 400 by omega) (by decide), r59]
  by_cases y : (pzat R k).sg = 4
  · rw [if_pos (show nI ((pzat R k).sg - 3) = 1 by rw [y]; rfl), zck_nI (show k < 400 by omega) (by decide), r61, zck_nI (show q < 400 by omega) (by decide), r59q, zn_shl (by omega), zn_andnot]
    refine fin _ ?_
    rw [pzar_c hPV hx hok, if_pos y]
  · rw [if_neg (show ¬ nI ((pzat R k).sg - 3) = 1 by rw [show (1 : Int32) = nI 1 from rfl, nI_eq (by omega) (by decide)]; omega)]
    refine fin _ ?_
    rw [pzar_c hPV hx hok, if_neg y]
    exact Int32.and_neg_one
theorem F_open (hN : 5000 ≤ N) (hV : pzV R) (he : pzstk R = []) (hk : k < R.length) (h0 : zgf u 57 0 = nI R.length) (hK : ∀ k, k < R.length → pzKi R u k) (hJ : pzJ R u n k w3 t) (hx : 1 ≤ (pzat R k).sg ∧ (pzat R k).sg ≤ 3)
    (hs : ∀ w3' t', pzJ R u n (k + 1) w3' t' → zw (self (nI (pzar (pzpre R (k + 1))), nI (pzstk (pzpre R (k + 1))).length, w3', nI (k + 1), t')) Q) : zw (bX12_findMarks_9 N self (nI (pzar (pzpre R k)), nI (pzstk (pzpre R k)).length, w3, nI k, t)) Q := by
  have hPV := pzV_pre R k (Nat.le_of_lt hk) hV
  have hlen := pz_len hV
  have hok := pzV_at hV hk
  have hm10 := hok.1.2.1
  have hPl := pzpre_len R k (Nat.le_of_lt hk)
  obtain ⟨z0, z1, z2, z3, z4, z5, z6, z7⟩ := zkd2_c (pzat R k).sg (by omega)
  rw [(F_body hV hk h0 hK hJ _ _).1 hx]
  obtain ⟨j1, j2, j3⟩ := hJ
  obtain ⟨b1, b2, b3, b4, b5, b6, b7⟩ := hK k hk
  have b3 := b3 (Or.inl hx)
  have b5 := b5 hx
  have b7 := b7 (Or.inl hx)
  have hnot : k ∉ pzstk R := by rw [he]; exact List.not_mem_nil
  have hcw := (pz_cw hV k hk hx).2 hnot
  rcases pz_opn hV k hk hx with oo | oo
  · exact absurd oo hnot
  have hlk1 : k < pzlk R k := oo.2.1
  have hlk2 : pzlk R k < R.length := oo.2.2.1
  have hwc : pzwc R (k + 1) (pzlk R k - (k + 1)) = pzcw R k := by
    have := pzwc_eq (R := R) (a := k + 1) (pzlk R k - (k + 1)) (by omega)
    rw [show k + 1 + (pzlk R k - (k + 1)) = pzlk R k by omega] at this
    omega
  have hck : ∀ (c : Option (Unit × zq_S)), zq_ck (nI k) 400 c = c := fun c => zck_nI (show k < 400 by omega) (by decide) c
  have hcm : ∀ (c : Option (Unit × zq_S)), zq_ck (nI (pzat R k).mk) 10 c = c := fun c => zck_nI hm10 (by decide) c
  -- the end, where the marks are set
  have fin : ∀ t' : zq_S, zfr [] [62, 64, 66, 67, 68] [] u t' → (∀ m, m < 10 → pzFm R (pzat R k :: pzpre R k) n t' m) → zw (jX12_findMarks_j178 N self (nI (pzar (pzpre R k))) (nI (pzstk (pzpre R k)).length) w3 (nI k) (zkd2 (pzat R k).sg) t') Q := by
    intro t' ft hm'
    have nx := hs w3 t' (by
      unfold pzJ
      rw [pzpre_s R k hk]
      refine ⟨fun y => ?_, ft, hm'⟩
      rw [pzph, if_neg (by omega), if_neg (by omega)] at y
      exact absurd rfl y)
    rw [pzpre_s R k hk, pzar_o hPV hx, pzstk_o _ hx, List.length_cons] at nx
    have r59 : zga t' 59 (nI k) = nI (pzat R k).mk := by rw [zga_nI _ _ (by omega), ft.a 59 (by decide)]; exact b3
    unfold jX12_findMarks_j178 jX12_findMarks_j198
    dsimp only [zq_let]
    by_cases y : (pzat R k).sg = 1
    · rw [if_pos (z1.2 y), hck, r59, zn_shl (by omega), zn_or, nI_1, F_203 (fun w => by have := z4.1 w; omega) (fun w => by have := z5.1 w; omega), F_268 (fun w => by have := z6.1 w; omega) (fun w => by have := z7.1 w; omega)]
      rw [if_pos y] at nx
      exact nx
    · rw [if_neg (fun w => y (z1.1 w)), zn_or0, nI_1, F_203 (fun w => by have := z4.1 w; omega) (fun w => by have := z5.1 w; omega), F_268 (fun w => by have := z6.1 w; omega) (fun w => by have := z7.1 w; omega)]
      rw [if_neg y, Nat.or_zero] at nx
      exact nx
  have kd : (if zkd2 (pzat R k).sg = (1 : Int32) then (0 : Int32) else (if zkd2 (pzat R k).sg = (2 : Int32) then (1 : Int32) else (3 : Int32))) = (if (pzat R k).sg = 1 then 0 else if (pzat R k).sg = 2 then 1 else 3) := by
    rcases (show (pzat R k).sg = 1 ∨ (pzat R k).sg = 2 ∨ (pzat R k).sg = 3 by omega) with v | v | v <;> rw [v] <;> rfl
  unfold jX12_findMarks_j45
  dsimp only [zq_let]
  rw [kd, hck, zga_nI _ _ (by omega), j2.a 59 (by decide), b3]
  refine zw_call (mX12_setMark_w N hm10 _ _ _) ?_
  intro r s1 ⟨f1, g62, g67, g64⟩
  dsimp only at f1 g62 g67 g64 ⊢
  have r59 : zga s1 59 (nI k) = nI (pzat R k).mk := by rw [zga_nI _ _ (by omega), f1.a 59 (by decide), j2.a 59 (by decide)]; exact b3
  rw [hck, r59, hcm, zpa_eq, nI_clamp (by omega)]
  generalize hs5 : zsA s1 68 (upd (zA s1 68) (pzat R k).mk (nI k)) = s5
  have F5 : zfr [] [62, 64, 66, 67, 68] [] u s5 := by
    rw [← hs5]
    exact (j2.tr (f1.mo (by decide) (by decide) (by decide))).tr (zfr_sA _ _ (by decide))
  have A5 : ∀ a, a ≠ 68 → zA s5 a = zA s1 a := fun a ha => by rw [← hs5, zA_ne _ ha]
  have B5 : ∀ i, zA s5 68 i = if i = (pzat R k).mk then nI k else zA t 68 i := fun i => by
    rw [← hs5, zA_sA, if_pos rfl, f1.a 68 (by decide)]; rfl
  clear hs5
  have q61 : zga s5 61 (nI k) = nI (pzlk R k) := by rw [zga_nI _ _ (by omega), F5.a 61 (by decide)]; exact b7
  have q59 : zga s5 59 (nI k) = nI (pzat R k).mk := by rw [zga_nI _ _ (by omega), F5.a 59 (by decide)]; exact b3
  rw [hck, hck, nI_1, q61, mX12_wordsIn_eq N hN hV (fun j hj => by rw [F5.a 58 (by decide)]; exact (hK j hj).1) (by omega) (by omega), zb2_some, hwc]
  dsimp only
  rw [q59, hcm, zpa_eq, nI_clamp (by omega)]
  generalize hs8 : zsA s5 66 (upd (zA s5 66) (pzat R k).mk (nI (pzcw R k))) = s8
  have F8 : zfr [] [62, 64, 66, 67, 68] [] u s8 := by
    rw [← hs8]
    exact F5.tr (zfr_sA _ _ (by decide))
  have A8 : ∀ a, a ≠ 66 → zA s8 a = zA s5 a := fun a ha => by rw [← hs8, zA_ne _ ha]
  have B8 : ∀ i, zA s8 66 i = if i = (pzat R k).mk then nI (pzcw R k) else zA t 66 i := fun i => by
    rw [← hs8, zA_sA, if_pos rfl, A5 66 (by decide), f1.a 66 (by decide)]; rfl
  clear hs8
  have q60 : zga s8 60 (nI k) = (if (pzat R k).sd = 0 then -1 else nI ((pzat R k).sd - 1)) := by rw [zga_nI _ _ (by omega), F8.a 60 (by decide)]; exact b5
  have q59' : zga s8 59 (nI k) = nI (pzat R k).mk := by rw [zga_nI _ _ (by omega), F8.a 59 (by decide)]; exact b3
  have r62 : ∀ i, zA s8 62 i = if i = (pzat R k).mk then (if (pzat R k).sg = 1 then 0 else if (pzat R k).sg = 2 then 1 else 3) else zA t 62 i := fun i => by rw [A8 _ (by decide), A5 _ (by decide), g62]
  have r64 : ∀ i, zA s8 64 i = if i = (pzat R k).mk then zA t 64 (pzat R k).mk ||| nI (pzar (pzpre R k)) else zA t 64 i := fun i => by rw [A8 _ (by decide), A5 _ (by decide), g64]
  have r67 : ∀ i, zA s8 67 i = if i = (pzat R k).mk then nI (pzstk (pzpre R k)).length else zA t 67 i := fun i => by rw [A8 _ (by decide), A5 _ (by decide), g67]
  have r68 : ∀ i, zA s8 68 i = if i = (pzat R k).mk then nI k else zA t 68 i := fun i => by rw [A8 _ (by decide), B5]
  have nsx : ∀ m, pztl (pzat R k) m → pzns R m = pzcw R k := fun m hm => pzns_o hV k hk hx hm
  rw [hck, q60]
  by_cases sd0 : (pzat R k).sd = 0
  · rw [if_pos sd0, if_pos (by decide)]
    have tt : ∀ m, pztl (pzat R k) m ↔ m = (pzat R k).mk := by
      intro m
      constructor
      · rintro (w | w)
        · exact w.2.symm
        · omega
      · intro w; exact Or.inl ⟨Or.inl hx, w.symm⟩
    refine fin s8 F8 (fun m hm => pzFm_open hok hx (fun m' hm' => ?_) (j3 m hm) ?_ ?_ (fun y => ?_) ?_ ?_)
    · rw [B8, if_pos ((tt m').1 hm'), nsx m' hm']
    · rw [r64, if_neg (show ¬ (pzat R k).sd = m + 1 by omega)]
      by_cases w : m = (pzat R k).mk
      · rw [if_pos w, if_pos w, w]
      · rw [if_neg w, if_neg w]
    · rw [r62, if_neg (show ¬ (pzat R k).sd = m + 1 by omega)]
    · rw [B8, if_neg (fun w => y ((tt m).2 w))]
    · rw [r67]
      by_cases w : m = (pzat R k).mk
      · rw [if_pos w, if_pos ((tt m).2 w)]
      · rw [if_neg w, if_neg (fun v => w ((tt m).1 v))]
    · rw [r68, hPl]
  · have hd10 : (pzat R k).sd - 1 < 10 := by have := hok.1.2.2.2.1; omega
    have sg2 : (pzat R k).sg = 2 := Classical.byContradiction (fun z => sd0 (hok.1.2.2.2.2 z))
    have dne := ((hok.2.2.1 hx).2.2 sd0).1
    have tt : ∀ m, pztl (pzat R k) m ↔ (m = (pzat R k).mk ∨ m = (pzat R k).sd - 1) := by
      intro m
      constructor
      · rintro (w | w)
        · exact Or.inl w.2.symm
        · exact Or.inr (by omega)
      · rintro (w | w)
        · exact Or.inl ⟨Or.inl hx, w.symm⟩
        · exact Or.inr ⟨sg2, by omega⟩
    rw [if_neg sd0, if_neg (nI_nneg (by omega)), hck, hck, q59', zn_shl (by omega), zn_or]
    refine zw_call (mX12_setMark_w N hd10 _ _ _) ?_
    intro r' s9 ⟨f9, h62, h67, h64⟩
    dsimp only at f9 h62 h67 h64 ⊢
    have F9 : zfr [] [62, 64, 66, 67, 68] [] u s9 := F8.tr (f9.mo (by decide) (by decide) (by decide))
    have q59'' : zga s9 59 (nI k) = nI (pzat R k).mk := by rw [zga_nI _ _ (by omega), F9.a 59 (by decide)]; exact b3
    have q60'' : zga s9 60 (nI k) = nI ((pzat R k).sd - 1) := by rw [zga_nI _ _ (by omega), F9.a 60 (by decide), b5, if_neg sd0]
    rw [hck, hck, q59'', q60'', hcm, zck_nI hd10 (by decide), zpa_eq, nI_clamp (by omega), zga_nI _ _ (by omega), f9.a 66 (by decide), B8, if_pos rfl]
    generalize hs3 : zsA s9 66 (upd (zA s8 66) ((pzat R k).sd - 1) (nI (pzcw R k))) = s3
    have F3 : zfr [] [62, 64, 66, 67, 68] [] u s3 := by
      rw [← hs3]
      exact F9.tr (zfr_sA _ _ (by decide))
    have A3 : ∀ a, a ≠ 66 → zA s3 a = zA s9 a := fun a ha => by rw [← hs3, zA_ne _ ha]
    have B3 : ∀ i, zA s3 66 i = if i = (pzat R k).sd - 1 then nI (pzcw R k) else zA s8 66 i := fun i => by
      rw [← hs3, zA_sA, if_pos rfl]; rfl
    clear hs3
    refine fin s3 F3 (fun m hm => pzFm_open hok hx (fun m' hm' => ?_) (j3 m hm) ?_ ?_ (fun y => ?_) ?_ ?_)
    · rw [B3, nsx m' hm']
      by_cases w : m' = (pzat R k).sd - 1
      · rw [if_pos w]
      · rw [if_neg w, B8, if_pos (((tt m').1 hm').elim id (fun v => absurd v w))]
    · rw [A3 _ (by decide), h64]
      by_cases w : m = (pzat R k).sd - 1
      · rw [if_pos w, if_pos (show (pzat R k).sd = m + 1 by omega), r64, if_neg (by omega), w]
      · rw [if_neg w, if_neg (show ¬ (pzat R k).sd = m + 1 by omega), r64]
        by_cases v : m = (pzat R k).mk
        · rw [if_pos v, if_pos v, v]
        · rw [if_neg v, if_neg v]
    · rw [A3 _ (by decide), h62]
      by_cases w : m = (pzat R k).sd - 1
      · rw [if_pos w, if_pos (show (pzat R k).sd = m + 1 by omega)]
      · rw [if_neg w, if_neg (show ¬ (pzat R k).sd = m + 1 by omega), r62]
    · rw [B3, if_neg (fun w => y ((tt m).2 (Or.inr w))), B8, if_neg (fun w => y ((tt m).2 (Or.inl w)))]
    · rw [A3 _ (by decide), h67]
      by_cases w : m = (pzat R k).sd - 1
      · rw [if_pos w, if_pos ((tt m).2 (Or.inr w))]
      · rw [if_neg w, r67]
        by_cases v : m = (pzat R k).mk
        · rw [if_pos v, if_pos ((tt m).2 (Or.inl v))]
        · rw [if_neg v, if_neg (fun z => ((tt m).1 z).elim v w)]
    · rw [A3 _ (by decide), f9.a 68 (by decide), r68, hPl]
end
theorem mX12_findMarks_w (N : Nat) (hN : 5000 ≤ N) {R : List zIt} {u : zq_S} {n : Nat} (hV : pzV R) (he : pzstk R = []) (h0 : zgf u 57 0 = nI R.length) (hK : ∀ k, k < R.length → pzKi R u k) (h64 : ∀ m, m < n → zA u 64 m = 0) :
    zw (mX12_findMarks N u) (fun v => zfr [] [62, 64, 66, 67, 68] [] u v.2 ∧ ∀ m, m < 10 → pzFm R R n v.2 m) := by
  have hlen := pz_len hV
  unfold mX12_findMarks
  refine zw_cnt R.length (fun k v => ∃ w3 t, v = (nI (pzar (pzpre R k)), nI (pzstk (pzpre R k)).length, w3, nI k, t) ∧ pzJ R u n k w3 t) ?_ ?_ N 0 _ (Nat.zero_le _) (by omega) ⟨-1, u, ?_, ?_, zfr_rfl, fun m hm => ?_⟩
  · rintro self v ⟨w3, t, rfl, j1, j2, j3⟩
    dsimp only [bX12_findMarks_9]
    rw [j2.f 57 0 List.not_mem_nil, h0, if_pos (nI_le (Nat.le_refl _) (by omega))]
    rw [pzpre_all] at j3
    exact zw_some.2 ⟨j2, j3⟩
  · rintro self k v hk ⟨w3, t, rfl, hJ⟩ hself
    have hs : ∀ w3' t', pzJ R u n (k + 1) w3' t' → zw (self (nI (pzar (pzpre R (k + 1))), nI (pzstk (pzpre R (k + 1))).length, w3', nI (k + 1), t')) _ := fun w3' t' h' => hself _ ⟨w3', t', rfl, h'⟩
    have hg := (pzV_at hV hk).1.1
    by_cases a1 : 1 ≤ (pzat R k).sg ∧ (pzat R k).sg ≤ 3
    · exact F_open hN hV he hk h0 hK hJ a1 hs
    by_cases a2 : 4 ≤ (pzat R k).sg ∧ (pzat R k).sg ≤ 6
    · exact F_close hV hk h0 hK hJ a2 hs
    by_cases a3 : (pzat R k).sg = 7
    · exact F_star hV hk h0 hK hJ a3 hs
    by_cases a4 : (pzat R k).sg = 8
    · exact F_row hV hk h0 hK hJ a4 hs
    by_cases a5 : (pzat R k).sg = 9
    · exact F_over hV hk h0 hK hJ a5 hs
    exact F_flat hV hk h0 hK hJ (by omega) hs
  · rw [pzpre_0]; rfl
  · intro y; rw [pzpre_0] at y; exact absurd rfl y
  · rw [pzpre_0]
    refine ⟨fun h' => h64 m h', fun y => ?_, fun y => ?_⟩
    · rw [pzmk, Nat.zero_testBit] at y; cases y
    · rw [pzmv, Nat.zero_testBit] at y; cases y
