/-! the reference: rows -/
/-- the end of the text's blanks: only the place moves -/
theorem pzCM_at {h : List Nat} {R : List zIt} {p q : Nat} {s : zq_S} (hs : pzCM h R p s) : pzCM h R q (zpf s 57 18 (nI q)) := by
  obtain ⟨c1, c2, c3, c4, c5, c6, c7, c8, c9, c10, c11, c12, c13⟩ := hs
  have f : zfr [(57, 18)] [] [] s (zpf s 57 18 (nI q)) := zfr_pf _ _ _ (by decide)
  exact ⟨zHM_fr c1 f (by decide) (by decide), c2, rfl, c4, c5, c6, c7, c8, c9, c10, c11, pzMs_eq (s := s) _ (fun _ _ => rfl) c12, pzMa_fr c13 f (by decide) (by decide) (by decide) (by decide) (by decide)⟩
/-- an item with a word that is not plain: a row's open or one of its marks -/
theorem pzCM_row {h : List Nat} {R : List zIt} {s t u : zq_S} {q e : Nat} {x : zIt} {a b c d : Int32} (hV : pzV R) (hs : pzCM h R q s) (fr : zfr [(57, 17), (57, 18), (57, 19), (57, 20), (57, 27), (57, 28)] [] [] s t) (f2 : zfr [(57, 21)] [71, 72, 73, 74, 75] [] t u) (g1 : zgf u 57 21 = nI (R.length + 1)) (g2 : pzrw5 u R.length a b c (-1) d) (g3 : ∀ k, k ≠ R.length → pzrw5 u k (zA t 71 k) (zA t 72 k) (zA t 73 k) (zA t 74 k) (zA t 75 k))
    (hx : x.sg = 8 ∨ x.sg = 9) (hok : pzok R x) (t17 : zgf t 57 17 = -1) (t18 : zgf t 57 18 = nI e) (t27 : zgf t 57 27 = nI (pzwn R + 1)) (t28 : zgf t 57 28 = nI (pzmk (x :: R))) (ea : a = zkd2 x.sg) (eb : b = nI x.wd) (ec : x.sg = 9 → c = nI x.mk) : pzCM h (x :: R) e u := by
  obtain ⟨c1, c2, c3, c4, c5, c6, c7, c8, c9, c10, c11, c12, c13⟩ := hs
  have gf : ∀ j, j ≠ 21 → zgf u 57 j = zgf t 57 j := fun j hj => by rw [f2.f 57 j (by intro y; simp only [List.mem_cons, Prod.mk.injEq, List.not_mem_nil, or_false] at y; omega)]
  refine ⟨zHM_fr (zHM_fr c1 fr (by decide) (by decide)) f2 (by decide) (by decide), ?_, ?_, g1, ?_, ?_, ?_, ?_, ?_, ?_, fun y => ?_, ?_, ?_⟩
  · rw [gf 17 (by decide)]; exact t17
  · rw [gf 18 (by decide)]; exact t18
  · rw [gf 27 (by decide), pzwn_y R (by omega)]; exact t27
  · rw [gf 28 (by decide)]; exact t28
  · rw [gf 29 (by decide), fr.f 57 29 (by decide), pzmv_n R (by omega)]; exact c7
  · rw [gf 30 (by decide), fr.f 57 30 (by decide), pzsr_n R (by omega)]; exact c8
  · rw [gf 31 (by decide), fr.f 57 31 (by decide), pzstk_e R (by omega)]; exact c9
  · rw [gf 33 (by decide), fr.f 57 33 (by decide), pz3_e hV (by omega)]; exact c10
  · rw [pzph] at y
    rcases hx with w | w
    · rw [if_pos w] at y; cases y
    · rw [if_neg (by omega), if_pos w] at y; cases y
  · rw [pzstk_e R (by omega)]
    exact pzMs_eq _ (fun d _ => by rw [f2.a 76 (by decide), fr.a 76 (by decide)]) c12
  · exact pzMa_flat (t := u) (pzMa_fr c13 fr (by decide) (by decide) (by decide) (by decide) (by decide)) ⟨hV, hok⟩ (by omega) (by omega) g2 g3 ea (fun _ => eb) (fun y => by omega) (fun y => by omega) ec (fun y => by omega)
theorem pzS_le (h : List Nat) (R : List zIt) (q : Nat) : (pzS h R q).1.1 ≤ 5 := by
  have e : ∀ c p, (pzFl c p).1.1 = c := fun _ _ => rfl
  have hO : ∀ k, (pzO h R q k).1.1 ≤ 5 := by
    intro k
    have hc : ∀ k v sd q e, (pzcol h k v sd q e).1.1 ≤ 5 := by
      intro k v sd q e'
      unfold pzcol
      split
      · exact Nat.zero_le _
      · rw [e]; omega
    unfold pzO
    split
    · rw [e]; omega
    · split
      · split
        · split
          · exact hc _ _ _ _ _
          · rw [e]; have := pzMc_le h (pzmk R ||| 2 ^ pzv h (q + 1)) (zskp h (pze h (q + 1)) + 1); omega
        · exact hc _ _ _ _ _
      · rw [e]; have := pzMc_le h (pzmk R) (q + 1); omega
  have hC : ∀ k, (pzC R q k).1.1 ≤ 5 := by
    intro k
    unfold pzC
    split
    · exact Nat.zero_le _
    · rw [e]; omega
  have hW : ∀ k p, (pzWd h R k q p).1.1 ≤ 5 := by
    intro k p
    unfold pzWd
    split
    · exact Nat.zero_le _
    · rw [e]; have := pzWc_le h R p; omega
  unfold pzS
  by_cases h0 : pzph R = 0
  · rw [if_pos h0]
    by_cases z1 : zgt h q = 123
    · rw [if_pos z1]; exact hO 1
    rw [if_neg z1]
    by_cases z2 : zgt h q = 91
    · rw [if_pos z2]; exact hO 2
    rw [if_neg z2]
    by_cases z3 : zgt h q = 60
    · rw [if_pos z3]; exact hO 3
    rw [if_neg z3]
    by_cases z4 : zgt h q = 125
    · rw [if_pos z4]; exact hC 1
    rw [if_neg z4]
    by_cases z5 : zgt h q = 93
    · rw [if_pos z5]; exact hC 2
    rw [if_neg z5]
    by_cases z6 : zgt h q = 62
    · rw [if_pos z6]; exact hC 3
    rw [if_neg z6]
    by_cases z7 : zgt h q = 42
    · rw [if_pos z7]
      unfold pzA
      split
      · rw [e]; omega
      · split
        · split
          · rw [e]; omega
          · exact Nat.zero_le _
        · rw [e]; have := pzNc_le h (q + 1) 9; omega
    rw [if_neg z7]
    by_cases z8 : zgt h q = 40
    · rw [if_pos z8]; exact hW _ _
    rw [if_neg z8]
    exact hW _ _
  · rw [if_neg h0]
    by_cases z1 : zgt h q = 47
    · rw [if_pos z1]
      unfold pzL
      split
      · split
        · exact Nat.zero_le _
        · rw [e]; have := pzWc_le h R (pze h (q + 1)); omega
      · rw [e]; have := pzMc_le h (pzmk R) (q + 1); omega
    rw [if_neg z1]
    split
    · exact Nat.zero_le _
    · rw [e]; omega
/-- what reading on from (R, p) comes to -/
def pzQ (h : List Nat) (R : List zIt) (p : Nat) (s : zq_S) (v : Int32 × zq_S) : Prop :=
  pzFM s v.2 ∧ ((v.1 = 0 ∧ ∃ R' p', p < p' ∧ pzph R' = 0 ∧ pzI h R' p' ∧ pzCM h R' p' v.2 ∧ pzG h R p = pzG h R' p') ∨ (∃ c q R', c ≠ 0 ∧ c ≤ 5 ∧ v.1 = nI c ∧ zgf v.2 57 17 = nI q ∧ pzG h R p = (c, q, R')))
theorem pzQ1_Q {h : List Nat} {R : List zIt} {p : Nat} {s : zq_S} {v : Int32 × zq_S} (hI : pzI h R p) (hq : zskp h p < h.length) (hh : pzQ1 h R (pzS h R (zskp h p)) s v) (hp : (pzS h R (zskp h p)).1.1 = 0 → pzph ((pzS h R (zskp h p)).2.1 :: R) = 0) : pzQ h R p s v := by
  obtain ⟨a, b, c, d⟩ := hh
  refine ⟨a, ?_⟩
  by_cases z : (pzS h R (zskp h p)).1.1 = 0
  · left
    obtain ⟨i1, i2⟩ := pzS_ok hI hq z
    have := (pzsk h hI.2.1.2.1).1
    exact ⟨by rw [b, z]; rfl, _, _, by omega, hp z, i1, c z, pzG_next hI hq z⟩
  · right
    exact ⟨_, _, _, z, pzS_le h R _, b, d z, pzG_bad hI hq z⟩
theorem pzmk_9 {x : zIt} (R : List zIt) (h : x.sg = 9) : pzmk (x :: R) = pzmk R ||| 2 ^ x.mk := by
  rw [pzmk, if_pos (Or.inr h), if_neg (by omega), Nat.or_zero]
theorem pzok_9 {R : List zIt} {m v q : Nat} (h0 : pzph R ≠ 0) (hm : m < 10) (hv : v < 100) (hf : (pzmk R).testBit m = false) (hw : pzwn R < 40) : pzok R (9, m, v, 0, q) := by
  unfold pzok
  rw [(pz_sgN 9 m v 0 q).1, (pz_sgN 9 m v 0 q).2.1, (pz_sgN 9 m v 0 q).2.2.1, (pz_sgN 9 m v 0 q).2.2.2.1]
  exact ⟨⟨by omega, hm, hv, by omega, fun _ => rfl⟩, ⟨fun y => absurd y h0, fun _ => rfl, fun _ => Or.inl rfl⟩, fun y => by omega, fun y => by omega, fun y => by omega, fun _ => hf, fun _ => hw⟩
theorem pzok_10 {R : List zIt} {q : Nat} (h0 : pzph R = 2) : pzok R (10, 0, 0, 0, q) := by
  unfold pzok
  rw [(pz_sgN 10 0 0 0 q).1, (pz_sgN 10 0 0 0 q).2.1, (pz_sgN 10 0 0 0 q).2.2.1, (pz_sgN 10 0 0 0 q).2.2.2.1]
  exact ⟨⟨by omega, by omega, by omega, by omega, fun _ => rfl⟩, ⟨fun y => by omega, fun y => by omega, fun _ => Or.inr rfl⟩, fun y => by omega, fun y => by omega, fun y => by omega, fun y => by omega, fun y => by omega⟩
/-- a mark of a row -/
theorem mX12_slash_w (N : Nat) (hN : 5000 ≤ N) {h : List Nat} {R : List zIt} {s : zq_S} {q : Nat} (hV : pzV R) (h0 : pzph R ≠ 0) (hq : q < h.length) (hs : pzCM h R q s) {f1 : Int32} {k81 k179 self} {w3 w5 : Int32} {Q : Int32 × zq_S → Prop}
    (hg : ∀ t, pzFM s t → (pzL h R q).1.1 = 0 → pzCM h ((pzL h R q).2.1 :: R) (pzL h R q).2.2 t → zw (self (nI q, 0, 1, 1, t)) Q) (hb : ∀ t, pzFM s t → (pzL h R q).1.1 ≠ 0 → zgf t 57 17 = nI (pzL h R q).1.2 → zw (self (nI q, nI (pzL h R q).1.1, 0, 1, t)) Q) :
    zw (jX12_takeRow_j91 N f1 k81 k179 self w3 w5 47 s) Q := by
  have hs' := hs
  obtain ⟨c1, c2, c3, c4, c5, c6, c7, c8, c9, c10, c11, c12, c13⟩ := hs
  have hlen := pz_len hV
  have hmk := pzmk_lt hV
  unfold jX12_takeRow_j91
  dsimp only [zq_let]
  rw [if_pos rfl, if_neg (show ¬ (1 : Int32) = 0 by decide), c3, nI_1]
  have f0 : zfr [(57, 17), (57, 18), (57, 19), (57, 20), (57, 28)] [] [] s (zpf s 57 18 (nI (q + 1))) := zfr_pf _ _ _ (by decide)
  refine zw_call (mX12_takeMark_w N hN (zHM_fr c1 f0 (by decide) (by decide)) (p := q + 1) (K := pzmk R) hq rfl c6 hmk) ?_
  intro r t ⟨h1, fr, h2, h3⟩
  dsimp only at h1 fr h2 h3 ⊢
  subst h1
  have f1 : zfr [(57, 17), (57, 18), (57, 19), (57, 20), (57, 27), (57, 28)] [] [] s t := (f0.tr fr).mo (by decide) (by decide) (by decide)
  have hle := pzMc_le h (pzmk R) (q + 1)
  have ht := zHM_fr c1 f1 (by decide) (by decide)
  have t21 : zgf t 57 21 = nI R.length := by rw [f1.f 57 21 (by decide)]; exact c4
  unfold jX12_takeRow_j148 jX12_takeRow_j176
  dsimp only [zq_let]
  unfold pzL at hg hb
  by_cases z : pzMc h (pzmk R) (q + 1) = 0
  · obtain ⟨a1, a2, a3, a4⟩ := h2 z
    obtain ⟨m1, m2⟩ := pzM_ok z
    obtain ⟨_, n2, n3, _, hv, _⟩ := pzN_ok (p := q + 1) hq m1 (by decide)
    rw [if_pos z] at hg hb
    rw [if_pos (by rw [z]; decide), a3]
    refine zw_call (mX12_takeWord_w N hN ht (p := pze h (q + 1)) (R := R) n2 a2 (by rw [(f0.tr fr).f 57 27 (by decide)]; exact c5) (pz_wn hV)) ?_
    intro r' u ⟨h1', fr', h2', h3'⟩
    dsimp only at h1' fr' h2' h3' ⊢
    subst h1'
    have f2 : zfr [(57, 17), (57, 18), (57, 19), (57, 20), (57, 27), (57, 28)] [] [] s u := f1.tr (fr'.mo (by decide) (by decide) (by decide))
    have u21 : zgf u 57 21 = nI R.length := by rw [f2.f 57 21 (by decide)]; exact c4
    refine zw_call (mX12_addSign_w N u21 (by omega) _ _ _ _) ?_
    intro r2 w ⟨f3, g1, g2, g3⟩
    dsimp only at f3 g1 g2 g3 ⊢
    have F : pzFM s w := (f2.mo (by decide) (by decide) (by decide)).tr (f3.mo (by decide) (by decide) (by decide))
    have hle' := pzWc_le h R (pze h (q + 1))
    by_cases y : pzWc h R (pze h (q + 1)) = 0
    · obtain ⟨b1, b2, b3, b4, b5⟩ := h2' y
      obtain ⟨o1, o2⟩ := pzW_ok hV y
      obtain ⟨_, _, _, _, ov, _⟩ := pzN_ok n2 o1 (by decide)
      rw [if_pos y] at hg
      rw [y, if_pos (show nI 0 = (0 : Int32) from rfl)]
      refine hg w F rfl ?_
      refine pzCM_row (x := (9, pzv h (q + 1), pzv h (pze h (q + 1)), 0, q)) hV hs' f2 f3 g1 g2 g3 (Or.inr rfl) (pzok_9 h0 (by omega) (by omega) m2 o2) ?_ b2 b4 ?_ rfl b3 (fun _ => rfl)
      · rw [b1, a1]; exact c2
      · rw [fr'.f 57 28 (by decide), a4]; exact congrArg nI (pzmk_9 (x := (9, pzv h (q + 1), pzv h (pze h (q + 1)), 0, q)) R rfl).symm
    · rw [if_neg y] at hb
      rw [if_neg (by rw [show (0 : Int32) = nI 0 from rfl, nI_eq (by omega) (by decide)]; exact y)]
      refine hb w F y ?_
      rw [f3.f 57 17 (by decide)]; exact h3' y
  · rw [if_neg z] at hb
    rw [if_neg (by rw [show (0 : Int32) = nI 0 from rfl, nI_leI (by omega) (by decide)]; omega)]
    refine zw_call (mX12_addSign_w N t21 (by omega) _ _ _ _) ?_
    intro r2 w ⟨f3, g1, g2, g3⟩
    dsimp only at f3 g1 g2 g3 ⊢
    have F : pzFM s w := (f1.mo (by decide) (by decide) (by decide)).tr (f3.mo (by decide) (by decide) (by decide))
    rw [if_neg (by rw [show (0 : Int32) = nI 0 from rfl, nI_eq (by omega) (by decide)]; exact z)]
    refine hb w F z ?_
    rw [f3.f 57 17 (by decide)]; exact h3 z

theorem pzS_row {h : List Nat} {R : List zIt} {q : Nat} (h0 : pzph R ≠ 0) : pzS h R q = if zgt h q = 47 then pzL h R q else if zgt h q = 41 ∧ pzph R = 2 then ((0, q), ((10, 0, 0, 0, q), q + 1)) else pzFl 1 q := by
  unfold pzS
  rw [if_neg h0]
theorem pzL_9 {h : List Nat} {R : List zIt} {q : Nat} (hc : (pzL h R q).1.1 = 0) : (pzL h R q).2.1.sg = 9 := by
  unfold pzL at hc ⊢
  by_cases z : pzMc h (pzmk R) (q + 1) = 0
  · rw [if_pos z] at hc ⊢
    by_cases y : pzWc h R (pze h (q + 1)) = 0
    · rw [if_pos y]; rfl
    · rw [if_neg y] at hc; exact absurd hc y
  · rw [if_neg z] at hc; exact absurd hc z
/-- the end of a row -/
theorem mX12_rowend (N : Nat) {h : List Nat} {R : List zIt} {s : zq_S} {q n : Nat} {w : Int32} (hV : pzV R) (h2 : pzph R = 2) (hn : pzrw R = n) (hs : pzCM h R (q + 1) s) :
    zw (zq_ck (nI n) 400 (zq_let (zpa s 74 (nI n) (zgf s 57 21)) (fun s26 => zq_b2 (mX12_addSign N (8 : Int32) (0 : Int32) (0 : Int32) w s26) (fun r27 s28 => zq_let (zpf s28 57 34 (0 : Int32)) (fun s29 => some ((0 : Int32), s29)))))) (fun v => pzFM s v.2 ∧ v.1 = 0 ∧ pzCM h ((10, 0, 0, 0, q) :: R) (q + 1) v.2) := by
  obtain ⟨c1, c2, c3, c4, c5, c6, c7, c8, c9, c10, c11, c12, c13⟩ := hs
  have hlen := pz_len hV
  have hrw := pzrw_ok hV (show pzph R ≠ 0 by omega)
  rw [zck_nI (by omega) (by decide)]
  dsimp only [zq_let]
  rw [c4]
  have f5 : zfr [] [74] [] s (zpa s 74 (nI n) (nI R.length)) := by rw [zpa_eq]; exact zfr_sA _ _ (by decide)
  have a5 : ∀ k', zA (zpa s 74 (nI n) (nI R.length)) 74 k' = if k' = n then nI R.length else zA s 74 k' := by
    intro k'
    rw [zpa_eq, zA_sA, if_pos rfl, nI_clamp (by omega)]
    rfl
  generalize zpa s 74 (nI n) (nI R.length) = s5 at f5 a5 ⊢
  refine zw_call (mX12_addSign_w N (n := R.length) ?_ (by omega) _ _ _ _) ?_
  · rw [f5.f 57 21 List.not_mem_nil]; exact c4
  · intro r2 u ⟨f2, g1, g2, g3⟩
    dsimp only at f2 g1 g2 g3 ⊢
    have F : pzFM s (zpf u 57 34 0) := ((f5.mo (by decide) (by decide) (by decide)).tr (f2.mo (by decide) (by decide) (by decide))).tr (zfr_pf _ _ _ (by decide))
    have gf : ∀ j, j ≠ 34 → j ≠ 21 → zgf (zpf u 57 34 0) 57 j = zgf s 57 j := fun j hj hj2 => by rw [zgf_pf, if_neg (by omega), f2.f 57 j (by intro y; simp only [List.mem_cons, Prod.mk.injEq, List.not_mem_nil, or_false] at y; omega), f5.f 57 j List.not_mem_nil]
    have CM : ∀ x : zIt, x.sg = 10 → pzok R x → pzCM h (x :: R) (q + 1) (zpf u 57 34 0) := by
      intro x x1 hok
      refine ⟨zHM_fr c1 F (by decide) (by decide), ?_, ?_, ?_, ?_, ?_, ?_, ?_, ?_, ?_, fun _ => ?_, ?_, ?_⟩
      · rw [gf 17 (by decide) (by decide)]; exact c2
      · rw [gf 18 (by decide) (by decide)]; exact c3
      · rw [zgf_pf, if_neg (by decide)]; exact g1
      · rw [gf 27 (by decide) (by decide), pzwn_n R (by omega)]; exact c5
      · rw [gf 28 (by decide) (by decide), pzmk_n R (by omega)]; exact c6
      · rw [gf 29 (by decide) (by decide), pzmv_n R (by omega)]; exact c7
      · rw [gf 30 (by decide) (by decide), pzsr_n R (by omega)]; exact c8
      · rw [gf 31 (by decide) (by decide), pzstk_e R (by omega)]; exact c9
      · rw [gf 33 (by decide) (by decide), pz3_e hV (by omega)]; exact c10
      · rw [pznn, if_neg (by omega)]; rfl
      · rw [pzstk_e R (by omega)]
        exact pzMs_eq _ (fun d _ => by rw [zA_pf, f2.a 76 (by decide), f5.a 76 (by decide)]) c12
      · refine pzMa_cons c13 ⟨hV, hok⟩ (fun k' hk' => ?_) ?_
        · obtain ⟨k1, k2, k3, k4, k5⟩ := g3 k' (by omega)
          refine ⟨?_, ?_, ?_, ?_, ?_⟩
          · rw [zA_pf, k1, f5.a 71 (by decide)]
          · rw [zA_pf, k2, f5.a 72 (by decide)]
          · rw [zA_pf, k3, f5.a 73 (by decide)]
          · rw [zA_pf, k5, f5.a 75 (by decide)]
          · rw [zA_pf, k4, a5]
            by_cases y : k' = n
            · rw [if_pos y, if_pos (Or.inr ⟨x1, by omega⟩)]
            · rw [if_neg y, if_neg]
              rintro (v | v)
              · omega
              · omega
        · obtain ⟨k1, k2, k3, k4, k5⟩ := g2
          unfold pzMi
          rw [pzat_new, zA_pf, k1]
          refine ⟨by rw [x1]; rfl, fun y => by omega, fun y => by omega, fun y => by omega, fun y => by omega, fun y => by omega, fun y => by omega, fun y => by omega, fun y => by omega⟩
    exact zw_some.2 ⟨F, rfl, CM _ rfl (pzok_10 h2)⟩
/-- the loop of a row -/
theorem mX12_rowloop (N : Nat) (hN : 5000 ≤ N) {h : List Nat} {n : Nat} {R0 : List zIt} {p0 : Nat} {s0 : zq_S} : ∀ d R p s M (w2 : Int32), h.length - p < d → d + 1 < M → pzI h R p → pzph R ≠ 0 → pzrw R = n → pzCM h R p s → p0 < p → pzFM s0 s → pzG h R0 p0 = pzG h R p →
    zw (zq_loop (bX12_takeRow_51 N (nI n) (fun e22 => jX12_takeRow_j81 N e22) (fun e25 =>
      if e25.2.1 ≤ (0 : Int32) then
      zq_ck (nI n) 400 (
      zq_let (zpa e25.2.2 74 (nI n) (zgf e25.2.2 57 21)) (fun s26 =>
      zq_b2 (mX12_addSign N (8 : Int32) (0 : Int32) (0 : Int32) e25.1 s26) (fun r27 s28 =>
      zq_let (zpf s28 57 34 (0 : Int32)) (fun s29 =>
      some ((0 : Int32), s29)))))
      else
      some (e25.2.1, e25.2.2))) M (w2, 0, 1, (if pzph R = 2 then 1 else 0), s)) (pzQ h R0 p0 s0) := by
  intro d
  induction d with
  | zero => intro R p s M w2 hd; omega
  | succ d ih =>
    intro R p s M w2 hd hM hI h0 hr hs hp hF hG
    obtain ⟨M, rfl⟩ : ∃ M', M = M' + 1 := ⟨M - 1, by omega⟩
    have hpl := hI.2.1.2.1
    have hs2 := pzCM_at (q := zskp h p) hs
    have F2 : pzFM s0 (zpf s 57 18 (nI (zskp h p))) := hF.tr (zfr_pf _ _ _ (by decide))
    obtain ⟨k1, k2, _⟩ := pzsk h hpl
    rw [zq_loop_s]
    dsimp only [bX12_takeRow_51]
    rw [if_neg (show ¬ (1 : Int32) = 0 by decide), mX12_here_eq N hN hs.1 hpl hs.2.2.1, zb2_some]
    dsimp only
    have out : ∀ R', pzG h R p = (1, zskp h p, R') → zw (jX12_takeRow_j81 N (zpf s 57 18 (nI (zskp h p)))) (pzQ h R0 p0 s0) := by
      intro R' hR
      unfold jX12_takeRow_j81 mX12_fails
      dsimp only [zq_let]
      rw [zb2_some]
      refine zw_some.2 ⟨F2.tr (zfr_pf _ _ _ (by decide)), Or.inr ⟨1, zskp h p, R', by decide, by decide, rfl, rfl, ?_⟩⟩
      rw [hG]; exact hR
    have is47 := zhr_is hs.1.2.2.2 (e := p) (c := 47) (by decide) (by decide)
    have is41 := zhr_is hs.1.2.2.2 (e := p) (c := 41) (by decide) (by decide)
    by_cases e : zskp h p < h.length
    · have hSr := pzS_row (h := h) (q := zskp h p) h0
      by_cases z47 : zgt h (zskp h p) = 47
      · rw [if_pos z47] at hSr
        have e47 : zhr h p = 47 := is47.2 z47
        rw [e47, if_pos rfl]
        refine mX12_slash_w N hN hI.1 h0 e hs2 ?_ ?_
        · intro t ft hc hcm
          rw [← hSr] at hc hcm
          obtain ⟨i1, i2⟩ := pzS_ok hI e hc
          have h9 : (pzS h R (zskp h p)).2.1.sg = 9 := by rw [hSr] at hc ⊢; exact pzL_9 hc
          have hph : pzph ((pzS h R (zskp h p)).2.1 :: R) = 2 := by rw [pzph, if_neg (by omega), if_pos h9]
          have := ih ((pzS h R (zskp h p)).2.1 :: R) (pzS h R (zskp h p)).2.2 t M (nI (zskp h p)) (by have := i1.2.1.2.1; omega) (by omega) i1 (by omega) (by rw [pzrw, if_neg (by omega)]; exact hr) hcm (by omega) (F2.tr ft) (hG.trans (pzG_next hI e hc))
          rw [if_pos hph] at this
          exact this
        · intro t ft hc t17
          rw [← hSr] at hc t17
          have hle := pzS_le h R (zskp h p)
          obtain ⟨M, rfl⟩ : ∃ M', M = M' + 1 := ⟨M - 1, by omega⟩
          rw [← hSr, zq_loop_s]
          dsimp only [bX12_takeRow_51]
          rw [if_pos rfl, if_neg (by rw [show (0 : Int32) = nI 0 from rfl, nI_leI (by omega) (by decide)]; omega)]
          exact zw_some.2 ⟨F2.tr ft, Or.inr ⟨_, _, _, hc, hle, rfl, t17, hG.trans (pzG_bad hI e hc)⟩⟩
      · rw [if_neg z47] at hSr
        rw [if_neg (show ¬ zhr h p = 47 from fun y => z47 (is47.1 y))]
        by_cases z41 : zgt h (zskp h p) = 41
        · have e41 : zhr h p = 41 := is41.2 z41
          rw [e41, if_pos rfl]
          by_cases p2 : pzph R = 2
          · rw [if_pos ⟨z41, p2⟩] at hSr
            rw [if_pos p2, if_neg (show ¬ (1 : Int32) = 0 by decide)]
            unfold jX12_takeRow_j91 jX12_takeRow_j176
            dsimp only [zq_let]
            rw [if_neg (show ¬ (41 : Int32) = 47 by decide), if_pos rfl, show zgf (zpf s 57 18 (nI (zskp h p))) 57 18 = nI (zskp h p) from rfl, nI_1, zpf_pf]
            obtain ⟨M, rfl⟩ : ∃ M', M = M' + 1 := ⟨M - 1, by omega⟩
            rw [zq_loop_s]
            dsimp only [bX12_takeRow_51]
            rw [if_pos rfl, if_pos (show (0 : Int32) ≤ 0 by decide)]
            refine zw_mono (mX12_rowend N (q := zskp h p) hI.1 p2 hr (pzCM_at hs)) ?_
            intro v ⟨v1, v2, v3⟩
            have hc : (pzS h R (zskp h p)).1.1 = 0 := by rw [hSr]
            obtain ⟨i1, i2⟩ := pzS_ok hI e hc
            have hG2 := hG.trans (pzG_next hI e hc)
            rw [hSr] at i1 hG2
            exact ⟨(hF.tr (zfr_pf _ _ _ (by decide))).tr v1, Or.inl ⟨v2, _, zskp h p + 1, by omega, rfl, i1, v3, hG2⟩⟩
          · rw [if_neg (fun y => p2 y.2)] at hSr
            rw [if_neg p2, if_pos rfl]
            have hc : (pzS h R (zskp h p)).1.1 ≠ 0 := by rw [hSr]; exact (by decide : (1 : Nat) ≠ 0)
            refine out R ?_
            rw [pzG_bad hI e hc, hSr]; rfl
        · rw [if_neg (fun y => z41 y.1)] at hSr
          rw [if_neg (show ¬ zhr h p = 41 from fun y => z41 (is41.1 y))]
          have hc : (pzS h R (zskp h p)).1.1 ≠ 0 := by rw [hSr]; exact (by decide : (1 : Nat) ≠ 0)
          refine out R ?_
          rw [pzG_bad hI e hc, hSr]; rfl
    · have hz : zgt h (zskp h p) = 0 := zgt_out (by omega)
      rw [if_neg (show ¬ zhr h p = 47 from fun y => by have := is47.1 y; omega), if_neg (show ¬ zhr h p = 41 from fun y => by have := is41.1 y; omega)]
      refine out R ?_
      rw [pzG_end hI e, if_neg (fun y => h0 y.1), show zskp h p = h.length by omega]
theorem mX12_takeRow_w (N : Nat) (hN : 5000 ≤ N) {h : List Nat} {R : List zIt} {s : zq_S} {p : Nat} (hI : pzI h R p) (h0 : pzph R = 0) (hq : zskp h p < h.length) (hg : zgt h (zskp h p) = 40) (hs : pzCM h R (zskp h p) s) : zw (mX12_takeRow N s) (pzQ h R p s) := by
  have hs' := hs
  obtain ⟨c1, c2, c3, c4, c5, c6, c7, c8, c9, c10, c11, c12, c13⟩ := hs
  have hV := hI.1
  have hlen := pz_len hV
  have hl := c1.2.2.1
  have hS : pzS h R (zskp h p) = pzWd h R 8 (zskp h p) (zskp h p + 1) := by
    unfold pzS
    rw [if_pos h0, hg]
    rfl
  have k1 := (pzsk h hI.2.1.2.1).1
  unfold mX12_takeRow
  dsimp only [zq_let]
  rw [c4, c3, nI_1]
  have f0 : zfr [(57, 17), (57, 18), (57, 19), (57, 20), (57, 27), (57, 28)] [] [] s (zpf s 57 18 (nI (zskp h p + 1))) := zfr_pf _ _ _ (by decide)
  refine zw_call (mX12_takeWord_w N hN (zHM_fr c1 f0 (by decide) (by decide)) (p := zskp h p + 1) (R := R) hq rfl c5 (pz_wn hV)) ?_
  intro r t ⟨h1, fr, h2, h3⟩
  dsimp only at h1 fr h2 h3 ⊢
  subst h1
  have f1 : zfr [(57, 17), (57, 18), (57, 19), (57, 20), (57, 27), (57, 28)] [] [] s t := f0.tr (fr.mo (by decide) (by decide) (by decide))
  have t21 : zgf t 57 21 = nI R.length := by rw [f1.f 57 21 (by decide)]; exact c4
  refine zw_call (mX12_addSign_w N t21 (by omega) _ _ _ _) ?_
  intro r2 u ⟨f3, g1, g2, g3⟩
  dsimp only at f3 g1 g2 g3 ⊢
  have F : pzFM s u := (f1.mo (by decide) (by decide) (by decide)).tr (f3.mo (by decide) (by decide) (by decide))
  have hle := pzWc_le h R (zskp h p + 1)
  unfold pzWd at hS
  by_cases z : pzWc h R (zskp h p + 1) = 0
  · obtain ⟨a1, a2, a3, a4, a5⟩ := h2 z
    obtain ⟨m1, m2⟩ := pzW_ok hV z
    obtain ⟨_, n2, n3, _, hv, _⟩ := pzN_ok (p := zskp h p + 1) hq m1 (by decide)
    rw [if_pos z] at hS
    have hc : (pzS h R (zskp h p)).1.1 = 0 := by rw [hS]
    obtain ⟨i1, i2⟩ := pzS_ok hI hq hc
    have hG := pzG_next hI hq hc
    rw [hS] at i1 i2 hG
    have i2' : zskp h p < pze h (zskp h p + 1) := i2
    have cm : pzCM h ((8, 0, pzv h (zskp h p + 1), 0, zskp h p) :: R) (pze h (zskp h p + 1)) u := by
      refine pzCM_row (x := (8, 0, pzv h (zskp h p + 1), 0, zskp h p)) hV hs' f1 f3 g1 g2 g3 (Or.inl rfl) (pzok_w h0 (Or.inr rfl) (by omega) m2) ?_ a2 a4 ?_ rfl a3 (fun y => absurd (show (8 : Nat) = 9 from y) (by decide))
      · rw [a1]; exact c2
      · rw [fr.f 57 28 (by decide), pzmk_n (x := (8, 0, pzv h (zskp h p + 1), 0, zskp h p)) R (fun y => by rcases y with y | y <;> exact absurd y (by intro w; simp [zIt.sg] at w))]; exact c6
    have := mX12_rowloop N hN (n := R.length) (R0 := R) (p0 := p) (s0 := s) (h.length + 1) ((8, 0, pzv h (zskp h p + 1), 0, zskp h p) :: R) (pze h (zskp h p + 1)) u N (nI (zskp h p)) (by omega) (by omega) i1 (show (1 : Nat) ≠ 0 by decide) rfl cm (by omega) F hG
    rw [z, if_pos (show nI 0 = (0 : Int32) from rfl)]
    exact this
  · rw [if_neg z] at hS
    have hc : (pzS h R (zskp h p)).1.1 ≠ 0 := by rw [hS]; exact z
    obtain ⟨M, hM⟩ : ∃ M', N = M' + 1 := ⟨N - 1, by omega⟩
    rw [if_neg (show ¬ nI (pzWc h R (zskp h p + 1)) = 0 by rw [show (0 : Int32) = nI 0 from rfl, nI_eq (by omega) (by decide)]; exact z)]
    rw [hM, zq_loop_s]
    dsimp only [bX12_takeRow_51]
    rw [if_pos rfl, if_neg (by rw [show (0 : Int32) = nI 0 from rfl, nI_leI (by omega) (by decide)]; omega)]
    refine zw_some.2 ⟨F, Or.inr ⟨_, zskp h (zskp h p + 1), R, z, by omega, rfl, ?_, ?_⟩⟩
    · show zgf u 57 17 = _
      rw [f3.f 57 17 (by decide)]; exact h3 z
    · rw [pzG_bad hI hq hc, hS]; rfl
