/-! the reference: stars and closes -/
theorem pzMa_fr {F : List (Nat × Nat)} {A L : List Nat} {R : List zIt} {s t : zq_S} (h : pzMa R s) (fr : zfr F A L s t) (h1 : 71 ∉ A) (h2 : 72 ∉ A) (h3 : 73 ∉ A) (h4 : 74 ∉ A) (h5 : 75 ∉ A) : pzMa R t := fun k hk => by
  have := h k hk
  unfold pzMi at this ⊢
  rw [fr.a 71 h1, fr.a 72 h2, fr.a 73 h3, fr.a 74 h4, fr.a 75 h5]
  exact this
theorem pzNc_le (h : List Nat) (p mx : Nat) : pzNc h p mx ≤ 2 := by unfold pzNc; split; split <;> omega; omega
theorem mX12_takeStar_w (N : Nat) (hN : 5000 ≤ N) {h : List Nat} {R : List zIt} {s : zq_S} {q : Nat} (hV : pzV R) (h0 : pzph R = 0) (hq : q < h.length) (hs : pzCM h R q s) : zw (mX12_takeStar N s) (pzQ1 h R (pzA h R q) s) := by
  obtain ⟨c1, c2, c3, c4, c5, c6, c7, c8, c9, c10, c11, c12, c13⟩ := hs
  have hlen := pz_len hV
  have h3le := pz3_le R (pzstk R)
  have hl := c1.2.2.1
  have hsr := pzsr_lt hV
  unfold mX12_takeStar pzA
  rw [c10]
  cases z3 : pzA3 R with
  | true =>
    have hne : pz3 R (pzstk R) ≠ 0 := fun y => by rw [pz3_0.2 y] at z3; cases z3
    rw [if_neg (by rw [show (0 : Int32) = nI 0 from rfl, nI_leI (by omega) (by decide)]; omega), if_pos rfl]
    unfold mX12_fails
    dsimp only [zq_let]
    rw [zb2_some, c3]
    exact zw_some.2 (pzQ1_f (zfr_pf _ _ _ (by decide)) rfl (by decide) rfl)
  | false =>
    rw [if_pos (by rw [pz3_0.1 z3]; decide), if_neg (by decide)]
    dsimp only [zq_let]
    rw [c3, nI_1]
    have f0 : zfr [(57, 18)] [] [] s (zpf s 57 18 (nI (q + 1))) := zfr_pf _ _ _ (by decide)
    refine zw_call (mX12_takeNumber_w N hN (mx := 9) (zHM_fr c1 f0 (by decide) (by decide)) (p := q + 1) hq rfl (by decide)) ?_
    intro r t ⟨h1, fr, h2, h3⟩
    dsimp only at h1 fr h2 h3 ⊢
    have F0 : pzFM s t := (f0.mo (by decide) (by decide) (by decide)).tr (fr.mo (by decide) (by decide) (by decide))
    have t21 : zgf t 57 21 = nI R.length := by rw [fr.f 57 21 (by decide)]; exact c4
    have bad : ∀ (c : Nat) (w : Int32) (t : zq_S), c ≠ 0 → c < 100 → pzFM s t → zgf t 57 21 = nI R.length → zgf t 57 17 = nI (zskp h (q + 1)) → zw (jX12_takeStar_j67 N (nI q) (nI c) t) (pzQ1 h R (pzFl c (zskp h (q + 1))) s) := by
      intro c w t hc hc2 ft ht t17
      unfold jX12_takeStar_j67
      dsimp only [zq_let]
      rw [if_neg (by rw [show (0 : Int32) = nI 0 from rfl, nI_leI (by omega) (by decide)]; omega)]
      refine zw_call (mX12_addSign_w N (n := R.length) ?_ (by omega) _ _ _ _) ?_
      · rw [zgf_pf, if_neg (by decide)]; exact ht
      · intro r2 u ⟨f2, _⟩
        dsimp only at f2 ⊢
        refine zw_some.2 (pzQ1_f ?_ rfl hc ?_)
        · exact ((ft.tr (zfr_pf _ _ _ (by decide))).tr (f2.mo (by decide) (by decide) (by decide))).tr (zfr_pf _ _ _ (by decide))
        · show zgf (zpf u 57 34 0) 57 17 = _
          rw [zgf_pf, if_neg (by decide), f2.f 57 17 (by decide), zgf_pf, if_neg (by decide)]; exact t17
    subst h1
    have hle := pzNc_le h (q + 1) 9
    by_cases z : pzNc h (q + 1) 9 = 0
    · obtain ⟨a1, a2, a3, a4⟩ := h2 z
      obtain ⟨_, n2, n3, _, hv, _⟩ := pzN_ok (p := q + 1) hq z (by decide)
      rw [if_pos (by rw [z]; rfl), if_pos z, fr.f 57 30 (by decide), show zgf (zpf s 57 18 (nI (q + 1))) 57 30 = zgf s 57 30 from rfl, c8, a3, mX12_has_eq N (by omega) (by omega), zb2_some]
      dsimp only
      cases y : (pzsr R).testBit (pzv h (q + 1)) with
      | true =>
        rw [if_pos rfl, if_neg (show ¬ (1 : Int32) = 0 by decide), if_pos rfl]
        unfold mX12_fails
        dsimp only [zq_let]
        rw [zb2_some, a4]
        refine bad 3 0 _ (by decide) (by decide) (F0.tr (zfr_pf _ _ _ (by decide))) ?_ rfl
        rw [zgf_pf, if_neg (by decide)]; exact t21
      | false =>
        rw [if_neg (show ¬ false = true by decide), if_pos rfl, if_neg (show ¬ false = true by decide), z]
        unfold jX12_takeStar_j67
        dsimp only [zq_let]
        rw [if_pos (by decide), a3, zn_shl (by omega), fr.f 57 30 (by decide), show zgf (zpf s 57 18 (nI (q + 1))) 57 30 = zgf s 57 30 from rfl, c8, zn_or]
        refine zw_call (mX12_addSign_w N (n := R.length) ?_ (by omega) _ _ _ _) ?_
        · rw [zgf_pf, if_neg (by decide)]; exact t21
        · intro r2 u ⟨f2, g1, g2, g3⟩
          dsimp only at f2 g1 g2 g3 ⊢
          have F : pzFM s (zpf u 57 34 0) := ((F0.tr (zfr_pf _ _ _ (by decide))).tr (f2.mo (by decide) (by decide) (by decide))).tr (zfr_pf _ _ _ (by decide))
          have gf : ∀ j, j ≠ 34 → zgf (zpf u 57 34 0) 57 j = zgf u 57 j := fun j hj => by rw [zgf_pf, if_neg (by omega)]
          have gf2 : ∀ j, j ≠ 34 → j ≠ 21 → j ≠ 30 → zgf (zpf u 57 34 0) 57 j = zgf t 57 j := fun j hj hj2 hj3 => by rw [gf j hj, f2.f 57 j (by intro y; simp only [List.mem_cons, Prod.mk.injEq, List.not_mem_nil, or_false] at y; omega), zgf_pf, if_neg (by omega)]
          have gf3 : ∀ j, j ≠ 34 → j ≠ 21 → j ≠ 30 → (j < 17 ∨ 20 < j) → zgf (zpf u 57 34 0) 57 j = zgf s 57 j := fun j hj hj2 hj3 hj4 => by rw [gf2 j hj hj2 hj3, fr.f 57 j (by intro y; simp only [List.mem_cons, Prod.mk.injEq, List.not_mem_nil, or_false] at y; omega), zgf_pf, if_neg (by omega)]
          have CM : ∀ x : zIt, x.sg = 7 → x.mk = pzv h (q + 1) → x.ps = q → pzok R x → pzCM h (x :: R) (pze h (q + 1)) (zpf u 57 34 0) := by
            intro x x1 x2 x3 hok
            refine ⟨zHM_fr c1 F (by decide) (by decide), ?_, ?_, ?_, ?_, ?_, ?_, ?_, ?_, ?_, fun _ => ?_, ?_, ?_⟩
            · rw [gf2 17 (by decide) (by decide) (by decide), a1]; exact c2
            · rw [gf2 18 (by decide) (by decide) (by decide)]; exact a2
            · rw [gf 21 (by decide)]; exact g1
            · rw [gf3 27 (by decide) (by decide) (by decide) (by decide), pzwn_n R (by omega)]; exact c5
            · rw [gf3 28 (by decide) (by decide) (by decide) (by decide), pzmk_n R (by omega)]; exact c6
            · rw [gf3 29 (by decide) (by decide) (by decide) (by decide), pzmv_n R (by omega)]; exact c7
            · rw [gf 30 (by decide), f2.f 57 30 (by decide), pzsr, if_pos x1, x2]; rfl
            · rw [gf3 31 (by decide) (by decide) (by decide) (by decide), pzstk_e R (by omega)]; exact c9
            · rw [gf3 33 (by decide) (by decide) (by decide) (by decide), pz3_e hV (by omega)]; exact c10
            · rw [pznn, if_neg (by omega)]; rfl
            · rw [pzstk_e R (by omega)]
              exact pzMs_eq _ (fun d _ => by rw [zA_pf, f2.a 76 (by decide), zA_pf, fr.a 76 (by decide), zA_pf]) c12
            · have c13' : pzMa R (zpf t 57 30 (nI (pzsr R ||| 2 ^ pzv h (q + 1)))) := pzMa_fr (pzMa_fr (pzMa_fr c13 f0 (by decide) (by decide) (by decide) (by decide) (by decide)) fr (by decide) (by decide) (by decide) (by decide) (by decide)) (zfr_pf (F := [(57, 30)]) (A := []) (L := []) _ _ _ (by decide)) (by decide) (by decide) (by decide) (by decide) (by decide)
              refine pzMa_flat (t := zpf u 57 34 0) c13' ⟨hV, hok⟩ (by omega) (by omega) g2 g3 ?_ (fun y => by omega) (fun _ => ?_) (fun y => by omega) (fun y => by omega) (fun _ => ?_)
              · rw [x1]; rfl
              · rw [zgf_pf, if_neg (by decide), a3, x2]
              · rw [x3]
          refine zw_some.2 ⟨F, rfl, fun _ => CM _ rfl rfl rfl ?_, fun y => absurd rfl y⟩
          unfold pzok
          rw [(pz_sgN 7 (pzv h (q + 1)) 0 0 q).1, (pz_sgN 7 (pzv h (q + 1)) 0 0 q).2.1, (pz_sgN 7 (pzv h (q + 1)) 0 0 q).2.2.1, (pz_sgN 7 (pzv h (q + 1)) 0 0 q).2.2.2.1]
          exact ⟨⟨by omega, by omega, by omega, by omega, fun _ => rfl⟩, ⟨fun _ => by omega, fun y => by omega, fun y => by omega⟩, fun y => by omega, fun y => by omega, fun _ => ⟨pzA3_f z3, y⟩, fun y => by omega, fun y => by omega⟩
    · rw [if_neg (by rw [show (0 : Int32) = nI 0 from rfl, nI_eq (by omega) (by decide)]; exact z), if_neg z]
      exact bad _ 0 t z (by omega) F0 t21 (h3 z)
theorem pznn_hd {R : List zIt} (hV : pzV R) {q : Nat} {l : List Nat} (e : pzstk R = q :: l) : pznn R = 0 ↔ q + 1 ≠ R.length := by
  cases R with
  | nil => cases e
  | cons x R =>
    rw [pznn, List.length_cons]
    by_cases z : 1 ≤ x.sg ∧ x.sg ≤ 3
    · rw [pzstk_o R z] at e
      injection e with e1 e2
      rw [if_pos z]
      omega
    · rw [if_neg z]
      have hm : q ∈ pzstk R := by
        rcases pz_cases x with y | y | y
        · exact absurd y z
        · rw [pzstk_c R y] at e; exact List.mem_of_mem_tail (by rw [e]; exact List.mem_cons_self)
        · rw [pzstk_e R y] at e; rw [e]; exact List.mem_cons_self
      have := (pzstk_mem hV.1 hm).1
      exact ⟨fun _ => by omega, fun _ => rfl⟩
theorem zkd2_o : ∀ g, g ≤ 3 → zkd2 g = nI g := by decide
theorem mX12_takeClose_w (N : Nat) (hN : 5000 ≤ N) {h : List Nat} {R : List zIt} {s : zq_S} {q k : Nat} (hV : pzV R) (h0 : pzph R = 0) (hq : q < h.length) (hk : 1 ≤ k ∧ k ≤ 3) (hs : pzCM h R q s) : zw (mX12_takeClose N (nI k) s) (pzQ1 h R (pzC R q k) s) := by
  obtain ⟨c1, c2, c3, c4, c5, c6, c7, c8, c9, c10, c11, c12, c13⟩ := hs
  have hlen := pz_len hV
  have hdep := pz_dep hV
  have hl := c1.2.2.1
  have bad : zw (jX12_takeClose_j34 N s) (pzQ1 h R (pzFl 1 q) s) := by
    unfold jX12_takeClose_j34 mX12_fails
    dsimp only [zq_let]
    rw [zb2_some, c3]
    exact zw_some.2 (pzQ1_f (zfr_pf _ _ _ (by decide)) rfl (by decide) rfl)
  unfold mX12_takeClose pzC
  rw [c9]
  cases e : pzstk R with
  | nil =>
    rw [if_pos (show nI ([] : List Nat).length = (0 : Int32) from rfl), if_neg (fun y => y.1 rfl)]
    exact bad
  | cons q0 l =>
    have hm := pzstk_mem hV (show q0 ∈ pzstk R by rw [e]; exact List.mem_cons_self)
    have hnn := pznn_hd hV e
    have hnl : pznn R ≤ 1 := by cases R with
      | nil => exact Nat.zero_le _
      | cons x R => rw [pznn]; split <;> omega
    rw [e, List.length_cons] at hdep hlen
    rw [e] at c12
    rw [List.length_cons, if_neg (by rw [show (0 : Int32) = nI 0 from rfl, nI_eq (by omega) (by decide)]; omega), c11 h0, show (q0 :: l).headD 0 = q0 from rfl]
    by_cases z : pznn R = 0
    · rw [if_pos (by rw [z]; rfl), zn_m1, zck_nI (by omega) (by decide), zga_nI _ _ (by omega), c12.1, zck_nI (by omega) (by decide), zga_nI _ _ (by omega), (c13 q0 hm.1).1, zkd2_o _ hm.2.2]
      by_cases y : (pzat R q0).sg = k
      · rw [if_pos (show nI (pzat R q0).sg = nI k by rw [y]), if_pos (show q0 :: l ≠ [] ∧ q0 + 1 ≠ R.length ∧ (pzat R q0).sg = k from ⟨List.cons_ne_nil _ _, hnn.1 z, y⟩)]
        have hne := hnn.1 z
        dsimp only [zq_let]
        rw [show zgf (zpf s 57 31 (nI l.length)) 57 31 = nI l.length from rfl, zck_nI (by omega) (by decide), zga_nI _ _ (by omega), zA_pf, c12.1, zck_nI (by omega) (by decide)]
        rw [show zgf (zpf s 57 31 (nI l.length)) 57 21 = zgf s 57 21 from rfl, c4]
        have f5 : zfr [(57, 31)] [74] [] s (zpa (zpf s 57 31 (nI l.length)) 74 (nI q0) (nI R.length)) := by
          rw [zpa_eq]; exact (zfr_pf _ _ _ (by decide)).tr (zfr_sA _ _ (by decide))
        have g5 : zgf (zpa (zpf s 57 31 (nI l.length)) 74 (nI q0) (nI R.length)) 57 31 = nI l.length := rfl
        have a5 : ∀ k', zA (zpa (zpf s 57 31 (nI l.length)) 74 (nI q0) (nI R.length)) 74 k' = if k' = q0 then nI R.length else zA s 74 k' := by
          intro k'
          rw [zpa_eq, zA_sA, if_pos rfl, nI_clamp (by omega)]
          rfl
        generalize zpa (zpf s 57 31 (nI l.length)) 74 (nI q0) (nI R.length) = s5 at f5 g5 a5 ⊢
        have e33 : zgf s5 57 33 - (if nI k = (3 : Int32) then (1 : Int32) else 0) = nI (pz3 R l) := by
          rw [f5.f 57 33 (by decide), c10, e, pz3]
          by_cases k3 : k = 3
          · rw [if_pos (show nI k = (3 : Int32) by rw [k3]; rfl), if_pos (show (pzat R q0).sg = 3 by omega)]; exact zn_m1 _
          · rw [if_neg (show ¬ nI k = (3 : Int32) by rw [show (3 : Int32) = nI 3 from rfl, nI_eq (by omega) (by decide)]; exact k3), if_neg (show ¬ (pzat R q0).sg = 3 by omega)]
            exact pk_sub (b := 0) (Nat.zero_le _)
        rw [e33]
        have f7 : zfr [(57, 31), (57, 33)] [74] [] s (zpf s5 57 33 (nI (pz3 R l))) := (f5.mo (by decide) (by decide) (by decide)).tr (zfr_pf _ _ _ (by decide))
        refine zw_call (mX12_addSign_w N (n := R.length) ?_ (by omega) _ _ _ _) ?_
        · rw [zgf_pf, if_neg (by decide), f5.f 57 21 (by decide)]; exact c4
        · intro r2 u ⟨f2, g1, g2, g3⟩
          dsimp only at f2 g1 g2 g3 ⊢
          rw [g1, zn_m1, zck_nI (by omega) (by decide)]
          have a10 : ∀ k', zA (zpa u 74 (nI R.length) (nI q0)) 74 k' = if k' = R.length then nI q0 else zA u 74 k' := by
            intro k'
            rw [zpa_eq, zA_sA, if_pos rfl, nI_clamp (by omega)]
            rfl
          have f10 : zfr [] [74] [] u (zpa u 74 (nI R.length) (nI q0)) := by rw [zpa_eq]; exact zfr_sA _ _ (by decide)
          generalize zpa u 74 (nI R.length) (nI q0) = u10 at a10 f10 ⊢
          have e18 : zgf u10 57 18 = nI q := by
            rw [f10.f 57 18 (by decide), f2.f 57 18 (by decide), f7.f 57 18 (by decide)]; exact c3
          rw [e18, nI_1]
          have F : pzFM s (zpf u10 57 18 (nI (q + 1))) := (((f7.mo (by decide) (by decide) (by decide)).tr (f2.mo (by decide) (by decide) (by decide))).tr (f10.mo (by decide) (by decide) (by decide))).tr (zfr_pf _ _ _ (by decide))
          have gf : ∀ j, j ≠ 18 → zgf (zpf u10 57 18 (nI (q + 1))) 57 j = zgf u 57 j := fun j hj => by rw [zgf_pf, if_neg (by omega), f10.f 57 j List.not_mem_nil]
          have gf2 : ∀ j, j ≠ 18 → j ≠ 21 → j ≠ 31 → j ≠ 33 → zgf (zpf u10 57 18 (nI (q + 1))) 57 j = zgf s 57 j := fun j hj hj2 hj3 hj4 => by
            rw [gf j hj, f2.f 57 j (by intro y; simp only [List.mem_cons, Prod.mk.injEq, List.not_mem_nil, or_false] at y; omega), f7.f 57 j (by intro y; simp only [List.mem_cons, Prod.mk.injEq, List.not_mem_nil, or_false] at y; omega)]
          have hok : pzok R (k + 3, (pzat R q0).mk, 0, 0, q) := by
            unfold pzok
            rw [(pz_sgN (k + 3) (pzat R q0).mk 0 0 q).1, (pz_sgN (k + 3) (pzat R q0).mk 0 0 q).2.1, (pz_sgN (k + 3) (pzat R q0).mk 0 0 q).2.2.1, (pz_sgN (k + 3) (pzat R q0).mk 0 0 q).2.2.2.1]
            exact ⟨⟨by omega, (pzV_at hV hm.1).1.2.1, by omega, by omega, fun _ => rfl⟩, ⟨fun _ => by omega, fun y => by omega, fun y => by omega⟩, fun y => by omega, fun _ => ⟨q0, l, e, by omega, rfl, by omega⟩, fun y => by omega, fun y => by omega, fun y => by omega⟩
          have CM : ∀ x : zIt, x.sg = k + 3 → pzok R x → pzCM h (x :: R) (q + 1) (zpf u10 57 18 (nI (q + 1))) := by
            intro x x1 hok
            have xc : 4 ≤ x.sg ∧ x.sg ≤ 6 := by omega
            have es : pzstk (x :: R) = l := by rw [pzstk_c R xc, e]; rfl
            refine ⟨zHM_fr c1 F (by decide) (by decide), ?_, rfl, ?_, ?_, ?_, ?_, ?_, ?_, ?_, fun _ => ?_, ?_, ?_⟩
            · rw [gf2 17 (by decide) (by decide) (by decide) (by decide)]; exact c2
            · rw [gf 21 (by decide)]; exact g1
            · rw [gf2 27 (by decide) (by decide) (by decide) (by decide), pzwn_n R (by omega)]; exact c5
            · rw [gf2 28 (by decide) (by decide) (by decide) (by decide), pzmk_n R (by omega)]; exact c6
            · rw [gf2 29 (by decide) (by decide) (by decide) (by decide), pzmv_n R (by omega)]; exact c7
            · rw [gf2 30 (by decide) (by decide) (by decide) (by decide), pzsr_n R (by omega)]; exact c8
            · rw [gf 31 (by decide), f2.f 57 31 (by decide), es, zgf_pf, if_neg (by decide)]; exact g5
            · rw [gf 33 (by decide), f2.f 57 33 (by decide), es, pz3_old x l (fun a b => (pzstk_mem hV (by rw [e]; exact List.mem_cons_of_mem _ b)).1)]; rfl
            · rw [gf2 34 (by decide) (by decide) (by decide) (by decide), c11 h0, z, pznn, if_neg (by omega)]
            · rw [es]
              exact pzMs_eq _ (fun d _ => by rw [zA_pf, f10.a 76 (by decide), f2.a 76 (by decide), f7.a 76 (by decide)]) c12.2
            · refine pzMa_cons c13 ⟨hV, hok⟩ (fun k' hk' => ?_) ?_
              · obtain ⟨k1, k2, k3, k4, k5⟩ := g3 k' (by omega)
                refine ⟨?_, ?_, ?_, ?_, ?_⟩
                · rw [zA_pf, f10.a 71 (by decide), k1, f7.a 71 (by decide)]
                · rw [zA_pf, f10.a 72 (by decide), k2, f7.a 72 (by decide)]
                · rw [zA_pf, f10.a 73 (by decide), k3, f7.a 73 (by decide)]
                · rw [zA_pf, f10.a 75 (by decide), k5, f7.a 75 (by decide)]
                · rw [zA_pf, a10, if_neg (by omega), k4, zA_pf, a5, e]
                  by_cases w : k' = q0
                  · rw [if_pos w, if_pos (Or.inl ⟨xc.1, xc.2, by rw [w]; rfl⟩)]
                  · rw [if_neg w, if_neg]
                    rintro (v | v)
                    · have := v.2.2
                      injection this with this
                      exact w this.symm
                    · omega
              · obtain ⟨k1, k2, k3, k4, k5⟩ := g2
                unfold pzMi
                rw [pzat_new, zA_pf, zA_pf, zA_pf, zA_pf, zA_pf, f10.a 71 (by decide), f10.a 72 (by decide), k1, k2, pzpre_old x (Nat.le_refl _), pzpre_all, a10, if_pos rfl, e]
                refine ⟨?_, fun y => by omega, fun y => by omega, fun _ => ⟨?_, rfl⟩, fun y => by omega, fun y => by omega, fun y => by omega, fun y => by omega, fun y => by omega⟩
                · rcases (show k = 1 ∨ k = 2 ∨ k = 3 by omega) with w | w | w <;> rw [x1, w] <;> rfl
                · rw [x1, Nat.add_sub_cancel]
          exact zw_some.2 ⟨F, rfl, fun _ => CM _ rfl hok, fun y => absurd rfl y⟩
      · rw [if_neg (by rw [nI_eq (by omega) (by omega)]; exact y), if_neg (fun w => y w.2.2)]
        exact bad
    · rw [if_neg (by rw [show (0 : Int32) = nI 0 from rfl, nI_eq (by omega) (by decide)]; exact z), if_neg (fun w => z (hnn.2 w.2.1))]
      exact bad
