/-! the reference: opens -/
theorem zhr_is {h : List Nat} (hh : ∀ x, x ∈ h → x < 256) {e c : Nat} (hc : c ≠ 0) (hc2 : c < 256) : (zhr h e = nI c) ↔ zgt h (zskp h e) = c := by
  unfold zhr
  have := zgt_256 hh (zskp h e)
  by_cases z : zskp h e < h.length
  · rw [if_pos z, nI_eq (by omega) (by omega)]
  · rw [if_neg z, zgt_out (by omega)]
    constructor
    · intro y
      have := nI_nneg (show c < 2 ^ 31 by omega)
      rw [← y] at this
      exact absurd (show (-1 : Int32) < 0 by decide) this
    · intro y; omega
theorem pzmk_o {x : zIt} (R : List zIt) (h : 1 ≤ x.sg ∧ x.sg ≤ 3) (hd : x.sd = 0) : pzmk (x :: R) = pzmk R ||| 2 ^ x.mk := by
  rw [pzmk, if_pos (Or.inl h), if_neg (fun y => y.2 hd), Nat.or_zero]
theorem pzmk_o2 {x : zIt} (R : List zIt) (h : x.sg = 2) (hd : x.sd ≠ 0) : pzmk (x :: R) = pzmk R ||| 2 ^ x.mk ||| 2 ^ (x.sd - 1) := by
  rw [pzmk, if_pos (Or.inl (by omega)), if_pos ⟨h, hd⟩]
theorem jX12_takeOpen_w (N : Nat) (hN : 5000 ≤ N) {h : List Nat} {R : List zIt} {s t : zq_S} {q k v sd e : Nat} (hV : pzV R) (h0 : pzph R = 0) (hk : 1 ≤ k ∧ k ≤ 3) (hs : pzCM h R q s)
    (fr : zfr [(57, 17), (57, 18), (57, 19), (57, 20), (57, 28)] [] [] s t) (he : e ≤ h.length) (t17 : zgf t 57 17 = -1) (t18 : zgf t 57 18 = nI e) (t28 : zgf t 57 28 = nI (pzmk ((k, v, 0, sd, q) :: R))) (hok : pzok R (k, v, 0, sd, q)) :
    zw (jX12_takeOpen_j87 N (nI k) (nI q) 0 (nI v) (if sd = 0 then -1 else nI (sd - 1)) t) (pzQ1 h R (pzcol h k v sd q e) s) := by
  obtain ⟨c1, c2, c3, c4, c5, c6, c7, c8, c9, c10, c11, c12, c13⟩ := hs
  have hlen := pz_len hV
  have hl := c1.2.2.1
  have hv : v < 10 := hok.1.2.1
  have hdep : (pzstk R).length < 8 := (hok.2.2.1 hk).1
  have h3 := pz3_le R (pzstk R)
  have ht := zHM_fr c1 fr (by decide) (by decide)
  unfold jX12_takeOpen_j87 pzcol
  rw [if_pos (by decide), mX12_here_eq N hN ht he t18, zb2_some]
  dsimp only
  have fr' : pzFM s t := fr.mo (by decide) (by decide) (by decide)
  have f1 : pzFM s (zpf t 57 18 (nI (zskp h e))) := fr'.tr (zfr_pf _ _ _ (by decide))
  by_cases z : zgt h (zskp h e) = 58
  · rw [if_pos (show zhr h e = (58 : Int32) from (zhr_is ht.2.2.2 (c := 58) (by decide) (by decide)).2 z), if_pos z]
    dsimp only [zq_let]
    rw [show zgf (zpf t 57 18 (nI (zskp h e))) 57 18 = nI (zskp h e) from rfl, nI_1, zpf_pf]
    have f2 : zfr [(57, 17), (57, 18), (57, 19), (57, 20), (57, 28)] [] [] s (zpf t 57 18 (nI (zskp h e + 1))) := fr.tr (zfr_pf _ _ _ (by decide))
    have g18 : zgf (zpf t 57 18 (nI (zskp h e + 1))) 57 18 = nI (zskp h e + 1) := rfl
    have g17 : zgf (zpf t 57 18 (nI (zskp h e + 1))) 57 17 = -1 := by rw [zgf_pf, if_neg (by decide)]; exact t17
    have g28 : zgf (zpf t 57 18 (nI (zskp h e + 1))) 57 28 = nI (pzmk ((k, v, 0, sd, q) :: R)) := by rw [zgf_pf, if_neg (by decide)]; exact t28
    generalize zpf t 57 18 (nI (zskp h e + 1)) = u at f2 g18 g17 g28 ⊢
    rw [f2.f 57 31 (by decide), c9, zck_nI hdep (by decide), f2.f 57 21 (by decide), c4]
    have f3 : zfr [(57, 17), (57, 18), (57, 19), (57, 20), (57, 28)] [76] [] s (zpa u 76 (nI (pzstk R).length) (nI R.length)) := by
      rw [zpa_eq]; exact (f2.mo (by decide) (by decide) (by decide)).tr (zfr_sA _ _ (by decide))
    have a3 : ∀ d, zA (zpa u 76 (nI (pzstk R).length) (nI R.length)) 76 d = if d = (pzstk R).length then nI R.length else zA s 76 d := by
      intro d
      rw [zpa_eq, zA_sA, if_pos rfl, nI_clamp (by omega), f2.a 76 (by decide)]
      rfl
    have g18' : zgf (zpa u 76 (nI (pzstk R).length) (nI R.length)) 57 18 = nI (zskp h e + 1) := g18
    have g17' : zgf (zpa u 76 (nI (pzstk R).length) (nI R.length)) 57 17 = -1 := g17
    have g28' : zgf (zpa u 76 (nI (pzstk R).length) (nI R.length)) 57 28 = nI (pzmk ((k, v, 0, sd, q) :: R)) := g28
    generalize zpa u 76 (nI (pzstk R).length) (nI R.length) = w at f3 a3 g18' g17' g28' ⊢
    have e31 : zgf w 57 31 = nI (pzstk R).length := by rw [f3.f 57 31 (by decide)]; exact c9
    rw [e31, nI_1]
    have e33 : zgf (zpf w 57 31 (nI ((pzstk R).length + 1))) 57 33 + (if nI k = (3 : Int32) then (1 : Int32) else 0) = nI (pz3 R (pzstk R) + (if k = 3 then 1 else 0)) := by
      rw [zgf_pf, if_neg (by decide), f3.f 57 33 (by decide), c10]
      by_cases k3 : k = 3
      · rw [if_pos (show nI k = (3 : Int32) by rw [k3]; rfl), if_pos k3, nI_1]
      · rw [if_neg (show ¬ nI k = (3 : Int32) by rw [show (3 : Int32) = nI 3 from rfl, nI_eq (by omega) (by decide)]; exact k3), if_neg k3]
        exact nI_add _ 0
    rw [e33]
    have e29 : zgf (zpf (zpf w 57 31 (nI ((pzstk R).length + 1))) 57 33 (nI (pz3 R (pzstk R) + (if k = 3 then 1 else 0)))) 57 29 ||| (if nI k = (3 : Int32) then ((1 : Int32) <<< (nI v &&& 31)) else 0) = nI (pzmv R ||| (if k = 3 then 2 ^ v else 0)) := by
      rw [zgf_pf, if_neg (by decide), zgf_pf, if_neg (by decide), f3.f 57 29 (by decide), c7, zn_shl (by omega)]
      by_cases k3 : k = 3
      · rw [if_pos (show nI k = (3 : Int32) by rw [k3]; rfl), if_pos k3, zn_or]
      · rw [if_neg (show ¬ nI k = (3 : Int32) by rw [show (3 : Int32) = nI 3 from rfl, nI_eq (by omega) (by decide)]; exact k3), if_neg k3, zn_or0, Nat.or_zero]
    rw [e29]
    have f4 : zfr [(57, 17), (57, 18), (57, 19), (57, 20), (57, 28), (57, 29), (57, 31), (57, 33)] [76] [] s (zpf (zpf (zpf w 57 31 (nI ((pzstk R).length + 1))) 57 33 (nI (pz3 R (pzstk R) + (if k = 3 then 1 else 0)))) 57 29 (nI (pzmv R ||| (if k = 3 then 2 ^ v else 0)))) :=
      (((f3.mo (by decide) (by decide) (by decide)).tr (zfr_pf _ _ _ (by decide))).tr (zfr_pf _ _ _ (by decide))).tr (zfr_pf _ _ _ (by decide))
    have i31 : zgf (zpf (zpf (zpf w 57 31 (nI ((pzstk R).length + 1))) 57 33 (nI (pz3 R (pzstk R) + (if k = 3 then 1 else 0)))) 57 29 (nI (pzmv R ||| (if k = 3 then 2 ^ v else 0)))) 57 31 = nI ((pzstk R).length + 1) := rfl
    have i33 : zgf (zpf (zpf (zpf w 57 31 (nI ((pzstk R).length + 1))) 57 33 (nI (pz3 R (pzstk R) + (if k = 3 then 1 else 0)))) 57 29 (nI (pzmv R ||| (if k = 3 then 2 ^ v else 0)))) 57 33 = nI (pz3 R (pzstk R) + (if k = 3 then 1 else 0)) := rfl
    have i29 : zgf (zpf (zpf (zpf w 57 31 (nI ((pzstk R).length + 1))) 57 33 (nI (pz3 R (pzstk R) + (if k = 3 then 1 else 0)))) 57 29 (nI (pzmv R ||| (if k = 3 then 2 ^ v else 0)))) 57 29 = nI (pzmv R ||| (if k = 3 then 2 ^ v else 0)) := rfl
    have i18 : zgf (zpf (zpf (zpf w 57 31 (nI ((pzstk R).length + 1))) 57 33 (nI (pz3 R (pzstk R) + (if k = 3 then 1 else 0)))) 57 29 (nI (pzmv R ||| (if k = 3 then 2 ^ v else 0)))) 57 18 = nI (zskp h e + 1) := g18'
    have i17 : zgf (zpf (zpf (zpf w 57 31 (nI ((pzstk R).length + 1))) 57 33 (nI (pz3 R (pzstk R) + (if k = 3 then 1 else 0)))) 57 29 (nI (pzmv R ||| (if k = 3 then 2 ^ v else 0)))) 57 17 = -1 := g17'
    have i28 : zgf (zpf (zpf (zpf w 57 31 (nI ((pzstk R).length + 1))) 57 33 (nI (pz3 R (pzstk R) + (if k = 3 then 1 else 0)))) 57 29 (nI (pzmv R ||| (if k = 3 then 2 ^ v else 0)))) 57 28 = nI (pzmk ((k, v, 0, sd, q) :: R)) := g28'
    have a4 : ∀ d, zA (zpf (zpf (zpf w 57 31 (nI ((pzstk R).length + 1))) 57 33 (nI (pz3 R (pzstk R) + (if k = 3 then 1 else 0)))) 57 29 (nI (pzmv R ||| (if k = 3 then 2 ^ v else 0)))) 76 d = if d = (pzstk R).length then nI R.length else zA s 76 d := a3
    generalize zpf (zpf (zpf w 57 31 (nI ((pzstk R).length + 1))) 57 33 (nI (pz3 R (pzstk R) + (if k = 3 then 1 else 0)))) 57 29 (nI (pzmv R ||| (if k = 3 then 2 ^ v else 0))) = y at f4 i31 i33 i29 i18 i17 i28 a4 ⊢
    refine zw_call (mX12_addSign_w N (n := R.length) ?_ (by omega) _ _ _ _) ?_
    · rw [f4.f 57 21 (by decide)]; exact c4
    · intro r2 x2 ⟨f5, g1, g2, g3⟩
      dsimp only at f5 g1 g2 g3 ⊢
      have F : pzFM s (zpf x2 57 34 1) := ((f4.mo (by decide) (by decide) (by decide)).tr (f5.mo (by decide) (by decide) (by decide))).tr (zfr_pf _ _ _ (by decide))
      have gf : ∀ j, j ≠ 34 → j ≠ 21 → zgf (zpf x2 57 34 1) 57 j = zgf y 57 j := fun j hj hj2 => by rw [zgf_pf, if_neg (by omega), f5.f 57 j (by intro y; simp only [List.mem_cons, Prod.mk.injEq, List.not_mem_nil, or_false] at y; omega)]
      have c13' : pzMa R y := pzMa_fr c13 f4 (by decide) (by decide) (by decide) (by decide) (by decide)
      have CM : ∀ x : zIt, x.sg = k → x.mk = v → x.sd = sd → x.ps = q → nI (pzmk (x :: R)) = nI (pzmk ((k, v, 0, sd, q) :: R)) → pzok R x → pzCM h (x :: R) (zskp h e + 1) (zpf x2 57 34 1) := by
        intro x x1 x2' x3 x4 xm hok
        have xo : 1 ≤ x.sg ∧ x.sg ≤ 3 := by omega
        have es : pzstk (x :: R) = R.length :: pzstk R := pzstk_o R xo
        refine ⟨zHM_fr c1 F (by decide) (by decide), ?_, ?_, ?_, ?_, ?_, ?_, ?_, ?_, ?_, fun _ => ?_, ?_, ?_⟩
        · rw [gf 17 (by decide) (by decide)]; exact i17
        · rw [gf 18 (by decide) (by decide)]; exact i18
        · rw [zgf_pf, if_neg (by decide)]; exact g1
        · rw [gf 27 (by decide) (by decide), f4.f 57 27 (by decide), pzwn_n R (by omega)]; exact c5
        · rw [gf 28 (by decide) (by decide), i28, xm]
        · rw [gf 29 (by decide) (by decide), i29, pzmv, x1, x2']
        · rw [gf 30 (by decide) (by decide), f4.f 57 30 (by decide), pzsr_n R (by omega)]; exact c8
        · rw [gf 31 (by decide) (by decide), i31, es]; rfl
        · rw [gf 33 (by decide) (by decide), i33, es, pz3, pz3_old x _ (fun a b => (pzstk_mem hV b).1), pzat_new, x1]
        · rw [pznn, if_pos xo]; rfl
        · rw [es]
          refine ⟨?_, pzMs_eq _ (fun d hd => ?_) c12⟩
          · rw [zA_pf, f5.a 76 (by decide), a4, if_pos rfl]
          · rw [zA_pf, f5.a 76 (by decide), a4, if_neg (by omega)]
        · refine pzMa_flat (t := zpf x2 57 34 1) c13' ⟨hV, hok⟩ (by omega) (by omega) g2 g3 ?_ (fun y => by omega) (fun _ => ?_) (fun _ => ?_) (fun y => by omega) (fun _ => ?_)
          · rw [x1, zkd2_o k (by omega)]
          · rw [x2']
          · rw [x3]
          · rw [x4]
      exact zw_some.2 ⟨F, rfl, fun _ => CM _ rfl rfl rfl rfl rfl hok, fun y => absurd rfl y⟩
  · rw [if_neg (show ¬ zhr h e = (58 : Int32) from fun y => z ((zhr_is ht.2.2.2 (c := 58) (by decide) (by decide)).1 y)), if_neg z]
    unfold mX12_fails
    dsimp only [zq_let]
    rw [zb2_some]
    exact zw_some.2 (pzQ1_f (f1.tr (zfr_pf _ _ _ (by decide))) rfl (by decide) rfl)
theorem jX12_takeOpen_bad (N : Nat) {h : List Nat} {R : List zIt} {s t : zq_S} {c q : Nat} {a b d e : Int32} (hc : c ≠ 0) (hc2 : c < 100) (fr : pzFM s t) (t17 : zgf t 57 17 = nI q) : zw (jX12_takeOpen_j87 N a b (nI c) d e t) (pzQ1 h R (pzFl c q) s) := by
  unfold jX12_takeOpen_j87
  rw [if_neg (by rw [show (0 : Int32) = nI 0 from rfl, nI_leI (by omega) (by decide)]; omega)]
  exact zw_some.2 (pzQ1_f fr rfl hc t17)
theorem mX12_takeOpen_w (N : Nat) (hN : 5000 ≤ N) {h : List Nat} {R : List zIt} {s : zq_S} {q k : Nat} (hV : pzV R) (h0 : pzph R = 0) (hq : q < h.length) (hk : 1 ≤ k ∧ k ≤ 3) (hs : pzCM h R q s) : zw (mX12_takeOpen N (nI k) s) (pzQ1 h R (pzO h R q k) s) := by
  have hs' := hs
  obtain ⟨c1, c2, c3, c4, c5, c6, c7, c8, c9, c10, c11, c12, c13⟩ := hs
  have hdep := pz_dep hV
  have hmk := pzmk_lt hV
  unfold mX12_takeOpen pzO
  rw [c9]
  by_cases z8 : (pzstk R).length = 8
  · rw [if_pos (by rw [z8]; rfl), if_pos z8]
    unfold mX12_fails
    dsimp only [zq_let]
    rw [zb2_some, c3]
    exact zw_some.2 (pzQ1_f (zfr_pf _ _ _ (by decide)) rfl (by decide) rfl)
  · rw [if_neg (by rw [show (8 : Int32) = nI 8 from rfl, nI_eq (by omega) (by decide)]; exact z8), if_neg z8]
    dsimp only [zq_let]
    rw [c3, nI_1]
    have f0 : zfr [(57, 17), (57, 18), (57, 19), (57, 20), (57, 28)] [] [] s (zpf s 57 18 (nI (q + 1))) := zfr_pf _ _ _ (by decide)
    refine zw_call (mX12_takeMark_w N hN (zHM_fr c1 f0 (by decide) (by decide)) (p := q + 1) (K := pzmk R) hq rfl c6 hmk) ?_
    intro r t ⟨h1, fr, h2, h3⟩
    dsimp only at h1 fr h2 h3 ⊢
    subst h1
    have f1 := f0.tr fr
    have F1 : pzFM s t := f1.mo (by decide) (by decide) (by decide)
    have hle := pzMc_le h (pzmk R) (q + 1)
    by_cases z : pzMc h (pzmk R) (q + 1) = 0
    · obtain ⟨a1, a2, a3, a4⟩ := h2 z
      obtain ⟨m1, m2⟩ := pzM_ok z
      obtain ⟨_, n2, n3, _, hv, _⟩ := pzN_ok (p := q + 1) hq m1 (by decide)
      have ht := zHM_fr c1 f1 (by decide) (by decide)
      have t17 : zgf t 57 17 = -1 := by rw [a1]; exact c2
      rw [if_pos (by rw [z]; rfl), if_pos z, z, a3]
      have plain : ∀ t', zfr [(57, 17), (57, 18), (57, 19), (57, 20), (57, 28)] [] [] s t' → ∀ e, e ≤ h.length → zskp h e = zskp h (pze h (q + 1)) → zgf t' 57 17 = -1 → zgf t' 57 18 = nI e → zgf t' 57 28 = nI (pzmk R ||| 2 ^ pzv h (q + 1)) → zw (jX12_takeOpen_j87 N (nI k) (nI q) (nI 0) (nI (pzv h (q + 1))) (-1) t') (pzQ1 h R (pzcol h k (pzv h (q + 1)) 0 q (pze h (q + 1))) s) := by
        intro t' ft e he hee q17 q18 q28
        have := jX12_takeOpen_w N hN (sd := 0) (v := pzv h (q + 1)) hV h0 hk hs' ft he q17 q18 ?_ (pzok_o h0 hk (by omega) (by omega) (fun _ => rfl) (by omega) m2 (fun y => absurd rfl y))
        · unfold pzcol at this ⊢
          rw [hee] at this
          exact this
        · exact q28.trans (congrArg nI (pzmk_o (x := (k, pzv h (q + 1), 0, 0, q)) R hk rfl).symm)
      by_cases k2 : k = 2
      · rw [if_pos (show nI k = (2 : Int32) by rw [k2]; rfl), mX12_here_eq N hN ht n2 a2, zb2_some]
        dsimp only
        have f2 : zfr [(57, 17), (57, 18), (57, 19), (57, 20), (57, 28)] [] [] s (zpf t 57 18 (nI (zskp h (pze h (q + 1))))) := f1.tr (zfr_pf _ _ _ (by decide))
        obtain ⟨s1, s2, _⟩ := pzsk h n2
        by_cases zb : zgt h (zskp h (pze h (q + 1))) = 33
        · have hlt : zskp h (pze h (q + 1)) < h.length := pzgt_lt (by rw [zb]; decide)
          rw [if_pos (show zhr h (pze h (q + 1)) = (33 : Int32) from (zhr_is ht.2.2.2 (c := 33) (by decide) (by decide)).2 zb), if_pos ⟨k2, zb⟩, show zgf (zpf t 57 18 (nI (zskp h (pze h (q + 1))))) 57 18 = nI (zskp h (pze h (q + 1))) from rfl, nI_1, zpf_pf]
          have f3 : zfr [(57, 17), (57, 18), (57, 19), (57, 20), (57, 28)] [] [] s (zpf t 57 18 (nI (zskp h (pze h (q + 1)) + 1))) := f1.tr (zfr_pf _ _ _ (by decide))
          refine zw_call (mX12_takeMark_w N hN (zHM_fr c1 f3 (by decide) (by decide)) (p := zskp h (pze h (q + 1)) + 1) (K := pzmk R ||| 2 ^ pzv h (q + 1)) hlt rfl a4 (pzor_lt hmk (pz2_lt (by omega)))) ?_
          intro r' u ⟨h1', fr', h2', h3'⟩
          dsimp only at h1' fr' h2' h3' ⊢
          subst h1'
          have f4 := f3.tr fr'
          have hle' := pzMc_le h (pzmk R ||| 2 ^ pzv h (q + 1)) (zskp h (pze h (q + 1)) + 1)
          by_cases zm : pzMc h (pzmk R ||| 2 ^ pzv h (q + 1)) (zskp h (pze h (q + 1)) + 1) = 0
          · obtain ⟨b1, b2, b3, b4⟩ := h2' zm
            obtain ⟨m3, m4⟩ := pzM_ok zm
            obtain ⟨_, o2, o3, _, ov, _⟩ := pzN_ok (p := zskp h (pze h (q + 1)) + 1) hlt m3 (by decide)
            rw [zt_pow, Bool.or_eq_false_iff, decide_eq_false_iff_not] at m4
            rw [if_pos zm, zm, b3]
            have := jX12_takeOpen_w N hN (sd := pzv h (zskp h (pze h (q + 1)) + 1) + 1) (v := pzv h (q + 1)) hV h0 hk hs' f4 o2 ?_ b2 ?_ (pzok_o h0 hk (by omega) (by omega) (fun y => absurd k2 y) (by omega) m2 (fun _ => ⟨fun y => m4.2 ?_, m4.1⟩))
            · rw [if_neg (by omega), Nat.add_sub_cancel] at this
              exact this
            · rw [b1, zgf_pf, if_neg (by decide)]; exact t17
            · exact b4.trans (congrArg nI (pzmk_o2 (x := (k, pzv h (q + 1), 0, pzv h (zskp h (pze h (q + 1)) + 1) + 1, q)) R k2 (Nat.succ_ne_zero _)).symm)
            · rw [Nat.add_sub_cancel] at y; exact y.symm
          · rw [if_neg zm]
            exact jX12_takeOpen_bad N zm (by omega) (f4.mo (by decide) (by decide) (by decide)) (h3' zm)
        · rw [if_neg (show ¬ zhr h (pze h (q + 1)) = (33 : Int32) from fun y => zb ((zhr_is ht.2.2.2 (c := 33) (by decide) (by decide)).1 y)), if_neg (fun y => zb y.2)]
          refine plain _ f2 _ s2 (pzsk_id h n2) ?_ rfl ?_
          · rw [zgf_pf, if_neg (by decide)]; exact t17
          · rw [zgf_pf, if_neg (by decide)]; exact a4
      · rw [if_neg (show ¬ nI k = (2 : Int32) by rw [show (2 : Int32) = nI 2 from rfl, nI_eq (by omega) (by decide)]; exact k2), if_neg (fun y => k2 y.1)]
        exact plain t f1 _ n2 rfl t17 a2 a4
    · rw [if_neg (by rw [show (0 : Int32) = nI 0 from rfl, nI_eq (by omega) (by decide)]; exact z), if_neg z]
      exact jX12_takeOpen_bad N z (by omega) F1 (h3 z)
