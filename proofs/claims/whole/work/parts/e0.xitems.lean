/-! the class: the other items, whole -/
theorem pzCX_9 {h : List Nat} {b : Bool} {R : List zIt} {st : Int32} {s : zq_S} (v : Int32) (hs : pzCX h b R st s) : pzCX h b R st (zpf s 26 9 v) := by
  obtain ⟨c1, c2, c3, c4, c5, c6, c7, c8, c9, c10, c11, c12⟩ := hs
  have hb := zs_c b
  have F : pzFX b s (zpf s 26 9 v) := zfr_pf _ _ _ (by simp)
  refine ⟨zHX_fr c1 F, c2, ?_, ?_, ?_, fun y => ?_, pzXs_eq (s := s) _ (fun _ _ => rfl) c7, ?_, ?_, pzPr_fr c10 ?_ ?_ rfl, c11, c12⟩
  · rw [zgf_pf, if_neg (by omega)]; exact c3
  · rw [zgf_pf, if_neg (by omega)]; exact c4
  · rw [zgf_pf, if_neg (by omega)]; exact c5
  · rw [zgf_pf, if_neg (by omega)]; exact c6 y
  · rw [zgf_pf, if_neg (by omega)]; exact c8
  · rw [zgf_pf, if_neg (by omega)]; exact c9
  · rw [zgf_pf, if_neg (by omega)]
  · rw [zgf_pf, if_neg (by omega)]
def pzcb (k : Nat) : Nat := if k = 1 then 125 else if k = 2 then 93 else 62
theorem pzcb_c {k : Nat} (hk : 1 ≤ k ∧ k ≤ 3) : (k = 1 ∧ pzcb k = 125) ∨ (k = 2 ∧ pzcb k = 93) ∨ (k = 3 ∧ pzcb k = 62) := by
  rcases (show k = 1 ∨ k = 2 ∨ k = 3 by omega) with y | y | y <;> subst y <;> decide
theorem pzcb_i {k : Nat} (hk : 1 ≤ k ∧ k ≤ 3) : nI (pzcb k) = zcode (k + 3) := by
  rcases (show k = 1 ∨ k = 2 ∨ k = 3 by omega) with y | y | y <;> subst y <;> rfl
theorem X_closeDone {h : List Nat} {b : Bool} {R : List zIt} {x : zIt} {q0 : Nat} {l lp : List Nat} {s t : zq_S} (hV : pzV R) (hx : pzok R x) (x1 : 4 ≤ x.sg ∧ x.sg ≤ 6) (hst : pzstk R = q0 :: l) (hq : q0 < R.length) (hs : pzCX h b R 0 s) (F : pzFX b s t)
    (f : zfr [(zs b, 6), (26, 6), (26, 9), (zs b, 1), (zs b, 2)] [zs b + 1, zs b + 2, zs b + 3, zs b + 4] [] s t) (g6 : zgf t (zs b) 6 = nI (R.length + 1)) (gd : zgf t 26 6 = nI l.length) (hp : pzPr b t lp (pznl lp))
    (r2 : ∀ i, zA t (zs b + 2) i = if i = R.length then zcode x.sg else zA s (zs b + 2) i) (r3 : ∀ i, zA t (zs b + 3) i = if i = R.length then nI x.mk else zA s (zs b + 3) i) (r4 : ∀ i, i ≠ R.length → zA t (zs b + 4) i = if i = q0 then nI R.length else zA s (zs b + 4) i) : pzCY h b (x :: R) lp 0 t := by
  obtain ⟨c1, c2, c3, c4, c5, c6, c7, c8, c9, c10, c11, c12⟩ := hs
  have hb := zs_c b
  have sx : pzstk (x :: R) = l := by rw [pzstk_c R x1, hst]; rfl
  have gX : ∀ k, k ≠ zs b + 1 → k ≠ zs b + 2 → k ≠ zs b + 3 → k ≠ zs b + 4 → zA t k = zA s k := fun k a1 a2 a3 a4 => f.a k (by simp <;> omega)
  have hm := pzstk_mem hV (show q0 ∈ pzstk R by rw [hst]; exact List.mem_cons_self)
  refine ⟨zHX_fr c1 F, by rw [F.b 2]; exact c2, by rw [f.f 26 4 (by simp <;> omega)]; exact c3, by rw [sx]; exact gd, ?_, fun z => absurd (pzph_0 R (by omega)) z, ?_, g6, ?_, hp, fun k hk => ?_, fun m hm => ?_⟩
  · rw [f.f 26 7 (by simp <;> omega), pzmk_n R (by omega)]; exact c5
  · rw [sx]
    rw [hst] at c7
    exact pzXs_eq (s := s) _ (fun d _ => by rw [gX 28 (by omega) (by omega) (by omega) (by omega)]) c7.2
  · rw [f.f (zs b) 8 (by simp <;> omega), pzwn_n R (by omega)]; exact c9
  · rw [List.length_cons] at hk
    by_cases z : k < R.length
    · obtain ⟨a1, a2, a3, a4⟩ := c11 k z
      unfold pzXi
      rw [pzat_old x z, r2, if_neg (by omega), r3, if_neg (by omega), r4 k (by omega), sx]
      by_cases y : k = q0
      · subst y
        rw [if_pos rfl]
        refine ⟨a1, a2, fun w => by omega, fun _ _ => ?_⟩
        rw [pzlk, if_pos (Or.inl ⟨x1.1, x1.2, by rw [hst]; rfl⟩)]
      · rw [if_neg y]
        refine ⟨a1, a2, a3, fun w1 w2 => ?_⟩
        rw [pzlk_old (fun w => y ?_) (by omega)]
        · exact a4 w1 (by rw [hst]; exact fun w => (List.mem_cons.1 w).elim y w2)
        · have := w.2.2
          rw [hst] at this
          exact (Option.some.inj this).symm
    · obtain rfl : k = R.length := by omega
      unfold pzXi
      rw [pzat_new, r2, if_pos rfl, r3, if_pos rfl]
      exact ⟨rfl, fun _ => rfl, fun w => by omega, fun w => by omega⟩
  · refine pzXm_flat (Or.inr (Or.inr (Or.inr x1))) (c12 m hm) ?_ ?_ ?_ ?_ ?_ ?_ ?_ ?_ ?_
    · exact gX _ (by omega) (by omega) (by omega) (by omega)
    · exact gX _ (by omega) (by omega) (by omega) (by omega)
    · rw [gX _ (by omega) (by omega) (by omega) (by omega), (c12 m hm).2.1, pzns, if_neg (by omega), if_neg (by omega), Nat.add_zero]
    · exact gX _ (by omega) (by omega) (by omega) (by omega)
    · exact gX _ (by omega) (by omega) (by omega) (by omega)
    · exact gX _ (by omega) (by omega) (by omega) (by omega)
    · exact gX _ (by omega) (by omega) (by omega) (by omega)
    · exact gX 29 (by omega) (by omega) (by omega) (by omega)
    · exact gX 30 (by omega) (by omega) (by omega) (by omega)
section
variable {N : Nat} {h : List Nat} {b : Bool} {K : Int32 × Int32 × zq_S → Option (Int32 × zq_S)} {Q : Int32 × zq_S → Prop}
theorem X_C (hN : 5000 ≤ N) {R : List zIt} {s : zq_S} {p k : Nat} (hI : pzI h R p) (h0 : pzph R = 0) (hk : 1 ≤ k ∧ k ≤ 3) (hs : pzCX h b R 0 s) (hg : zgt h (zskp h p) = pzcb k) (hq : zskp h p < h.length) (hG : pzGo N h b K Q R s (pzC R (zskp h p) k)) (hok : (pzC R (zskp h p) k).1.1 = 0 → pzok R (pzC R (zskp h p) k).2.1) : pzRX N h b K Q (zskp h p) s := by
  have hV := hI.1
  have hpl := hI.2.1.2.1
  have sk := pzsk h hpl
  have hlen := pz_len hV
  have hb := zs_c b
  have hc : pzcb k < 128 ∧ 57 < pzcb k := by rcases pzcb_c hk with y | y | y <;> omega
  have h4 := hs.1.2.2.1
  have hf : zfig h (zskp h p) = false := by unfold zfig; exact decide_eq_false (by omega)
  have hlp := hI.2.1.1
  refine pzRX_tok hN hs.1 hq ?_
  rw [hf, if_neg (show ¬ false = true by decide), mX5_tok_sgn N hs.1 hq hf (fun y => by omega), mX5_sgn_item N hs.1 hq hs.2.2.1, hg]
  generalize zskp h p = q at *
  have e : mX5_takeItemSign N (nI (pzcb k)) (nI q) s = zq_b2 (mX5_closeBracket N (zcode (k + 3)) (zpf s 26 9 (nI q))) (fun r t => some (r, t)) := by
    unfold mX5_takeItemSign
    rcases pzcb_c hk with ⟨y, z⟩ | ⟨y, z⟩ | ⟨y, z⟩ <;> rw [z, y] <;> rfl
  rw [e]
  have hs9 := pzCX_9 (nI q) hs
  have F9 : pzFX b s (zpf s 26 9 (nI q)) := zfr_pf _ _ _ (by simp)
  by_cases z : (pzC R q k).1.1 = 0
  · have hx := hok z
    have hc0 : pzstk R ≠ [] ∧ (pzstk R).headD 0 + 1 ≠ R.length ∧ (pzat R ((pzstk R).headD 0)).sg = k := by
      apply Classical.byContradiction
      intro w
      unfold pzC at z
      rw [if_neg w] at z
      exact absurd z (pzFl_ne (by decide))
    have e1 : pzC R q k = ((0, q), ((k + 3, (pzat R ((pzstk R).headD 0)).mk, 0, 0, q), q + 1)) := by unfold pzC; exact if_pos hc0
    rw [e1] at hG hx
    cases es : pzstk R with
    | nil => exact absurd es hc0.1
    | cons q0 l =>
      rw [es] at hc0 hG hx
      have hm := pzstk_mem hV (show q0 ∈ pzstk R by rw [es]; exact List.mem_cons_self)
      have hdep := pz_dep hV
      rw [es, List.length_cons] at hdep
      obtain ⟨c1, c2, c3, c4, c5, c6, c7, c8, c9, c10, c11, c12⟩ := hs9
      rw [es] at c4 c7
      obtain ⟨o1, o2, _⟩ := c11 q0 hm.1
      rw [zw_b2, zw_b2, zw_b2]
      refine zw_mono (X_closeOk N (g := (pzat R q0).sg) (mk := (pzat R q0).mk) (n := R.length) c2 hk hc0.2.2 c7 hdep c4 c8 (by omega) (by have := hc0.2.1; rw [List.headD_cons] at this; omega) o1 (o2 (Or.inl (by omega)))) ?_
      intro v ⟨v0, f, g6, gd, g2, g3, g4⟩
      refine zw_some.2 ?_
      dsimp only
      rw [v0, ← pzcb_i hk] at *
      have p10 : pzPr b v.2 (pzpr R) (pznl (pzpr R)) := pzPr_fr c10 (f.f (zs b) 1 (by simp <;> omega)) (f.f (zs b) 2 (by simp <;> omega)) (f.a _ (by simp))
      refine zw_mono (X_last N (x := pzcb k) (by rw [f.b 2]; exact c2) p10 (by omega) hc.1 (Or.inr hc.2)) ?_
      intro w ⟨w0, fw, pw⟩
      refine zw_some.2 (Or.inl ⟨w0, ?_⟩)
      dsimp only
      have wA : ∀ k, k ≠ zs b + 1 → zA w.2 k = zA v.2 k := fun k a1 => fw.a k (by simp <;> omega)
      refine hG.1 rfl w.2 ((F9.tr (f.mo (by simp) (by simp) (by simp))).tr (pzFP_FX fw)) ?_
      rw [pzst_0 (x := (k + 3, (pzat R ((q0 :: l).headD 0)).mk, 0, 0, q)) R (show zIt.sg (k + 3, (pzat R ((q0 :: l).headD 0)).mk, 0, 0, q) < 8 by show k + 3 < 8; omega)]
      have pp : pzpr ((k + 3, (pzat R ((q0 :: l).headD 0)).mk, 0, 0, q) :: R) = pzpr R ++ [pzcb k] := by
        show pzpx (pzpr R) _ = _
        rcases pzcb_c hk with ⟨y, z⟩ | ⟨y, z⟩ | ⟨y, z⟩ <;> rw [z, y] <;> rfl
      unfold pzCX
      dsimp only
      rw [pp]
      refine X_closeDone (s := s) hV hx (show 4 ≤ k + 3 ∧ k + 3 ≤ 6 by omega) es hm.1 hs ((F9.tr (f.mo (by simp) (by simp) (by simp))).tr (pzFP_FX fw)) (((zfr_pf _ _ _ (by simp)).tr (f.mo (by simp) (by simp) (by simp))).tr (fw.mo (by simp) (by simp) (by simp))) ?_ ?_ pw (fun i => ?_) (fun i => ?_) (fun i hi => ?_)
      · rw [fw.f (zs b) 6 (by simp)]; exact g6
      · rw [fw.f 26 6 (by simp <;> omega)]; exact gd
      · rw [wA _ (by omega), g2]
        show _ = if i = R.length then zcode (k + 3) else _
        rw [pzcb_i hk]; rfl
      · rw [wA _ (by omega), g3]; rfl
      · rw [wA _ (by omega), g4 i hi]; rfl
  · rw [X_closeBad N (q := q) hV hs9 hk z, zb2_some, zb2_some]
    dsimp only
    have e2 : jX5_takeSign_j148 N (nI (pzcb k)) 1 (zpf s 26 9 (nI q)) = some (1, zpf s 26 9 (nI q)) := rfl
    rw [e2, zb2_some]
    have e1 : pzC R q k = pzFl 1 q := by
      unfold pzC at z ⊢
      by_cases w : pzstk R ≠ [] ∧ (pzstk R).headD 0 + 1 ≠ R.length ∧ (pzat R ((pzstk R).headD 0)).sg = k
      · rw [if_pos w] at z; exact absurd rfl z
      · rw [if_neg w]
    rw [e1] at hG
    exact zw_some.2 (Or.inr ⟨1, by decide, by decide, rfl, (hG.2 (pzFl_ne (by decide))).1 _ F9 hq⟩)
theorem X_A (hN : 5000 ≤ N) {R : List zIt} {s : zq_S} {p : Nat} (hI : pzI h R p) (h0 : pzph R = 0) (hs : pzCX h b R 0 s) (hg : zgt h (zskp h p) = 42) (hq : zskp h p < h.length) (hG : pzGo N h b K Q R s (pzA h R (zskp h p))) (hok : (pzA h R (zskp h p)).1.1 = 0 → pzok R (pzA h R (zskp h p)).2.1) : pzRX N h b K Q (zskp h p) s := by
  have hV := hI.1
  have hpl := hI.2.1.2.1
  have sk := pzsk h hpl
  have h4 := hs.1.2.2.1
  have hb := zs_c b
  have hf : zfig h (zskp h p) = false := by unfold zfig; exact decide_eq_false (by omega)
  have B1 : pzB h (pzpr R ++ [42]) (zskp h p + 1) := pzB_sgn hI.2.1 hq (by omega)
  have hlp := hI.2.1.1
  have hps := hI.2.2.1
  unfold pzA at hG hok
  refine pzRX_tok hN hs.1 hq ?_
  rw [hf, if_neg (show ¬ false = true by decide), mX5_tok_sgn N hs.1 hq hf (fun y => by omega)]
  cases a3 : pzA3 R with
  | true =>
    rw [a3, if_pos rfl] at hG
    rw [X_sstar_bad N hN hV hs hg hq a3, zb2_some]
    exact zw_some.2 (Or.inr ⟨1, by decide, by decide, rfl, (hG.2 (pzFl_ne (by decide))).1 _ (zfr_pf _ _ _ (by simp)) hq⟩)
  | false =>
    rw [a3, if_neg (show ¬ false = true by decide)] at hG hok
    rw [zw_b2]
    refine zw_mono (X_sstar N hN hV hs hg hq a3 (by omega)) ?_
    intro v ⟨v0, F, D, h9⟩
    refine zw_some.2 (Or.inl ⟨v0, ?_⟩)
    generalize zskp h p = q at *
    dsimp only
    have told : pzv h (q + 1) < 10 → mX5_isToldAlready N (nI (pzv h (q + 1))) v.2 = some (zib ((pzsr R).testBit (pzv h (q + 1))), v.2) := by
      intro hv
      have r29 := (D.2.2.2.2.2.2.2.2.2.2.1 _ hv).2.2.2.2.2.2.1
      cases y : (pzsr R).testBit (pzv h (q + 1)) with
      | false =>
        rw [y] at r29
        exact mX5_told_star N (x := 0) (T := false) D.2.2.1 hv r29 (by decide)
      | true =>
        rw [y] at r29
        have := hps _ (pz_sx y).1
        exact mX5_told_star N (T := true) D.2.2.1 hv r29 (by omega)
    refine pzRX_mark hN D.1 B1.2.1 (k := 7) D.2.2.1 (by omega) told (fun c hc1 hc2 => ?_) (fun n0 T0 => ?_)
    · by_cases n0 : pzNc h (q + 1) 9 = 0
      · rw [if_pos n0] at hG hc1
        cases y : (pzsr R).testBit (pzv h (q + 1)) with
        | false => rw [y] at hc1; exact absurd hc1 hc2
        | true =>
          rw [y, if_pos rfl] at hG hc1
          rw [hc1]
          exact pzKB_fr (hG.2 (pzFl_ne (by decide))) F
      · rw [if_neg n0] at hG hc1
        rw [hc1]
        exact pzKB_fr (hG.2 n0) F
    · rw [if_pos n0, T0, if_neg (show ¬ false = true by decide)] at hG hok
      obtain ⟨_, n2, n3, n4, n5, _⟩ := pzN_ok B1.2.1 n0 (by decide)
      have B2 := pzB_num B1 n0 (by decide)
      have ok0 := hok rfl
      dsimp only at ok0
      rw [D.2.1]
      refine zw_mono (mX7_printNumber_w N D.2.2.2.2.2.2.2.2.1 (by omega) (Nat.le_trans B2.1 (Nat.le_trans B2.2.1 h4))) ?_
      intro v1 ⟨f1, p1⟩
      rw [← pznl_zpn (pzpr R ++ [42]) (pzv h (q + 1)) (by omega)] at p1
      have D1 := pzDX_pr D f1 p1
      have F1 : pzFX b s v1.2 := F.tr (pzFP_FX f1)
      have h91 : zgf v1.2 26 9 = nI q := by rw [f1.f 26 9 (by simp <;> omega)]; exact h9
      generalize v1.2 = s1 at D1 F1 h91
      clear p1 f1
      unfold mX5_takeMark jX5_takeMark_j61
      rw [D1.2.2.1, if_neg (show ¬ (7 : Int32) = 5 by decide), if_neg (show ¬ (7 : Int32) = 6 by decide), if_pos rfl, zw_b2]
      refine zw_mono (X_starMark N hN (x := (7, pzv h (q + 1), 0, 0, q)) hV ok0 rfl D1 h91) ?_
      intro v2 ⟨f2, C2⟩
      refine zw_some.2 ?_
      dsimp only
      refine hG.1 rfl v2.2 (F1.tr f2) ?_
      rw [pzst_0 (x := (7, pzv h (q + 1), 0, 0, q)) R (show (7 : Nat) < 8 by decide)]
      exact C2
theorem X_W8 (hN : 5000 ≤ N) {R : List zIt} {s : zq_S} {p : Nat} (hI : pzI h R p) (h0 : pzph R = 0) (hs : pzCX h b R 0 s) (hg : zgt h (zskp h p) = 40) (hq : zskp h p < h.length) (hG : pzGo N h b K Q R s (pzWd h R 8 (zskp h p) (zskp h p + 1))) : pzRX N h b K Q (zskp h p) s := by
  have hV := hI.1
  have hpl := hI.2.1.2.1
  have sk := pzsk h hpl
  have h4 := hs.1.2.2.1
  have hb := zs_c b
  have hf : zfig h (zskp h p) = false := by unfold zfig; exact decide_eq_false (by omega)
  have B1 : pzB h (pzpr R ++ [40]) (zskp h p + 1) := pzB_sgn hI.2.1 hq (by omega)
  have hlp := hI.2.1.1
  unfold pzWd at hG
  refine pzRX_tok hN hs.1 hq ?_
  rw [hf, if_neg (show ¬ false = true by decide), mX5_tok_sgn N hs.1 hq hf (fun y => by omega), zw_b2]
  refine zw_mono (X_srow N hV hs hg hq (by omega)) ?_
  intro v ⟨v0, F, D, h8⟩
  refine zw_some.2 (Or.inl ⟨v0, ?_⟩)
  generalize zskp h p = q at *
  dsimp only
  refine pzRX_wd hN hV D.1 B1.2.1 (k := 9) D.2.2.1 (Or.inl rfl) D.2.1 D.2.2.2.2.2.2.2.1 (fun c hc1 hc2 => ?_) (fun w0 => ?_)
  · rw [hc1] at hc2
    rw [if_neg hc2] at hG
    rw [hc1]
    exact pzKB_fr (hG.2 hc2) F
  · rw [if_pos w0] at hG
    obtain ⟨n0, hw⟩ := pzW_ok hV w0
    obtain ⟨_, n2, n3, n4, n5, _⟩ := pzN_ok B1.2.1 n0 (by decide)
    have B2 := pzB_num B1 n0 (by decide)
    have ok0 : pzok R (8, 0, pzv h (q + 1), 0, q) := pzok_w h0 (Or.inr rfl) (by omega) hw
    refine zw_mono (mX7_printNumber_w N D.2.2.2.2.2.2.2.2.1 (by omega) (Nat.le_trans B2.1 (Nat.le_trans B2.2.1 h4))) ?_
    intro v1 ⟨f1, p1⟩
    rw [← pznl_zpn (pzpr R ++ [40]) (pzv h (q + 1)) (by omega)] at p1
    have D1 := pzDX_pr D f1 p1
    have F1 : pzFX b s v1.2 := F.tr (pzFP_FX f1)
    have h81 : zgf v1.2 26 8 = -1 := by rw [f1.f 26 8 (by simp <;> omega)]; exact h8
    refine zw_mono (X_rowWord N hN (x := (8, 0, pzv h (q + 1), 0, q)) hV ok0 rfl D1 h81) ?_
    intro v2 ⟨f2, C2⟩
    exact hG.1 rfl v2.2 (F1.tr f2) C2
theorem pzW_fig {R : List zIt} {q : Nat} (hp : q ≤ h.length) (sid : zskp h q = q) (f : zfig h q = true) : pzWc h R q = if 2 < znd h q - q then 2 else if pzwn R = 40 then 4 else 0 := by
  obtain ⟨e1, e2, e3, _⟩ := pznd h hp
  have f1 := of_decide_eq_true f
  have vle : ¬ 2 < pze h q - zskp h q → ¬ 99 < pzv h q := by
    intro y
    have hh : pze h q = znd h (zskp h q) := rfl
    rw [sid] at hh
    unfold pzv zval
    rw [sid] at y ⊢
    split
    · rename_i w
      have f2 := of_decide_eq_true (e3 (q + 1) (by omega) (by omega))
      omega
    · omega
  have hh : pze h q - zskp h q = znd h q - q := by unfold pze; rw [sid]
  unfold pzWc pzNc
  rw [sid, if_pos f]
  rw [hh] at vle
  rw [sid] at hh
  rw [hh]
  by_cases z : 2 < znd h q - q
  · rw [if_pos (Or.inl z), if_pos z]; rfl
  · rw [if_neg (show ¬ (2 < znd h q - q ∨ 99 < pzv h q) from fun y => y.elim z (vle z)), if_neg z]; rfl
theorem X_W0 (hN : 5000 ≤ N) {R : List zIt} {s : zq_S} {p : Nat} (hI : pzI h R p) (h0 : pzph R = 0) (hs : pzCX h b R 0 s) (hg : ∀ c, c = 40 ∨ c = 42 ∨ c = 60 ∨ c = 62 ∨ c = 91 ∨ c = 93 ∨ c = 123 ∨ c = 125 → zgt h (zskp h p) ≠ c) (hq : zskp h p < h.length) (hG : pzGo N h b K Q R s (pzWd h R 0 (zskp h p) (zskp h p))) : pzRX N h b K Q (zskp h p) s := by
  have hV := hI.1
  have hpl := hI.2.1.2.1
  have sk := pzsk h hpl
  have sid := pzsk_id h hpl
  have h4 := hs.1.2.2.1
  have hB := hI.2.1
  have h256 := zgt_256 hs.1.2.2.2 (zskp h p)
  have ev : pzv h p = pzv h (zskp h p) := by unfold pzv; rw [sid]
  have ee : pze h p = pze h (zskp h p) := by unfold pze; rw [sid]
  have en : pzNc h p 99 = pzNc h (zskp h p) 99 := by unfold pzNc; rw [sid, ev, ee]
  have eN : pze h (zskp h p) = znd h (zskp h p) := by unfold pze; rw [sid]
  have F9 : ∀ v : Int32, pzFX b s (zpf s 26 9 v) := fun v => zfr_pf _ _ _ (by simp)
  refine pzRX_tok hN hs.1 hq ?_
  unfold pzWd at hG
  cases f : zfig h (zskp h p) with
  | true =>
    rw [if_pos rfl]
    by_cases w0 : pzWc h R (zskp h p) = 0
    · rw [if_pos w0] at hG
      have n0 := (pzW_ok hV w0).1
      rw [← en] at n0
      have B2 := pzB_num hB n0 (by decide)
      rw [ev, ee] at B2
      refine zw_mono (X_word N hN hV h0 hs f w0 sid (by omega) (Nat.le_trans B2.1 (Nat.le_trans B2.2.1 h4))) ?_
      intro v ⟨v0, F, C⟩
      refine Or.inl ⟨v0, ?_⟩
      rw [← eN]
      refine hG.1 rfl v.2 F ?_
      rw [pzst_0 (x := (0, 0, pzv h (zskp h p), 0, zskp h p)) R (show (0 : Nat) < 8 by decide)]
      exact C
    · rw [if_neg w0] at hG
      rw [mX5_tok_num N hs.1 f, mX5_numWord N hs.1 f (Or.inl hs.2.2.1) hs.2.1 hs.2.2.2.2.2.2.2.2.1 (pz_wn hV)]
      have hw := pzW_fig (R := R) (by omega) sid f
      by_cases z : 2 < znd h (zskp h p) - zskp h p
      · rw [if_pos z] at hw ⊢
        rw [hw, sid] at hG
        exact zw_some.2 (Or.inr ⟨2, by decide, by decide, rfl, (hG.2 (pzFl_ne (by decide))).1 _ zfr_rfl hq⟩)
      · rw [if_neg z] at hw ⊢
        by_cases y : pzwn R = 40
        · rw [if_pos y] at hw ⊢
          rw [hw, sid] at hG
          exact zw_some.2 (Or.inr ⟨4, by decide, by decide, rfl, (hG.2 (pzFl_ne (by decide))).1 _ zfr_rfl hq⟩)
        · rw [if_neg y] at hw
          exact absurd hw w0
  | false =>
    rw [if_neg (show ¬ false = true by decide), mX5_tok_sgn N hs.1 hq f (fun y => sk.2.2.2 ⟨hq, y⟩), mX5_sgn_item N hs.1 hq hs.2.2.1]
    have w1 : pzWc h R (zskp h p) = 1 := by unfold pzWc pzNc; rw [sid, f]; rfl
    rw [w1, if_neg (by decide), sid] at hG
    have E : ∀ x : Nat, x < 256 → (x = 40 ∨ x = 42 ∨ x = 60 ∨ x = 62 ∨ x = 91 ∨ x = 93 ∨ x = 123 ∨ x = 125) → ¬ nI (zgt h (zskp h p)) = nI x := fun x hx hc y => hg x hc ((nI_eq (by omega) (by omega)).1 y)
    have e : mX5_takeItemSign N (nI (zgt h (zskp h p))) (nI (zskp h p)) s = some (1, zpf s 26 9 (nI (zskp h p))) := by
      unfold mX5_takeItemSign
      dsimp only [zq_let]
      rw [if_neg (show ¬ nI (zgt h (zskp h p)) = 40 from E 40 (by decide) (by decide)), if_neg (show ¬ nI (zgt h (zskp h p)) = 42 from E 42 (by decide) (by decide)), if_neg (show ¬ nI (zgt h (zskp h p)) = 60 from E 60 (by decide) (by decide)), if_neg (show ¬ nI (zgt h (zskp h p)) = 62 from E 62 (by decide) (by decide)), if_neg (show ¬ nI (zgt h (zskp h p)) = 91 from E 91 (by decide) (by decide)), if_neg (show ¬ nI (zgt h (zskp h p)) = 93 from E 93 (by decide) (by decide)), if_neg (show ¬ nI (zgt h (zskp h p)) = 123 from E 123 (by decide) (by decide)), if_neg (show ¬ nI (zgt h (zskp h p)) = 125 from E 125 (by decide) (by decide))]
    have e2 : jX5_takeSign_j148 N (nI (zgt h (zskp h p))) 1 (zpf s 26 9 (nI (zskp h p))) = some (1, zpf s 26 9 (nI (zskp h p))) := rfl
    rw [e, zb2_some]
    dsimp only
    rw [e2, zb2_some]
    exact zw_some.2 (Or.inr ⟨1, by decide, by decide, rfl, (hG.2 (pzFl_ne (by decide))).1 _ (F9 _) hq⟩)
theorem X_rest (hN : 5000 ≤ N) {R : List zIt} {s : zq_S} {p : Nat} (hI : pzI h R p) (h0 : pzph R ≠ 0) (hs : pzCX h b R (pzst R) s) (hq : zskp h p < h.length) (hG : pzGo N h b K Q R s (pzS h R (zskp h p))) : pzRX N h b K Q p s := by
  have hV := hI.1
  have hpl := hI.2.1.2.1
  have sk := pzsk h hpl
  have h4 := hs.1.2.2.1
  have hb := zs_c b
  have hlen := pz_len hV
  have hlp := hI.2.1.1
  have hle := pzph_le R
  rw [pzS_row h0] at hG
  have hst : pzst R = nI (if pzph R = 1 then 3 else 4) := by
    unfold pzst
    rw [if_neg h0]
    by_cases y : pzph R = 1
    · rw [if_pos y, if_pos y]; rfl
    · rw [if_neg y, if_neg y]; rfl
  have hkk : (pzph R = 1 ∧ (if pzph R = 1 then 3 else 4) = 3) ∨ (pzph R = 2 ∧ (if pzph R = 1 then 3 else 4) = 4) := by
    by_cases y : pzph R = 1
    · exact Or.inl ⟨y, if_pos y⟩
    · exact Or.inr ⟨by omega, if_neg y⟩
  rw [hst] at hs
  generalize (if pzph R = 1 then 3 else 4) = k at hs hkk
  have B1 : zskp h p < h.length → pzB h (pzpr R ++ [47]) (zskp h p + 1) := fun hq => pzB_sgn hI.2.1 hq (by omega)
  refine pzRX_sgn hN hs.1 hpl hs.2.2.1 (by omega) (zgt h (zskp h p) = 47 ∨ (zgt h (zskp h p) = 41 ∧ pzph R = 2)) (by omega) (fun _ g => ?_) (fun g _ => ?_) (fun e => by omega)
  · rcases g with g | ⟨g, g2⟩
    · rw [if_pos g] at hG
      have B1 := B1 hq
      unfold pzL at hG
      refine zw_mono (X_sover N hV h0 (by omega) hs g hq (by omega)) ?_
      intro v ⟨v0, F, D, h8⟩
      refine ⟨v0, ?_⟩
      generalize zskp h p = q at *
      have KM : pzv h (q + 1) < 10 → mX5_isToldAlready N (nI (pzv h (q + 1))) v.2 = some (zib ((pzmk R).testBit (pzv h (q + 1))), v.2) := fun a3 => mX5_told_mark N (k := 8) D.2.2.1 (by omega) D.2.2.2.2.1 (pzmk_lt hV) a3
      refine pzRX_mark hN D.1 B1.2.1 (k := 8) D.2.2.1 (by omega) KM (fun c hc1 hc2 => ?_) (fun n0 T0 => ?_)
      · have e1 : c = pzMc h (pzmk R) (q + 1) := hc1
        rw [e1] at hc2
        rw [if_neg hc2] at hG
        rw [e1]
        exact pzKB_fr (hG.2 hc2) F
      · have m0 : pzMc h (pzmk R) (q + 1) = 0 := by unfold pzMc; rw [if_pos n0, T0]; rfl
        rw [if_pos m0] at hG
        obtain ⟨_, n2, n3, n4, n5, _⟩ := pzN_ok B1.2.1 n0 (by decide)
        have B2 := pzB_num B1 n0 (by decide)
        rw [D.2.1]
        refine zw_mono (mX7_printNumber_w N D.2.2.2.2.2.2.2.2.1 (by omega) (Nat.le_trans B2.1 (Nat.le_trans B2.2.1 h4))) ?_
        intro v1 ⟨f1, p1⟩
        rw [← pznl_zpn (pzpr R ++ [47]) (pzv h (q + 1)) (by omega)] at p1
        have D1 := pzDX_pr D f1 p1
        have F1 : pzFX b s v1.2 := F.tr (pzFP_FX f1)
        have h81 : zgf v1.2 26 8 = pzov R := by rw [f1.f 26 8 (by simp <;> omega)]; exact h8
        generalize v1.2 = s1 at D1 F1 h81
        clear p1 f1
        unfold mX5_takeMark jX5_takeMark_j61
        rw [D1.2.2.1, if_neg (show ¬ (8 : Int32) = 5 by decide), if_neg (show ¬ (8 : Int32) = 6 by decide), if_neg (show ¬ (8 : Int32) = 7 by decide), zw_b2]
        refine zw_mono (X_overMark N hN (x := (9, pzv h (q + 1), pzv h (pze h (q + 1)), 0, q)) hV (show pzv h (q + 1) < 10 by omega) rfl D1 h81) ?_
        intro v2 ⟨f2, C2⟩
        refine zw_some.2 ?_
        dsimp only
        have F2 : pzFX b s v2.2 := F1.tr f2
        generalize v2.2 = s2 at C2 F2
        clear f2
        have he := B2.2.1
        generalize hee : pze h (q + 1) = e at *
        refine pzRX_wd hN hV C2.1 he (k := 10) C2.2.2.1 (Or.inr rfl) C2.2.1 C2.2.2.2.2.2.2.2.2.1 (fun c hc1 hc2 => ?_) (fun w0 => ?_)
        · rw [hc1] at hc2
          rw [if_neg hc2] at hG
          rw [hc1]
          exact pzKB_fr (hG.2 hc2) F2
        · rw [if_pos w0] at hG
          obtain ⟨n0', hw⟩ := pzW_ok hV w0
          obtain ⟨_, n12, n13, n14, n15, _⟩ := pzN_ok he n0' (by decide)
          have B4 := pzB_num B2 n0' (by decide)
          have ok0 : pzok R (9, pzv h (q + 1), pzv h e, 0, q) := pzok_9 h0 (by omega) (by omega) T0 hw
          refine zw_mono (mX7_printNumber_w N C2.2.2.2.2.2.2.2.2.2.1 (by omega) (Nat.le_trans B4.1 (Nat.le_trans B4.2.1 h4))) ?_
          intro v4 ⟨f4, p4⟩
          rw [← pznl_zpn (zpn (pzpr R ++ [47]) (pzv h (q + 1))) (pzv h e) (by omega)] at p4
          have C4 := pzEX_pr C2 f4 p4
          have F4 : pzFX b s v4.2 := F2.tr (pzFP_FX f4)
          refine zw_mono (X_overWord N hN (x := (9, pzv h (q + 1), pzv h e, 0, q)) hV ok0 rfl C4) ?_
          intro v5 ⟨f5, C5⟩
          exact hG.1 rfl v5.2 (F4.tr f5) C5
    · rw [if_neg (by omega), if_pos ⟨g, g2⟩] at hG
      have k4 : k = 4 := by omega
      subst k4
      have hs' := hs
      obtain ⟨c1, c2, c3, c4, c5, c6, c7, c8, c9, c10, c11, c12⟩ := hs'
      have e1 : mX5_takeSign N (nI (zskp h p)) s = zq_b2 (mX7_addItem N b 41 s) (fun r5 s6 => zq_b2 (mX5_go N (0 : Int32) s6) (fun r7 s8 => jX5_takeSign_j148 N 41 r7 s8)) := by
        unfold mX5_takeSign
        rw [mX5_byteAt_eq N c1 (by omega), zb2_some, g]
        dsimp only
        rw [c3, if_neg (by decide), if_neg (by decide)]
        unfold jX5_takeSign_j56
        rw [if_neg (by decide)]
        unfold jX5_takeSign_j80
        rw [if_neg (by decide)]
        unfold jX5_takeSign_j120
        rw [if_pos (show nI 41 = (41 : Int32) from rfl), c3, c2, if_pos (show nI 4 = 4 from rfl)]
        rfl
      rw [e1]
      refine zw_call (mX7_addItem_w N (n := R.length) c8 (by omega) _) ?_
      intro r t ⟨f, g6, g2', g3, g4⟩
      dsimp only at f g6 g2' g3 g4 ⊢
      have F : zfr [(zs b, 6), (26, 4), (26, 6), (26, 8), (26, 9)] [28, zs b + 2, zs b + 3, zs b + 4] [] s (zpf t 26 4 0) := (f.mo (by simp) (by simp) (by simp)).tr (zfr_pf _ _ _ (by simp))
      have D : pzDX h b R (pzstk R) (pzpr R) 0 (zcode 10) (zpf t 26 4 0) := by
        refine pzDX_mk hs F (by rw [zgf_pf, if_neg (by omega)]; exact g6) (by rw [zgf_pf, if_pos ⟨rfl, rfl⟩]) ?_ ?_ g2' (fun i hi => ?_) (fun i hi => ?_)
        · rw [zgf_pf, if_neg (by omega), f.f 26 6 (by simp <;> omega)]; exact c4
        · exact pzXs_eq (s := s) _ (fun d _ => by rw [zA_pf, f.a 28 (by simp <;> omega)]) c7
        · rw [zA_pf, g3, if_neg hi]
        · rw [zA_pf, g4, if_neg hi]
      show zw (jX5_takeSign_j148 N (nI 41) 0 (zpf t 26 4 0)) _
      refine zw_mono (X_last N (x := 41) D.2.1 D.2.2.2.2.2.2.2.2.1 (by omega) (by decide) (by decide)) ?_
      intro w ⟨w0, fw, pw⟩
      refine ⟨w0, ?_⟩
      have D2 := pzDX_pr D fw pw
      have FF : pzFX b s w.2 := (F.mo (by simp) (by simp) (by simp)).tr (pzFP_FX fw)
      refine hG.1 rfl w.2 FF ?_
      have hok : pzok R (10, 0, 0, 0, zskp h p) := pzok_10 g2
      have CX : ∀ x : zIt, x.sg = 10 → pzok R x → pzpr (x :: R) = pzpr R ++ [41] → pzCX h b (x :: R) (pzst (x :: R)) w.2 := by
        intro x x1 hx xp
        obtain ⟨d1, d2, d3, d4, d5, d6, d7, d8, d9, d10, d11, d12⟩ := D2
        have sx : pzstk (x :: R) = pzstk R := pzstk_e R (by omega)
        have ph : pzph (x :: R) = 0 := by rw [pzph, if_neg (by omega), if_neg (by omega)]
        have st0 : pzst (x :: R) = 0 := by unfold pzst; rw [if_pos ph]
        rw [st0]
        refine ⟨d1, d2, d3, by rw [sx]; exact d4, by rw [pzmk_n R (by omega)]; exact d5, fun y => absurd ph y, by rw [sx]; exact d6, d7, by rw [pzwn_n R (by omega)]; exact d8, by rw [xp]; exact d9, fun k hk => ?_, fun m hm => ?_⟩
        · rw [List.length_cons] at hk
          by_cases z : k < R.length
          · exact pzXi_old (by omega) ⟨hV, hx⟩ z (d10 k z) rfl rfl rfl
          · obtain rfl : k = R.length := by omega
            unfold pzXi
            rw [pzat_new, d12, x1]
            exact ⟨rfl, fun y => by omega, fun y => by omega, fun y => by omega⟩
        · refine pzXm_flat (Or.inr (Or.inr (Or.inl x1))) (d11 m hm) rfl rfl ?_ rfl rfl rfl rfl rfl rfl
          rw [(d11 m hm).2.1, pzns, if_neg (by omega), if_neg (by omega), Nat.add_zero]
      exact CX _ rfl hok rfl
  · rw [if_neg (fun y => g (Or.inl y)), if_neg (fun y => g (Or.inr y))] at hG
    exact (hG.2 (pzFl_ne (by decide))).1 s zfr_rfl hq
/-- one item of the class -/
theorem X_item (hN : 5000 ≤ N) {R : List zIt} {s : zq_S} {p : Nat} (hI : pzI h R p) (hs : pzCX h b R (pzst R) s) (hq : zskp h p < h.length) (hG : pzGo N h b K Q R s (pzS h R (zskp h p))) : pzRX N h b K Q p s := by
  have hpl := hI.2.1.2.1
  by_cases h0 : pzph R = 0
  · have hst : pzst R = 0 := by unfold pzst; rw [if_pos h0]
    rw [hst] at hs
    refine pzRX_skip hN hs.1 _ p (Nat.le_refl _) hpl ?_
    have okk : (pzS h R (zskp h p)).1.1 = 0 → pzok R (pzS h R (zskp h p)).2.1 := fun y => (pzS_ok hI hq y).1.1.2
    unfold pzS at hG okk
    rw [if_pos h0] at hG okk
    by_cases a1 : zgt h (zskp h p) = 123
    · rw [if_pos a1] at hG; exact X_O (k := 1) hN hI h0 (by decide) hs a1 hq hG
    rw [if_neg a1] at hG okk
    by_cases a2 : zgt h (zskp h p) = 91
    · rw [if_pos a2] at hG; exact X_O (k := 2) hN hI h0 (by decide) hs a2 hq hG
    rw [if_neg a2] at hG okk
    by_cases a3 : zgt h (zskp h p) = 60
    · rw [if_pos a3] at hG; exact X_O (k := 3) hN hI h0 (by decide) hs a3 hq hG
    rw [if_neg a3] at hG okk
    by_cases a4 : zgt h (zskp h p) = 125
    · rw [if_pos a4] at hG okk; exact X_C (k := 1) hN hI h0 (by decide) hs a4 hq hG okk
    rw [if_neg a4] at hG okk
    by_cases a5 : zgt h (zskp h p) = 93
    · rw [if_pos a5] at hG okk; exact X_C (k := 2) hN hI h0 (by decide) hs a5 hq hG okk
    rw [if_neg a5] at hG okk
    by_cases a6 : zgt h (zskp h p) = 62
    · rw [if_pos a6] at hG okk; exact X_C (k := 3) hN hI h0 (by decide) hs a6 hq hG okk
    rw [if_neg a6] at hG okk
    by_cases a7 : zgt h (zskp h p) = 42
    · rw [if_pos a7] at hG okk; exact X_A hN hI h0 hs a7 hq hG okk
    rw [if_neg a7] at hG okk
    by_cases a8 : zgt h (zskp h p) = 40
    · rw [if_pos a8] at hG; exact X_W8 hN hI h0 hs a8 hq hG
    rw [if_neg a8] at hG
    exact X_W0 hN hI h0 hs (by omega) hq hG
  · exact X_rest hN hI h0 hs hq hG
end
