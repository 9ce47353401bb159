/-! the reference: one item, and the whole text -/
theorem pzO_sg {h : List Nat} {R : List zIt} {q k : Nat} (hc : (pzO h R q k).1.1 = 0) : (pzO h R q k).2.1.sg = k := by
  have col : ∀ v sd e, (pzcol h k v sd q e).1.1 = 0 → (pzcol h k v sd q e).2.1.sg = k := by
    intro v sd e y
    rw [(pzcol_ok y).2]; rfl
  unfold pzO at hc ⊢
  by_cases z8 : (pzstk R).length = 8
  · rw [if_pos z8] at hc; exact absurd (show (5 : Nat) = 0 from hc) (by decide)
  · rw [if_neg z8] at hc ⊢
    by_cases zm : pzMc h (pzmk R) (q + 1) = 0
    · rw [if_pos zm] at hc ⊢
      by_cases zb : k = 2 ∧ zgt h (zskp h (pze h (q + 1))) = 33
      · rw [if_pos zb] at hc ⊢
        by_cases zm2 : pzMc h (pzmk R ||| 2 ^ pzv h (q + 1)) (zskp h (pze h (q + 1)) + 1) = 0
        · rw [if_pos zm2] at hc ⊢; exact col _ _ _ hc
        · rw [if_neg zm2] at hc; exact absurd hc zm2
      · rw [if_neg zb] at hc ⊢; exact col _ _ _ hc
    · rw [if_neg zm] at hc; exact absurd hc zm
theorem pzC_sg {R : List zIt} {q k : Nat} (hc : (pzC R q k).1.1 = 0) : (pzC R q k).2.1.sg = k + 3 := by
  unfold pzC at hc ⊢
  by_cases z : pzstk R ≠ [] ∧ (pzstk R).headD 0 + 1 ≠ R.length ∧ (pzat R ((pzstk R).headD 0)).sg = k
  · rw [if_pos z]; rfl
  · rw [if_neg z] at hc; exact absurd (show (1 : Nat) = 0 from hc) (by decide)
theorem pzA_sg {h : List Nat} {R : List zIt} {q : Nat} (hc : (pzA h R q).1.1 = 0) : (pzA h R q).2.1.sg = 7 := by
  unfold pzA at hc ⊢
  by_cases z3 : pzA3 R = true
  · rw [if_pos z3] at hc; exact absurd (show (1 : Nat) = 0 from hc) (by decide)
  · rw [if_neg z3] at hc ⊢
    by_cases zm : pzNc h (q + 1) 9 = 0
    · rw [if_pos zm] at hc ⊢
      by_cases zb : (pzsr R).testBit (pzv h (q + 1)) = true
      · rw [if_pos zb] at hc; exact absurd (show (3 : Nat) = 0 from hc) (by decide)
      · rw [if_neg zb]; rfl
    · rw [if_neg zm] at hc; exact absurd hc zm
theorem pzWd_sg {h : List Nat} {R : List zIt} {q k p : Nat} (hc : (pzWd h R k q p).1.1 = 0) : (pzWd h R k q p).2.1.sg = k := by
  unfold pzWd at hc ⊢
  by_cases z : pzWc h R p = 0
  · rw [if_pos z]; rfl
  · rw [if_neg z] at hc; exact absurd hc z
theorem pzph_0 {x : zIt} (R : List zIt) (h : x.sg < 8) : pzph (x :: R) = 0 := by rw [pzph, if_neg (by omega), if_neg (by omega)]
theorem pzQ_eq {h : List Nat} {R : List zIt} {p : Nat} {s : zq_S} {r : Int32} {t : zq_S} (hh : pzQ h R p s (r, t)) : zw (some (r, t)) (pzQ h R p s) := zw_some.2 hh
theorem mX12_takeItem_w (N : Nat) (hN : 5000 ≤ N) {h : List Nat} {R : List zIt} {s : zq_S} {p : Nat} (hI : pzI h R p) (h0 : pzph R = 0) (hq : zskp h p < h.length) (hs : pzCM h R (zskp h p) s) : zw (mX12_takeItem N s) (pzQ h R p s) := by
  have hV := hI.1
  have hpl := hI.2.1.2.1
  have hid := pzsk_id h hpl
  have hb := zgt_256 hs.1.2.2.2 (zskp h p)
  have es : zpf s 57 18 (nI (zskp h p)) = s := by
    have := zpf_same s 57 18
    rw [hs.2.2.1] at this
    exact this
  have ehr : zhr h (zskp h p) = nI (zgt h (zskp h p)) := by unfold zhr; rw [hid, if_pos hq]
  unfold mX12_takeItem
  rw [mX12_here_eq N hN hs.1 (Nat.le_of_lt hq) hs.2.2.1, zb2_some, hid, es, ehr]
  dsimp only
  have to : ∀ {rs : pzRs} {r : Int32} {t : zq_S}, pzS h R (zskp h p) = rs → (rs.1.1 = 0 → rs.2.1.sg < 8) → pzQ1 h R rs s (r, t) → zw (some (r, t)) (pzQ h R p s) := by
    intro rs r t e1 e2 e3
    subst e1
    exact zw_some.2 (pzQ1_Q hI hq e3 (fun y => pzph_0 R (e2 y)))
  have op : ∀ k, 1 ≤ k ∧ k ≤ 3 → pzS h R (zskp h p) = pzO h R (zskp h p) k → zw (zq_b2 (mX12_takeOpen N (nI k) s) (fun r4 s5 => some (r4, s5))) (pzQ h R p s) := by
    intro k hk e
    refine zw_call (mX12_takeOpen_w N hN hV h0 hq hk hs) ?_
    intro r t hh
    exact to e (fun y => by rw [pzO_sg y]; omega) hh
  have cl : ∀ k, 1 ≤ k ∧ k ≤ 3 → pzS h R (zskp h p) = pzC R (zskp h p) k → zw (zq_b2 (mX12_takeClose N (nI k) s) (fun r4 s5 => some (r4, s5))) (pzQ h R p s) := by
    intro k hk e
    refine zw_call (mX12_takeClose_w N hN hV h0 hq hk hs) ?_
    intro r t hh
    exact to e (fun y => by rw [pzC_sg y]; omega) hh
  have hS : pzS h R (zskp h p) = (if zgt h (zskp h p) = 123 then pzO h R (zskp h p) 1 else if zgt h (zskp h p) = 91 then pzO h R (zskp h p) 2 else if zgt h (zskp h p) = 60 then pzO h R (zskp h p) 3
     else if zgt h (zskp h p) = 125 then pzC R (zskp h p) 1 else if zgt h (zskp h p) = 93 then pzC R (zskp h p) 2 else if zgt h (zskp h p) = 62 then pzC R (zskp h p) 3
     else if zgt h (zskp h p) = 42 then pzA h R (zskp h p) else if zgt h (zskp h p) = 40 then pzWd h R 8 (zskp h p) (zskp h p + 1) else pzWd h R 0 (zskp h p) (zskp h p)) := by
    unfold pzS; rw [if_pos h0]
  have is : ∀ c, c < 256 → ((nI (zgt h (zskp h p)) = nI c) ↔ zgt h (zskp h p) = c) := fun c hc => nI_eq (by omega) (by omega)
  by_cases z1 : zgt h (zskp h p) = 123
  · rw [if_pos z1] at hS
    rw [z1]
    exact op 1 (by decide) hS
  rw [if_neg z1] at hS
  rw [if_neg (show ¬ nI (zgt h (zskp h p)) = 123 from fun y => z1 ((is 123 (by decide)).1 y))]
  by_cases z2 : zgt h (zskp h p) = 91
  · rw [if_pos z2] at hS
    rw [z2]
    exact op 2 (by decide) hS
  rw [if_neg z2] at hS
  rw [if_neg (show ¬ nI (zgt h (zskp h p)) = 91 from fun y => z2 ((is 91 (by decide)).1 y))]
  by_cases z3 : zgt h (zskp h p) = 60
  · rw [if_pos z3] at hS
    rw [z3]
    exact op 3 (by decide) hS
  rw [if_neg z3] at hS
  rw [if_neg (show ¬ nI (zgt h (zskp h p)) = 60 from fun y => z3 ((is 60 (by decide)).1 y))]
  by_cases z4 : zgt h (zskp h p) = 125
  · rw [if_pos z4] at hS
    rw [z4]
    exact cl 1 (by decide) hS
  rw [if_neg z4] at hS
  rw [if_neg (show ¬ nI (zgt h (zskp h p)) = 125 from fun y => z4 ((is 125 (by decide)).1 y))]
  by_cases z5 : zgt h (zskp h p) = 93
  · rw [if_pos z5] at hS
    rw [z5]
    exact cl 2 (by decide) hS
  rw [if_neg z5] at hS
  rw [if_neg (show ¬ nI (zgt h (zskp h p)) = 93 from fun y => z5 ((is 93 (by decide)).1 y))]
  by_cases z6 : zgt h (zskp h p) = 62
  · rw [if_pos z6] at hS
    rw [z6]
    exact cl 3 (by decide) hS
  rw [if_neg z6] at hS
  rw [if_neg (show ¬ nI (zgt h (zskp h p)) = 62 from fun y => z6 ((is 62 (by decide)).1 y))]
  by_cases z7 : zgt h (zskp h p) = 42
  · rw [if_pos z7] at hS
    rw [z7, if_pos (show nI 42 = (42 : Int32) from rfl)]
    refine zw_call (mX12_takeStar_w N hN hV h0 hq hs) ?_
    intro r t hh
    exact to hS (fun y => by rw [pzA_sg y]; omega) hh
  rw [if_neg z7] at hS
  rw [if_neg (show ¬ nI (zgt h (zskp h p)) = 42 from fun y => z7 ((is 42 (by decide)).1 y))]
  by_cases z8 : zgt h (zskp h p) = 40
  · rw [z8, if_pos (show nI 40 = (40 : Int32) from rfl)]
    refine zw_call (mX12_takeRow_w N hN hI h0 hq z8 hs) ?_
    intro r t hh
    exact zw_some.2 hh
  rw [if_neg z8] at hS
  rw [if_neg (show ¬ nI (zgt h (zskp h p)) = 40 from fun y => z8 ((is 40 (by decide)).1 y))]
  refine zw_mono (mX12_word_w N hN hV h0 (Nat.le_of_lt hq) hs) ?_
  intro v hh
  have := to (r := v.1) (t := v.2) hS (fun y => by rw [pzWd_sg y]; omega) hh
  exact zw_some.1 this
/-- the whole text: a fault, or all items -/
theorem mX12_items (N : Nat) (hN : 5000 ≤ N) {h : List Nat} {s0 : zq_S} {K : Int32 × zq_S → Option (Int32 × zq_S)} {Q : Int32 × zq_S → Prop} {g : Nat × Nat × List zIt}
    (hbad : ∀ c q R t, c ≠ 0 → c ≤ 5 → g = (c, q, R) → pzFM s0 t → zgf t 57 17 = nI q → zw (K (nI c, t)) Q)
    (hend : ∀ R p q t, pzI h R p → pzph R = 0 → pzCM h R q t → pzFM s0 t → g = (if pzstk R = [] then (0, 0, R) else (1, h.length, R)) → zw (K (0, t)) Q) :
    ∀ d R p s M, h.length - p < d → d < M → pzI h R p → pzph R = 0 → pzCM h R p s → pzFM s0 s → g = pzG h R p → zw (zq_loop (bX12_sheet_52 N K) M (0, s)) Q := by
  intro d
  induction d with
  | zero => intro R p s M h1; omega
  | succ d ih =>
    intro R p s M h1 h2 hI h0 hs hF hg
    obtain ⟨M, rfl⟩ : ∃ M', M = M' + 1 := ⟨M - 1, by omega⟩
    have hpl := hI.2.1.2.1
    obtain ⟨k1, k2, _⟩ := pzsk h hpl
    have hs2 := pzCM_at (q := zskp h p) hs
    have F2 : pzFM s0 (zpf s 57 18 (nI (zskp h p))) := hF.tr (zfr_pf _ _ _ (by decide))
    rw [zq_loop_s]
    dsimp only [bX12_sheet_52]
    rw [if_pos rfl, mX12_here_eq N hN hs.1 hpl hs.2.2.1, zb2_some]
    dsimp only
    have hb := zgt_256 hs.1.2.2.2 (zskp h p)
    by_cases e : zskp h p < h.length
    · have e1 : zhr h p = nI (zgt h (zskp h p)) := by unfold zhr; rw [if_pos e]
      rw [e1, if_neg (nI_nneg (by omega))]
      refine zw_call (mX12_takeItem_w N hN hI h0 e hs2) ?_
      intro r t ⟨ft, hc⟩
      dsimp only at ft hc ⊢
      rcases hc with ⟨r0, R', p', a1, a2, a3, a4, a5⟩ | ⟨c, q, R', a1, a2, a3, a4, a5⟩
      · subst r0
        have := a3.2.1.2.1
        exact ih R' p' t M (by omega) (by omega) a3 a2 a4 (F2.tr ft) (hg.trans a5)
      · subst a3
        obtain ⟨M, rfl⟩ : ∃ M', M = M' + 1 := ⟨M - 1, by omega⟩
        rw [zq_loop_s]
        dsimp only [bX12_sheet_52]
        rw [if_neg (by rw [show (0 : Int32) = nI 0 from rfl, nI_eq (by omega) (by decide)]; exact a1)]
        exact hbad c q R' t a1 a2 (hg.trans a5) (F2.tr ft) a4
    · have e1 : zhr h p = -1 := by unfold zhr; rw [if_neg e]
      rw [e1, if_pos (by decide)]
      refine hend R p (zskp h p) (zpf s 57 18 (nI (zskp h p))) hI h0 hs2 F2 ?_
      rw [hg, pzG_end hI e]
      by_cases y : pzstk R = []
      · rw [if_pos ⟨h0, y⟩, if_pos y]
      · rw [if_neg (fun w => y w.2), if_neg y]
