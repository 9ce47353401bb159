/-! the class: an open bracket, whole -/
def pzst (R : List zIt) : Int32 := if pzph R = 0 then 0 else if pzph R = 1 then 3 else 4
theorem pzst_0 {x : zIt} (R : List zIt) (h : x.sg < 8) : pzst (x :: R) = 0 := by unfold pzst; rw [if_pos (pzph_0 R h)]
theorem pzFl_ne {c q : Nat} (h : c ≠ 0) : (pzFl c q).1.1 ≠ 0 := h
theorem X_colon (N : Nat) {h : List Nat} {b : Bool} {R : List zIt} {l : List Nat} {s : zq_S} {q j : Nat} (hj : j = 1 ∨ j = 2) (hs : pzCY h b R l (nI j) s) (hg : zgt h q = 58) (hq : q < h.length) (hl : l.length ≤ q) : zw (mX5_takeSign N (nI q) s) (fun v => v.1 = 0 ∧ pzFX b s v.2 ∧ pzCY h b R (l ++ [58]) 0 v.2) := by
  have hs' := hs
  obtain ⟨c1, c2, c3, c4, c5, c6, c7, c8, c9, c10, c11, c12⟩ := hs'
  have h4 := c1.2.2.1
  have hb := zs_c b
  have e1 : mX5_takeSign N (nI q) s = jX5_takeSign_j148 N (nI 58) 0 (zpf s 26 4 0) := by
    unfold mX5_takeSign
    rw [mX5_byteAt_eq N c1 (by omega), zb2_some, hg]
    dsimp only
    rw [c3, if_neg (by rcases hj with y | y <;> rw [y] <;> decide), if_pos (show nI 58 = 58 from rfl)]
    rcases hj with y | y
    · rw [y, if_pos (show nI 1 = 1 from rfl)]; rfl
    · rw [y, if_neg (show ¬ nI 2 = 1 by decide), if_pos (show nI 2 = 2 from rfl)]; rfl
  rw [e1]
  have F : pzFX b s (zpf s 26 4 0) := zfr_pf _ _ _ (by simp)
  have C : pzCY h b R l 0 (zpf s 26 4 0) := by
    refine ⟨zHX_fr c1 F, c2, rfl, ?_, ?_, fun y => ?_, pzXs_eq (s := s) _ (fun _ _ => rfl) c7, ?_, ?_, pzPr_fr c10 ?_ ?_ rfl, c11, c12⟩
    · rw [zgf_pf, if_neg (by omega)]; exact c4
    · rw [zgf_pf, if_neg (by omega)]; exact c5
    · rw [zgf_pf, if_neg (by omega)]; exact c6 y
    · rw [zgf_pf, if_neg (by omega)]; exact c8
    · rw [zgf_pf, if_neg (by omega)]; exact c9
    · rw [zgf_pf, if_neg (by omega)]
    · rw [zgf_pf, if_neg (by omega)]
  refine zw_mono (X_last N (x := 58) C.2.1 C.2.2.2.2.2.2.2.2.2.1 (by omega) (by decide) (by decide)) ?_
  intro w ⟨w0, fw, pw⟩
  exact ⟨w0, F.tr (pzFP_FX fw), pzCY_pr C fw pw⟩
theorem X_bang (N : Nat) {h : List Nat} {b : Bool} {R : List zIt} {l : List Nat} {s : zq_S} {q : Nat} (hs : pzCY h b R l (nI 2) s) (hg : zgt h q = 33) (hq : q < h.length) (hl : l.length ≤ q) : zw (mX5_takeSign N (nI q) s) (fun v => v.1 = 0 ∧ pzFX b s v.2 ∧ pzCY h b R (l ++ [33]) 6 v.2) := by
  have hs' := hs
  obtain ⟨c1, c2, c3, c4, c5, c6, c7, c8, c9, c10, c11, c12⟩ := hs'
  have h4 := c1.2.2.1
  have hb := zs_c b
  have e1 : mX5_takeSign N (nI q) s = jX5_takeSign_j148 N (nI 33) 0 (zpf s 26 4 6) := by
    unfold mX5_takeSign
    rw [mX5_byteAt_eq N c1 (by omega), zb2_some, hg]
    dsimp only
    rw [c3, if_neg (by decide), if_neg (by decide)]
    unfold jX5_takeSign_j56
    rw [if_pos (show nI 33 = 33 from rfl), c3, if_pos (show nI 2 = 2 from rfl)]
    rfl
  rw [e1]
  have F : pzFX b s (zpf s 26 4 6) := zfr_pf _ _ _ (by simp)
  have C : pzCY h b R l 6 (zpf s 26 4 6) := by
    refine ⟨zHX_fr c1 F, c2, rfl, ?_, ?_, fun y => ?_, pzXs_eq (s := s) _ (fun _ _ => rfl) c7, ?_, ?_, pzPr_fr c10 ?_ ?_ rfl, c11, c12⟩
    · rw [zgf_pf, if_neg (by omega)]; exact c4
    · rw [zgf_pf, if_neg (by omega)]; exact c5
    · rw [zgf_pf, if_neg (by omega)]; exact c6 y
    · rw [zgf_pf, if_neg (by omega)]; exact c8
    · rw [zgf_pf, if_neg (by omega)]; exact c9
    · rw [zgf_pf, if_neg (by omega)]
    · rw [zgf_pf, if_neg (by omega)]
  refine zw_mono (X_last N (x := 33) C.2.1 C.2.2.2.2.2.2.2.2.2.1 (by omega) (by decide) (by decide)) ?_
  intro w ⟨w0, fw, pw⟩
  exact ⟨w0, F.tr (pzFP_FX fw), pzCY_pr C fw pw⟩
/-- what a result of one item asks of the rest of the road -/
def pzGo (N : Nat) (h : List Nat) (b : Bool) (K : Int32 × Int32 × zq_S → Option (Int32 × zq_S)) (Q : Int32 × zq_S → Prop) (R : List zIt) (s : zq_S) (rs : pzRs) : Prop :=
  (rs.1.1 = 0 → ∀ t, pzFX b s t → pzCX h b (rs.2.1 :: R) (pzst (rs.2.1 :: R)) t → pzRX N h b K Q rs.2.2 t) ∧ (rs.1.1 ≠ 0 → pzKB h b K Q s rs.1.1 rs.1.2)
section
variable {N : Nat} {h : List Nat} {b : Bool} {K : Int32 × Int32 × zq_S → Option (Int32 × zq_S)} {Q : Int32 × zq_S → Prop}
theorem X_col (hN : 5000 ≤ N) {R : List zIt} {l : List Nat} {s w : zq_S} {j k v sd q e : Nat} (hk : k < 8) (hj : j = 1 ∨ (j = 2 ∧ ¬ zgt h (zskp h e) = 33)) (hs : pzCY h b ((k, v, 0, sd, q) :: R) l (nI j) w) (hp : pzpr ((k, v, 0, sd, q) :: R) = l ++ [58]) (hB : pzB h l e) (hG : pzGo N h b K Q R s (pzcol h k v sd q e)) (F : pzFX b s w) : pzRX N h b K Q e w := by
  have he := hB.2.1
  have sk := pzsk h he
  have n4 : ¬ zgf w 26 4 = 0 := by rw [hs.2.2.1, show (0 : Int32) = nI 0 from rfl, nI_eq (by omega) (by decide)]; omega
  refine pzRX_sgn hN hs.1 he hs.2.2.1 (by omega) (zgt h (zskp h e) = 58) ?_ (fun hl g => ?_) (fun g hl => ?_) (fun hl => ?_)
  · omega
  · refine zw_mono (X_colon N (by omega) hs g hl (by have := hB.1; omega)) ?_
    intro x ⟨x0, Fx, Cx⟩
    refine ⟨x0, ?_⟩
    have e1 : pzcol h k v sd q e = ((0, q), ((k, v, 0, sd, q), zskp h e + 1)) := by unfold pzcol; exact if_pos g
    rw [e1] at hG
    refine hG.1 rfl x.2 (F.tr Fx) ?_
    rw [pzst_0 (x := (k, v, 0, sd, q)) R hk]
    unfold pzCX
    dsimp only
    rw [hp]
    exact Cx
  · have e1 : pzcol h k v sd q e = pzFl 1 (zskp h e) := by unfold pzcol; exact if_neg g
    rw [e1] at hG
    exact (hG.2 (pzFl_ne (by decide))).1 w F hl
  · have e1 : pzcol h k v sd q e = pzFl 1 (zskp h e) := by unfold pzcol; rw [if_neg (by rw [hl, zgt_out (Nat.le_refl _)]; decide)]
    rw [e1] at hG
    exact (hG.2 (pzFl_ne (by decide))).2 rfl hl w F n4
theorem X_O (hN : 5000 ≤ N) {R : List zIt} {s : zq_S} {p k : Nat} (hI : pzI h R p) (h0 : pzph R = 0) (hk : 1 ≤ k ∧ k ≤ 3) (hs : pzCX h b R 0 s) (hg : zgt h (zskp h p) = pzob k) (hq : zskp h p < h.length) (hG : pzGo N h b K Q R s (pzO h R (zskp h p) k)) : pzRX N h b K Q (zskp h p) s := by
  have hV := hI.1
  have hpl := hI.2.1.2.1
  have sk := pzsk h hpl
  have hc : pzob k < 128 ∧ 57 < pzob k := by rcases pzob_c hk with y | y | y <;> omega
  have h4 := hs.1.2.2.1
  have hf : zfig h (zskp h p) = false := by unfold zfig; exact decide_eq_false (by omega)
  have B1 : pzB h (pzpr R ++ [pzob k]) (zskp h p + 1) := pzB_sgn hI.2.1 hq (by omega)
  have hlp := hI.2.1.1
  unfold pzO at hG
  refine pzRX_tok hN hs.1 hq ?_
  rw [hf, if_neg (show ¬ false = true by decide), mX5_tok_sgn N hs.1 hq hf (fun y => by omega)]
  have hd8 := pz_dep hV
  by_cases d8 : (pzstk R).length = 8
  · rw [if_pos d8] at hG
    rw [X_sopen_bad N hs hk hg hq d8, zb2_some]
    exact zw_some.2 (Or.inr ⟨5, by decide, by decide, rfl, (hG.2 (pzFl_ne (by decide))).1 _ (zfr_pf _ _ _ (by simp)) hq⟩)
  rw [if_neg d8] at hG
  rw [zw_b2]
  refine zw_mono (X_sopen N hV hs hk hg hq (by omega) (by omega)) ?_
  intro v ⟨v0, F, D, h9⟩
  refine zw_some.2 (Or.inl ⟨v0, ?_⟩)
  generalize zskp h p = q at *
  dsimp only
  have KM : ∀ u : zq_S, zgf u 26 4 = 5 → zgf u 26 7 = nI (pzmk R) → pzv h (q + 1) < 10 → mX5_isToldAlready N (nI (pzv h (q + 1))) u = some (zib ((pzmk R).testBit (pzv h (q + 1))), u) := fun u a1 a2 a3 => mX5_told_mark N (k := 5) a1 (by omega) a2 (pzmk_lt hV) a3
  refine pzRX_mark hN D.1 B1.2.1 (k := 5) D.2.2.1 (by omega) (KM _ D.2.2.1 D.2.2.2.2.1) (fun c hc1 hc2 => ?_) (fun n0 T0 => ?_)
  · have e1 : c = pzMc h (pzmk R) (q + 1) := hc1
    rw [e1] at hc2
    rw [if_neg hc2] at hG
    rw [e1]
    exact pzKB_fr (hG.2 hc2) F
  · have m0 : pzMc h (pzmk R) (q + 1) = 0 := by unfold pzMc; rw [if_pos n0, T0]; rfl
    rw [if_pos m0] at hG
    obtain ⟨_, n2, n3, n4, n5, _⟩ := pzN_ok B1.2.1 n0 (by decide)
    have B2 := pzB_num B1 n0 (by decide)
    have ok0 : pzok R (k, pzv h (q + 1), 0, 0, q) := pzok_o h0 hk (by omega) (by omega) (fun _ => rfl) (by omega) T0 (fun y => absurd rfl y)
    rw [D.2.1]
    refine zw_mono (mX7_printNumber_w N D.2.2.2.2.2.2.2.2.1 (by omega) (Nat.le_trans B2.1 (Nat.le_trans B2.2.1 h4))) ?_
    intro v1 ⟨f1, p1⟩
    rw [← pznl_zpn (pzpr R ++ [pzob k]) (pzv h (q + 1)) (by omega)] at p1
    have D1 := pzDX_pr D f1 p1
    have F1 : pzFX b s v1.2 := F.tr (pzFP_FX f1)
    have h91 : zgf v1.2 26 9 = nI q := by rw [f1.f 26 9 (by simp)]; exact h9
    generalize v1.2 = s1 at D1 F1 h91
    clear p1 f1
    unfold mX5_takeMark jX5_takeMark_j61
    rw [D1.2.2.1, if_pos rfl, zw_b2]
    refine zw_mono (X_brMark N hN (x := (k, pzv h (q + 1), 0, 0, q)) hV ok0 hk rfl D1 h91) ?_
    intro v2 ⟨f2, C2⟩
    refine zw_some.2 ?_
    dsimp only
    have F2 : pzFX b s v2.2 := F1.tr f2
    generalize v2.2 = s2 at C2 F2
    clear f2
    have pp : pzpr ((k, pzv h (q + 1), 0, 0, q) :: R) = zpn (pzpr R ++ [pzob k]) (pzv h (q + 1)) ++ [58] := pzpx_o hk
    by_cases k2 : k = 2
    · have C2' : pzCY h b ((k, pzv h (q + 1), 0, 0, q) :: R) (zpn (pzpr R ++ [pzob k]) (pzv h (q + 1))) (nI 2) s2 := by
        have e : (if zIt.sg (k, pzv h (q + 1), 0, 0, q) = 2 then (2 : Int32) else 1) = nI 2 := by rw [if_pos (show zIt.sg (k, pzv h (q + 1), 0, 0, q) = 2 from k2)]; rfl
        rw [e] at C2; exact C2
      by_cases g33 : zgt h (zskp h (pze h (q + 1))) = 33
      · rw [if_pos ⟨k2, g33⟩] at hG
        have he := B2.2.1
        have sk2 := pzsk h he
        have hl33 : zskp h (pze h (q + 1)) < h.length := pzgt_lt (by omega)
        refine pzRX_sgn hN C2'.1 he C2'.2.2.1 (by omega) True ?_ (fun hl _ => ?_) (fun g => absurd trivial g) (fun hl => by omega)
        · exact ⟨fun _ => trivial, fun _ => Or.inr (Or.inl ⟨g33, rfl⟩)⟩
        · refine zw_mono (X_bang N C2' g33 hl (by have := B2.1; omega)) ?_
          intro v3 ⟨v30, f3, C3⟩
          refine ⟨v30, ?_⟩
          have B3 : pzB h (zpn (pzpr R ++ [pzob k]) (pzv h (q + 1)) ++ [33]) (zskp h (pze h (q + 1)) + 1) := pzB_sgn B2 hl (by omega)
          have F3 : pzFX b s v3.2 := F2.tr f3
          generalize v3.2 = s3 at C3 F3 ⊢
          clear f3
          generalize zskp h (pze h (q + 1)) = q2 at *
          have gen : ∀ x : zIt, 1 ≤ x.sg ∧ x.sg ≤ 3 → x.sd = 0 → pzmk (x :: R) = pzmk R ||| 2 ^ x.mk := by
            intro x a1 a2
            rw [pzmk, if_pos (Or.inl a1), if_neg (fun y => y.2 a2), Nat.or_zero]
          have emk : pzmk ((k, pzv h (q + 1), 0, 0, q) :: R) = pzmk R ||| 2 ^ pzv h (q + 1) := gen _ hk rfl
          have c7 := C3.2.2.2.2.1
          rw [emk] at c7
          have hK : pzmk R ||| 2 ^ pzv h (q + 1) < 1024 := Nat.or_lt_two_pow (n := 10) (pzmk_lt hV) (Nat.pow_lt_pow_right (by decide) (by omega))
          refine pzRX_mark hN C3.1 B3.2.1 (k := 6) C3.2.2.1 (by omega) (T := (pzmk R ||| 2 ^ pzv h (q + 1)).testBit (pzv h (q2 + 1))) (fun a3 => mX5_told_mark N (k := 6) C3.2.2.1 (by omega) c7 hK a3) (fun c hc1 hc2 => ?_) (fun n01 T01 => ?_)
          · have e1 : c = pzMc h (pzmk R ||| 2 ^ pzv h (q + 1)) (q2 + 1) := hc1
            rw [e1] at hc2
            rw [if_neg hc2] at hG
            rw [e1]
            exact pzKB_fr (hG.2 hc2) F3
          · have m1 : pzMc h (pzmk R ||| 2 ^ pzv h (q + 1)) (q2 + 1) = 0 := by unfold pzMc; rw [if_pos n01, T01]; rfl
            rw [if_pos m1] at hG
            obtain ⟨_, n12, n13, n14, n15, _⟩ := pzN_ok B3.2.1 n01 (by decide)
            have B4 := pzB_num B3 n01 (by decide)
            rw [zt_pow, Bool.or_eq_false_iff, decide_eq_false_iff_not] at T01
            have ok1 : pzok R (k, pzv h (q + 1), 0, pzv h (q2 + 1) + 1, q) := pzok_o h0 hk (by omega) (by omega) (fun y => absurd k2 y) (by omega) T0 (fun _ => ⟨fun y => T01.2 (by omega), by rw [Nat.add_sub_cancel]; exact T01.1⟩)
            rw [C3.2.1]
            refine zw_mono (mX7_printNumber_w N C3.2.2.2.2.2.2.2.2.2.1 (by omega) (Nat.le_trans B4.1 (Nat.le_trans B4.2.1 h4))) ?_
            intro v4 ⟨f4, p4⟩
            rw [← pznl_zpn (zpn (pzpr R ++ [pzob k]) (pzv h (q + 1)) ++ [33]) (pzv h (q2 + 1)) (by omega)] at p4
            have C4 := pzCY_pr C3 f4 p4
            have F4 : pzFX b s v4.2 := F3.tr (pzFP_FX f4)
            generalize v4.2 = s4 at C4 F4
            clear p4 f4
            unfold mX5_takeMark jX5_takeMark_j61
            rw [C4.2.2.1, if_neg (show ¬ (6 : Int32) = 5 by decide), if_pos rfl, zw_b2]
            refine zw_mono (X_stMark N hN (y := (k, pzv h (q + 1), 0, pzv h (q2 + 1) + 1, q)) hV ok0 ok1 k2 k2 rfl rfl rfl C4) ?_
            intro v5 ⟨f5, C5⟩
            refine zw_some.2 ?_
            dsimp only
            refine X_col hN (s := s) (j := 1) (by omega) (Or.inl rfl) C5 ?_ B4 hG (F4.tr f5)
            show pzpx (pzpr R) _ = _
            rw [k2]
            exact pzpx_o2
      · rw [if_neg (fun y => g33 y.2)] at hG
        exact X_col hN (s := s) (j := 2) (by omega) (Or.inr ⟨rfl, g33⟩) C2' pp B2 hG F2
    · rw [if_neg (fun y => k2 y.1)] at hG
      have C2' : pzCY h b ((k, pzv h (q + 1), 0, 0, q) :: R) (zpn (pzpr R ++ [pzob k]) (pzv h (q + 1))) (nI 1) s2 := by
        have e : (if zIt.sg (k, pzv h (q + 1), 0, 0, q) = 2 then (2 : Int32) else 1) = nI 1 := by rw [if_neg (show ¬ zIt.sg (k, pzv h (q + 1), 0, 0, q) = 2 from k2)]; rfl
        rw [e] at C2; exact C2
      exact X_col hN (s := s) (j := 1) (by omega) (Or.inl rfl) C2' pp B2 hG F2
end
