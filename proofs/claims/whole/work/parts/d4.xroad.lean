/-! the class: roads of tokens -/
theorem mX5_sgn_bad (N : Nat) {h : List Nat} {s : zq_S} (hs : zHX h s) {q k : Nat} (hq : q < h.length) (hst : zgf s 26 4 = nI k) (hk : 1 ≤ k ∧ k ≤ 10) (h1 : ¬ (zgt h q = 58 ∧ (k = 1 ∨ k = 2))) (h2 : ¬ (zgt h q = 33 ∧ k = 2)) (h3 : ¬ (zgt h q = 47 ∧ (k = 3 ∨ k = 4))) (h4 : ¬ (zgt h q = 41 ∧ k = 4)) : mX5_takeSign N (nI q) s = some (1, s) := by
  have hl := hs.2.2.1
  have h256 := zgt_256 hs.2.2.2 q
  have E : ∀ x : Nat, x < 256 → (nI (zgt h q) = nI x ↔ zgt h q = x) := fun x hx => nI_eq (by omega) (by omega)
  have S : ∀ x : Nat, x < 256 → (nI k = nI x ↔ k = x) := fun x hx => nI_eq (by omega) (by omega)
  have j148 : jX5_takeSign_j148 N (nI (zgt h q)) 1 s = some (1, s) := by
    unfold jX5_takeSign_j148
    rw [if_neg (show ¬ (1 : Int32) = 0 by decide)]
    rfl
  have j120 : jX5_takeSign_j120 N (nI (zgt h q)) 1 s = some (1, s) := by
    unfold jX5_takeSign_j120
    by_cases a : zgt h q = 41
    · rw [if_pos (show nI (zgt h q) = 41 from (E 41 (by decide)).2 a), hst, if_neg (show ¬ nI k = 4 from fun y => h4 ⟨a, (S 4 (by decide)).1 y⟩), j148]
    · rw [if_neg (show ¬ nI (zgt h q) = 41 from fun y => a ((E 41 (by decide)).1 y)), j148]
  have j80 : jX5_takeSign_j80 N (nI (zgt h q)) 1 s = some (1, s) := by
    unfold jX5_takeSign_j80
    by_cases a : zgt h q = 47
    · rw [if_pos (show nI (zgt h q) = 47 from (E 47 (by decide)).2 a), hst, if_neg (show ¬ nI k = 3 from fun y => h3 ⟨a, Or.inl ((S 3 (by decide)).1 y)⟩), if_neg (show ¬ nI k = 4 from fun y => h3 ⟨a, Or.inr ((S 4 (by decide)).1 y)⟩), j120]
    · rw [if_neg (show ¬ nI (zgt h q) = 47 from fun y => a ((E 47 (by decide)).1 y)), j120]
  have j56 : jX5_takeSign_j56 N (nI (zgt h q)) 1 s = some (1, s) := by
    unfold jX5_takeSign_j56
    by_cases a : zgt h q = 33
    · rw [if_pos (show nI (zgt h q) = 33 from (E 33 (by decide)).2 a), hst, if_neg (show ¬ nI k = 2 from fun y => h2 ⟨a, (S 2 (by decide)).1 y⟩), j80]
    · rw [if_neg (show ¬ nI (zgt h q) = 33 from fun y => a ((E 33 (by decide)).1 y)), j80]
  unfold mX5_takeSign
  rw [mX5_byteAt_eq N hs (by omega), zb2_some]
  dsimp only
  rw [hst, if_neg (show ¬ nI k = 0 from fun y => by have := (S 0 (by decide)).1 y; omega)]
  by_cases a : zgt h q = 58
  · rw [if_pos (show nI (zgt h q) = 58 from (E 58 (by decide)).2 a), if_neg (show ¬ nI k = 1 from fun y => h1 ⟨a, Or.inl ((S 1 (by decide)).1 y)⟩), if_neg (show ¬ nI k = 2 from fun y => h1 ⟨a, Or.inr ((S 2 (by decide)).1 y)⟩), j56]
  · rw [if_neg (show ¬ nI (zgt h q) = 58 from fun y => a ((E 58 (by decide)).1 y)), j56]
/-- what must be ready for a fault c at place pl -/
def pzKB (h : List Nat) (b : Bool) (K : Int32 × Int32 × zq_S → Option (Int32 × zq_S)) (Q : Int32 × zq_S → Prop) (s : zq_S) (c pl : Nat) : Prop :=
  (∀ t, pzFX b s t → pl < h.length → zw (K (nI pl, nI c, t)) Q) ∧ (c = 1 → pl = h.length → ∀ t, pzFX b s t → ¬ zgf t 26 4 = 0 → zw (K (nI h.length, 0, t)) Q)
section
variable {N : Nat} {h : List Nat} {b : Bool} {K : Int32 × Int32 × zq_S → Option (Int32 × zq_S)} {Q : Int32 × zq_S → Prop}
theorem pzRX_num (hN : 5000 ≤ N) {p k : Nat} {s : zq_S} (hs : zHX h s) (hp : p ≤ h.length) (hst : zgf s 26 4 = nI k) (hk : 5 ≤ k ∧ k ≤ 10)
    (hok : zfig h (zskp h p) = true → zw (mX5_takeNumber N (nI (zskp h p)) (nI (znd h (zskp h p))) s) (fun v => (v.1 = 0 ∧ pzRX N h b K Q (znd h (zskp h p)) v.2) ∨ (∃ c, c ≠ 0 ∧ c < 100 ∧ v.1 = nI c ∧ zw (K (nI (zskp h p), nI c, v.2)) Q)))
    (hno : zfig h (zskp h p) = false → zskp h p < h.length → zw (K (nI (zskp h p), nI 1, s)) Q)
    (hend : zskp h p = h.length → zw (K (nI h.length, 0, s)) Q) : pzRX N h b K Q p s := by
  have sk := pzsk h hp
  refine pzRX_skip hN hs _ p (Nat.le_refl _) hp ?_
  by_cases z : zskp h p < h.length
  · refine pzRX_tok hN hs z ?_
    cases f : zfig h (zskp h p) with
    | true =>
      rw [if_pos rfl, mX5_tok_num N hs f, zw_b2]
      exact zw_mono (hok f) (fun v hv => zw_some.2 hv)
    | false =>
      rw [if_neg (show ¬ false = true by decide), mX5_tok_sgn N hs z f (fun y => sk.2.2.2 ⟨z, y⟩), mX5_sgn_bad N hs z hst (by omega) (by omega) (by omega) (by omega) (by omega), zb2_some]
      exact zw_some.2 (Or.inr ⟨1, by decide, by decide, rfl, hno f z⟩)
  · have e : zskp h p = h.length := by omega
    exact pzRX_end hs e (by rw [e]; exact hend e)
theorem pzRX_sgn (hN : 5000 ≤ N) {p k : Nat} {s : zq_S} (hs : zHX h s) (hp : p ≤ h.length) (hst : zgf s 26 4 = nI k) (hk : 1 ≤ k ∧ k ≤ 4) (G : Prop)
    (hG : (zgt h (zskp h p) = 58 ∧ (k = 1 ∨ k = 2)) ∨ (zgt h (zskp h p) = 33 ∧ k = 2) ∨ (zgt h (zskp h p) = 47 ∧ (k = 3 ∨ k = 4)) ∨ (zgt h (zskp h p) = 41 ∧ k = 4) ↔ G)
    (hok : zskp h p < h.length → G → zw (mX5_takeSign N (nI (zskp h p)) s) (fun v => v.1 = 0 ∧ pzRX N h b K Q (zskp h p + 1) v.2))
    (hno : ¬ G → zskp h p < h.length → zw (K (nI (zskp h p), nI 1, s)) Q)
    (hend : zskp h p = h.length → zw (K (nI h.length, 0, s)) Q) : pzRX N h b K Q p s := by
  have sk := pzsk h hp
  refine pzRX_skip hN hs _ p (Nat.le_refl _) hp ?_
  by_cases z : zskp h p < h.length
  · refine pzRX_tok hN hs z ?_
    by_cases g : G
    · have g' := hG.2 g
      have f : zfig h (zskp h p) = false := by
        unfold zfig
        refine decide_eq_false ?_
        omega
      rw [f, if_neg (show ¬ false = true by decide), mX5_tok_sgn N hs z f (fun y => sk.2.2.2 ⟨z, y⟩), zw_b2]
      exact zw_mono (hok z g) (fun v hv => zw_some.2 (Or.inl hv))
    · have g' : ¬ ((zgt h (zskp h p) = 58 ∧ (k = 1 ∨ k = 2)) ∨ (zgt h (zskp h p) = 33 ∧ k = 2) ∨ (zgt h (zskp h p) = 47 ∧ (k = 3 ∨ k = 4)) ∨ (zgt h (zskp h p) = 41 ∧ k = 4)) := fun y => g (hG.1 y)
      cases f : zfig h (zskp h p) with
      | true =>
        rw [if_pos rfl, mX5_tok_num N hs f, mX5_numBad N hst hk, zb2_some]
        exact zw_some.2 (Or.inr ⟨1, by decide, by decide, rfl, hno g z⟩)
      | false =>
        rw [if_neg (show ¬ false = true by decide), mX5_tok_sgn N hs z f (fun y => sk.2.2.2 ⟨z, y⟩), mX5_sgn_bad N hs z hst (by omega) (by omega) (by omega) (by omega) (by omega), zb2_some]
        exact zw_some.2 (Or.inr ⟨1, by decide, by decide, rfl, hno g z⟩)
  · have e : zskp h p = h.length := by omega
    exact pzRX_end hs e (by rw [e]; exact hend e)
theorem pzKB_fr {s t : zq_S} {c pl : Nat} (hB : pzKB h b K Q s c pl) (f : pzFX b s t) : pzKB h b K Q t c pl :=
  ⟨fun u fu h1 => hB.1 u (f.tr fu) h1, fun h1 h2 u fu h3 => hB.2 h1 h2 u (f.tr fu) h3⟩
/-- a mark is due -/
theorem pzRX_mark (hN : 5000 ≤ N) {p k : Nat} {s : zq_S} (hs : zHX h s) (hp : p ≤ h.length) (hst : zgf s 26 4 = nI k) (hk : 5 ≤ k ∧ k ≤ 8) {T : Bool} (ht : pzv h p < 10 → mX5_isToldAlready N (nI (pzv h p)) s = some (zib T, s))
    (hbad : ∀ c, c = (if pzNc h p 9 = 0 then (if T = true then 3 else 0) else pzNc h p 9) → c ≠ 0 → pzKB h b K Q s c (zskp h p))
    (hok : pzNc h p 9 = 0 → T = false → zw (mX7_printNumber N (zgb s 2) (nI (pzv h p)) s) (fun v => zw (mX5_takeMark N (nI (pzv h p)) v.2) (fun w => pzRX N h b K Q (pze h p) w.2))) : pzRX N h b K Q p s := by
  have nk : ¬ zgf s 26 4 = 0 := by rw [hst, show (0 : Int32) = nI 0 from rfl, nI_eq (by omega) (by decide)]; omega
  refine pzRX_num hN hs hp hst (by omega) (fun f => ?_) (fun f hl => ?_) (fun e => ?_)
  · rw [mX5_numMark N hs f hst hk (T := T) ht]
    have hlt := zfig_lt f
    show zw (if 2 < pze h p - zskp h p ∨ 9 < pzv h p then _ else _) _
    by_cases z : 2 < pze h p - zskp h p ∨ 9 < pzv h p
    · rw [if_pos z]
      have c0 : pzNc h p 9 = 2 := by unfold pzNc; rw [if_pos f, if_pos z]
      exact zw_some.2 (Or.inr ⟨2, by decide, by decide, rfl, (hbad 2 (by rw [c0]; rfl) (by decide)).1 s zfr_rfl hlt⟩)
    · rw [if_neg z]
      have c0 : pzNc h p 9 = 0 := by unfold pzNc; rw [if_pos f, if_neg z]
      cases T with
      | true =>
        rw [if_pos rfl]
        exact zw_some.2 (Or.inr ⟨3, by decide, by decide, rfl, (hbad 3 (by rw [c0]; rfl) (by decide)).1 s zfr_rfl hlt⟩)
      | false =>
        rw [if_neg (show ¬ false = true by decide), zw_b2]
        refine zw_mono (hok c0 rfl) (fun v hv => ?_)
        rw [zw_b2]
        exact zw_mono hv (fun w hw => zw_some.2 (Or.inl ⟨rfl, hw⟩))
  · have c0 : pzNc h p 9 = 1 := by unfold pzNc; rw [f]; rfl
    exact (hbad 1 (by rw [c0]; rfl) (by decide)).1 s zfr_rfl hl
  · have f : zfig h (zskp h p) = false := by
      cases f : zfig h (zskp h p) with
      | false => rfl
      | true => have := zfig_lt f; omega
    have c0 : pzNc h p 9 = 1 := by unfold pzNc; rw [f]; rfl
    exact (hbad 1 (by rw [c0]; rfl) (by decide)).2 rfl e s zfr_rfl nk
/-- a word of a row is due -/
theorem pzRX_wd (hN : 5000 ≤ N) {p k : Nat} {s : zq_S} {R : List zIt} (hV : pzV R) (hs : zHX h s) (hp : p ≤ h.length) (hst : zgf s 26 4 = nI k) (hk : k = 9 ∨ k = 10) (hb : zgb s 2 = b) (hw : zgf s (zs b) 8 = nI (pzwn R))
    (hbad : ∀ c, c = pzWc h R p → c ≠ 0 → pzKB h b K Q s c (zskp h p))
    (hok : pzWc h R p = 0 → zw (mX7_printNumber N b (nI (pzv h p)) s) (fun v => zw (mX5_takeWord N (nI (pzv h p)) v.2) (fun w => pzRX N h b K Q (pze h p) w.2))) : pzRX N h b K Q p s := by
  have nk : ¬ zgf s 26 4 = 0 := by rw [hst, show (0 : Int32) = nI 0 from rfl, nI_eq (by omega) (by decide)]; omega
  refine pzRX_num hN hs hp hst (by omega) (fun f => ?_) (fun f hl => ?_) (fun e => ?_)
  · rw [mX5_numWord N hs f (Or.inr (by rcases hk with y | y <;> rw [hst, y]; exact Or.inl rfl; exact Or.inr rfl)) hb hw (pz_wn hV)]
    have hlt := zfig_lt f
    obtain ⟨e1, e2, e3, _⟩ := pznd h (Nat.le_of_lt hlt)
    show zw (if 2 < pze h p - zskp h p then _ else _) _
    have f1 := of_decide_eq_true f
    have vle : ¬ 2 < pze h p - zskp h p → ¬ 99 < pzv h p := by
      intro y
      have hh : pze h p = znd h (zskp h p) := rfl
      unfold pzv zval
      split
      · rename_i w
        have f2 := of_decide_eq_true (e3 (zskp h p + 1) (by omega) (by omega))
        omega
      · omega
    by_cases z : 2 < pze h p - zskp h p
    · rw [if_pos z]
      have c0 : pzNc h p 99 = 2 := by unfold pzNc; rw [if_pos f, if_pos (Or.inl z)]
      have c1 : pzWc h R p = 2 := by unfold pzWc; rw [c0]; rfl
      exact zw_some.2 (Or.inr ⟨2, by decide, by decide, rfl, (hbad 2 c1.symm (by decide)).1 s zfr_rfl hlt⟩)
    · rw [if_neg z]
      have c0 : pzNc h p 99 = 0 := by unfold pzNc; rw [if_pos f, if_neg (fun y => y.elim z (vle z))]
      by_cases y : pzwn R = 40
      · rw [if_pos y]
        have c1 : pzWc h R p = 4 := by unfold pzWc; rw [c0, if_pos rfl, if_pos y]
        exact zw_some.2 (Or.inr ⟨4, by decide, by decide, rfl, (hbad 4 c1.symm (by decide)).1 s zfr_rfl hlt⟩)
      · rw [if_neg y, zw_b2]
        have c1 : pzWc h R p = 0 := by unfold pzWc; rw [c0, if_pos rfl, if_neg y]
        refine zw_mono (hok c1) (fun v hv => ?_)
        rw [zw_b2]
        exact zw_mono hv (fun w hw => zw_some.2 (Or.inl ⟨rfl, hw⟩))
  · have c0 : pzNc h p 99 = 1 := by unfold pzNc; rw [f]; rfl
    have c1 : pzWc h R p = 1 := by unfold pzWc; rw [c0]; rfl
    exact (hbad 1 c1.symm (by decide)).1 s zfr_rfl hl
  · have f : zfig h (zskp h p) = false := by
      cases f : zfig h (zskp h p) with
      | false => rfl
      | true => have := zfig_lt f; omega
    have c0 : pzNc h p 99 = 1 := by unfold pzNc; rw [f]; rfl
    have c1 : pzWc h R p = 1 := by unfold pzWc; rw [c0]; rfl
    exact (hbad 1 c1.symm (by decide)).2 rfl e s zfr_rfl nk
end
