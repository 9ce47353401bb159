/-! the reference reads items -/
theorem pz2_lt {v : Nat} (h : v < 10) : 2 ^ v < 1024 := Nat.pow_lt_pow_right (by decide) h
theorem pzor_lt {a b : Nat} (ha : a < 1024) (hb : b < 1024) : a ||| b < 1024 := Nat.or_lt_two_pow (n := 10) ha hb
theorem pzmk_lt {R : List zIt} (h : pzV R) : pzmk R < 1024 := by
  induction R with
  | nil => decide
  | cons x R ih =>
    have hx := h.2.1
    rw [pzmk]
    refine pzor_lt (pzor_lt (ih h.1) ?_) ?_
    · split
      · exact pz2_lt hx.2.1
      · decide
    · split
      · exact pz2_lt (by omega)
      · decide
theorem pzmv_lt {R : List zIt} (h : pzV R) : pzmv R < 1024 := by
  induction R with
  | nil => decide
  | cons x R ih =>
    rw [pzmv]
    refine pzor_lt (ih h.1) ?_
    split
    · exact pz2_lt h.2.1.2.1
    · decide
theorem pzsr_lt {R : List zIt} (h : pzV R) : pzsr R < 1024 := by
  induction R with
  | nil => decide
  | cons x R ih =>
    rw [pzsr]
    refine pzor_lt (ih h.1) ?_
    split
    · exact pz2_lt h.2.1.2.1
    · decide
def pznn : List zIt → Nat
  | [] => 0
  | x :: _ => if 1 ≤ x.sg ∧ x.sg ≤ 3 then 1 else 0
def pz3 (R : List zIt) : List Nat → Nat
  | [] => 0
  | q :: l => pz3 R l + (if (pzat R q).sg = 3 then 1 else 0)
theorem pz3_old (x : zIt) {R : List zIt} : ∀ l, (∀ q, q ∈ l → q < R.length) → pz3 (x :: R) l = pz3 R l := by
  intro l
  induction l with
  | nil => intro _; rfl
  | cons q l ih =>
    intro h
    rw [pz3, pz3, ih (fun a b => h a (List.mem_cons_of_mem _ b)), pzat_old x (h q List.mem_cons_self)]
theorem pz3_le (R : List zIt) : ∀ l, pz3 R l ≤ l.length := by
  intro l
  induction l with
  | nil => exact Nat.zero_le _
  | cons q l ih => rw [pz3, List.length_cons]; split <;> omega
theorem pz3_0 {R : List zIt} : pzA3 R = false ↔ pz3 R (pzstk R) = 0 := by
  unfold pzA3
  induction pzstk R with
  | nil => exact ⟨fun _ => rfl, fun _ => rfl⟩
  | cons q l ih =>
    rw [List.any_cons, Bool.or_eq_false_iff, pz3, ih]
    constructor
    · rintro ⟨a, b⟩
      rw [b, if_neg (fun y => by rw [y] at a; cases a)]
    · intro a
      by_cases y : (pzat R q).sg = 3
      · rw [if_pos y] at a; omega
      · rw [if_neg y] at a
        exact ⟨by rw [beq_eq_false_iff_ne]; exact y, by omega⟩
/-- what the reference's rows hold of item k -/
def pzMi (R : List zIt) (s : zq_S) (k : Nat) : Prop :=
  zA s 71 k = zkd2 (pzat R k).sg ∧
  ((pzat R k).sg = 0 ∨ (pzat R k).sg = 8 ∨ (pzat R k).sg = 9 → zA s 72 k = nI (pzat R k).wd) ∧
  ((1 ≤ (pzat R k).sg ∧ (pzat R k).sg ≤ 3) ∨ (pzat R k).sg = 7 → zA s 72 k = nI (pzat R k).mk) ∧
  (4 ≤ (pzat R k).sg ∧ (pzat R k).sg ≤ 6 → zA s 72 k = nI ((pzat R k).sg - 3) ∧ zA s 74 k = nI ((pzstk (pzpre R k)).headD 0)) ∧
  (1 ≤ (pzat R k).sg ∧ (pzat R k).sg ≤ 3 → zA s 73 k = if (pzat R k).sd = 0 then -1 else nI ((pzat R k).sd - 1)) ∧
  ((pzat R k).sg = 9 → zA s 73 k = nI (pzat R k).mk) ∧
  (1 ≤ (pzat R k).sg ∧ (pzat R k).sg ≤ 3 → k ∉ pzstk R → zA s 74 k = nI (pzlk R k)) ∧
  ((pzat R k).sg = 8 → (pzph R = 0 ∨ pzrw R ≠ k) → zA s 74 k = nI (pzlk R k)) ∧
  ((pzat R k).sg = 3 ∨ (pzat R k).sg = 7 → zA s 75 k = nI (pzat R k).ps)
def pzMa (R : List zIt) (s : zq_S) : Prop := ∀ k, k < R.length → pzMi R s k
theorem pzMa_cons {x : zIt} {R : List zIt} {s t : zq_S} (h : pzMa R s) (hV : pzV (x :: R))
    (hk : ∀ k, k < R.length → zA t 71 k = zA s 71 k ∧ zA t 72 k = zA s 72 k ∧ zA t 73 k = zA s 73 k ∧ zA t 75 k = zA s 75 k ∧ zA t 74 k = if (4 ≤ x.sg ∧ x.sg ≤ 6 ∧ (pzstk R).head? = some k) ∨ (x.sg = 10 ∧ pzrw R = k) then nI R.length else zA s 74 k)
    (hn : pzMi (x :: R) t R.length) : pzMa (x :: R) t := by
  intro k hkl
  rw [List.length_cons] at hkl
  by_cases z : k < R.length
  · obtain ⟨a1, a2, a3, a4, a5, a6, a7, a8, a9⟩ := h k z
    obtain ⟨e1, e2, e3, e4, e5⟩ := hk k z
    obtain ⟨b1, b2, b3⟩ := hV.2.2.1
    have hle := pzph_le R
    unfold pzMi
    rw [pzat_old x z, e1, e2, e3, e4, e5, pzpre_old x (Nat.le_of_lt z)]
    have row : x.sg = 10 → (pzat R (pzrw R)).sg = 8 := fun y => (pzrw_ok hV.1 (pz_10 hV.2 y)).2.1
    refine ⟨a1, a2, a3, fun y => ?_, a5, a6, fun y y2 => ?_, fun y y2 => ?_, a9⟩
    · refine ⟨(a4 y).1, ?_⟩
      rw [if_neg]
      · exact (a4 y).2
      · rintro (w | w)
        · have := (pzstk_mem hV.1 (List.mem_of_mem_head? w.2.2)).2
          omega
        · have := row w.1
          rw [w.2] at this
          omega
    · by_cases c : (4 ≤ x.sg ∧ x.sg ≤ 6 ∧ (pzstk R).head? = some k) ∨ (x.sg = 10 ∧ pzrw R = k)
      · rw [if_pos c, pzlk, if_pos c]
      · rw [if_neg c, pzlk, if_neg c]
        refine a7 y (fun w => y2 ?_)
        rcases pz_cases x with v | v | v
        · rw [pzstk_o R v]; exact List.mem_cons_of_mem _ w
        · rw [pzstk_c R v]
          cases e : pzstk R with
          | nil => rw [e] at w; cases w
          | cons q l =>
            rw [e] at w c
            rcases List.mem_cons.1 w with w | w
            · exact absurd (Or.inl ⟨v.1, v.2, by rw [w]; rfl⟩) c
            · exact w
        · rw [pzstk_e R v]; exact w
    · by_cases c : (4 ≤ x.sg ∧ x.sg ≤ 6 ∧ (pzstk R).head? = some k) ∨ (x.sg = 10 ∧ pzrw R = k)
      · rw [if_pos c, pzlk, if_pos c]
      · rw [if_neg c, pzlk, if_neg c]
        refine a8 y ?_
        by_cases w : pzph R = 0
        · exact Or.inl w
        · right
          have w9 : x.sg = 9 ∨ x.sg = 10 := by omega
          rcases w9 with w9 | w9
          · rcases y2 with y2 | y2
            · rw [pzph, if_neg (by omega), if_pos w9] at y2; cases y2
            · rw [pzrw, if_neg (by omega)] at y2; exact y2
          · exact fun v => c (Or.inr ⟨w9, v⟩)
  · rw [show k = R.length by omega]; exact hn
def pzMs (s : zq_S) : List Nat → Prop
  | [] => True
  | q :: l => zA s 76 l.length = nI q ∧ pzMs s l
theorem pzMs_eq {s t : zq_S} : ∀ l, (∀ d, d < l.length → zA t 76 d = zA s 76 d) → pzMs s l → pzMs t l := by
  intro l
  induction l with
  | nil => intro _ _; trivial
  | cons q l ih =>
    intro h hs
    rw [List.length_cons] at h
    exact ⟨(h _ (by omega)).trans hs.1, ih (fun d hd => h d (by omega)) hs.2⟩
def pzCM (h : List Nat) (R : List zIt) (p : Nat) (s : zq_S) : Prop :=
  zHM h s ∧ zgf s 57 17 = -1 ∧ zgf s 57 18 = nI p ∧ zgf s 57 21 = nI R.length ∧ zgf s 57 27 = nI (pzwn R) ∧ zgf s 57 28 = nI (pzmk R) ∧ zgf s 57 29 = nI (pzmv R) ∧ zgf s 57 30 = nI (pzsr R) ∧
  zgf s 57 31 = nI (pzstk R).length ∧ zgf s 57 33 = nI (pz3 R (pzstk R)) ∧ (pzph R = 0 → zgf s 57 34 = nI (pznn R)) ∧ pzMs s (pzstk R) ∧ pzMa R s
abbrev pzFM (s t : zq_S) : Prop := zfr [(57, 17), (57, 18), (57, 19), (57, 20), (57, 21), (57, 27), (57, 28), (57, 29), (57, 30), (57, 31), (57, 33), (57, 34)] [71, 72, 73, 74, 75, 76] [] s t
def pzQ1 (h : List Nat) (R : List zIt) (rs : pzRs) (s : zq_S) (v : Int32 × zq_S) : Prop :=
  pzFM s v.2 ∧ v.1 = nI rs.1.1 ∧ (rs.1.1 = 0 → pzCM h (rs.2.1 :: R) rs.2.2 v.2) ∧ (rs.1.1 ≠ 0 → zgf v.2 57 17 = nI rs.1.2)
theorem pzQ1_f {h : List Nat} {R : List zIt} {c q : Nat} {s : zq_S} {v : Int32 × zq_S} (h1 : pzFM s v.2) (h2 : v.1 = nI c) (hc : c ≠ 0) (h3 : zgf v.2 57 17 = nI q) : pzQ1 h R (pzFl c q) s v :=
  ⟨h1, h2, fun y => absurd y hc, fun _ => h3⟩
theorem pzWc_le (h : List Nat) (R : List zIt) (p : Nat) : pzWc h R p ≤ 4 := by
  have hb : pzNc h p 99 ≤ 2 := by unfold pzNc; split; split <;> omega; omega
  unfold pzWc; split; split <;> omega; omega
theorem pzMc_le (h : List Nat) (K p : Nat) : pzMc h K p ≤ 3 := by
  have hb : pzNc h p 9 ≤ 2 := by unfold pzNc; split; split <;> omega; omega
  unfold pzMc; split; split <;> omega; omega
theorem pzmk_n {x : zIt} (R : List zIt) (h : ¬ ((1 ≤ x.sg ∧ x.sg ≤ 3) ∨ x.sg = 9)) : pzmk (x :: R) = pzmk R := by
  rw [pzmk, if_neg h, if_neg (by omega), Nat.or_zero, Nat.or_zero]
theorem pzmv_n {x : zIt} (R : List zIt) (h : x.sg ≠ 3) : pzmv (x :: R) = pzmv R := by rw [pzmv, if_neg h, Nat.or_zero]
theorem pzsr_n {x : zIt} (R : List zIt) (h : x.sg ≠ 7) : pzsr (x :: R) = pzsr R := by rw [pzsr, if_neg h, Nat.or_zero]
theorem pzwn_n {x : zIt} (R : List zIt) (h : ¬ (x.sg = 0 ∨ x.sg = 8 ∨ x.sg = 9)) : pzwn (x :: R) = pzwn R := by rw [pzwn, if_neg h, Nat.add_zero]
theorem pzwn_y {x : zIt} (R : List zIt) (h : x.sg = 0 ∨ x.sg = 8 ∨ x.sg = 9) : pzwn (x :: R) = pzwn R + 1 := by rw [pzwn, if_pos h]
theorem pz3_e {x : zIt} {R : List zIt} (hV : pzV R) (h : x.sg = 0 ∨ 7 ≤ x.sg) : pz3 (x :: R) (pzstk (x :: R)) = pz3 R (pzstk R) := by
  rw [pzstk_e R h]; exact pz3_old _ _ (fun q' hq' => (pzstk_mem hV hq').1)
/-- one more item that opens and closes nothing: the rows of the reference -/
theorem pzMa_flat {x : zIt} {R : List zIt} {s t : zq_S} {a b c d e : Int32} (h : pzMa R s) (hV : pzV (x :: R)) (hx : ¬ (4 ≤ x.sg ∧ x.sg ≤ 6)) (hx2 : x.sg ≠ 10)
    (g2 : pzrw5 t R.length a b c d e) (g3 : ∀ k, k ≠ R.length → pzrw5 t k (zA s 71 k) (zA s 72 k) (zA s 73 k) (zA s 74 k) (zA s 75 k))
    (e1 : a = zkd2 x.sg) (e2 : x.sg = 0 ∨ x.sg = 8 ∨ x.sg = 9 → b = nI x.wd) (e3 : (1 ≤ x.sg ∧ x.sg ≤ 3) ∨ x.sg = 7 → b = nI x.mk) (e4 : 1 ≤ x.sg ∧ x.sg ≤ 3 → c = if x.sd = 0 then -1 else nI (x.sd - 1)) (e5 : x.sg = 9 → c = nI x.mk) (e6 : x.sg = 3 ∨ x.sg = 7 → e = nI x.ps) : pzMa (x :: R) t := by
  refine pzMa_cons h hV (fun k hk => ?_) ?_
  · obtain ⟨k1, k2, k3, k4, k5⟩ := g3 k (by omega)
    rw [if_neg (fun y => by rcases y with y | y <;> omega)]
    exact ⟨k1, k2, k3, k5, k4⟩
  · obtain ⟨k1, k2, k3, k4, k5⟩ := g2
    unfold pzMi
    rw [pzat_new]
    refine ⟨k1.trans e1, fun y => k2.trans (e2 y), fun y => k2.trans (e3 y), fun y => absurd y hx, fun y => k3.trans (e4 y), fun y => k3.trans (e5 y), fun y y2 => ?_, fun y y2 => ?_, fun y => k5.trans (e6 y)⟩
    · rw [pzstk_o R y] at y2; exact absurd List.mem_cons_self y2
    · rw [pzph, pzrw, if_pos y, if_pos y] at y2
      rcases y2 with y2 | y2
      · cases y2
      · exact absurd rfl y2
/-- a word: number, then the item -/
theorem mX12_word_w (N : Nat) (hN : 5000 ≤ N) {h : List Nat} {R : List zIt} {s : zq_S} {q : Nat} (hV : pzV R) (h0 : pzph R = 0) (hq : q ≤ h.length) (hs : pzCM h R q s) :
    zw (zq_b2 (mX12_takeWord N s) (fun r9 s10 => zq_b2 (mX12_addSign N (0 : Int32) (zgf s10 57 19) (0 : Int32) (zgf s10 57 20) s10) (fun r11 s12 => zq_let (zpf s12 57 34 (0 : Int32)) (fun s13 => some (r9, s13))))) (pzQ1 h R (pzWd h R 0 q q) s) := by
  obtain ⟨c1, c2, c3, c4, c5, c6, c7, c8, c9, c10, c11, c12, c13⟩ := hs
  have hlen := pz_len hV
  refine zw_call (mX12_takeWord_w N hN c1 hq c3 c5 (pz_wn hV)) ?_
  intro r t ⟨h1, fr, h2, h3⟩
  dsimp only at h1 fr h2 h3 ⊢
  have n21 : zgf t 57 21 = nI R.length := by rw [fr.f 57 21 (by decide)]; exact c4
  refine zw_call (mX12_addSign_w N n21 (by omega) _ _ _ _) ?_
  intro r2 u ⟨f2, g1, g2, g3⟩
  dsimp only [zq_let] at f2 g1 g2 g3 ⊢
  have F : pzFM s (zpf u 57 34 0) := ((fr.mo (by decide) (by decide) (by decide)).tr (f2.mo (by decide) (by decide) (by decide))).tr (zfr_pf _ _ _ (by decide))
  have gf : ∀ j, j ≠ 34 → zgf (zpf u 57 34 0) 57 j = zgf u 57 j := fun j hj => by rw [zgf_pf, if_neg (by omega)]
  have gf2 : ∀ j, j ≠ 34 → j ≠ 21 → zgf (zpf u 57 34 0) 57 j = zgf t 57 j := fun j hj hj2 => by rw [gf j hj, f2.f 57 j (by intro y; simp only [List.mem_cons, Prod.mk.injEq, List.not_mem_nil, or_false] at y; omega)]
  refine zw_some.2 ?_
  unfold pzWd
  by_cases z : pzWc h R q = 0
  · rw [if_pos z]
    obtain ⟨d1, d2, d3, d4, d5⟩ := h2 z
    obtain ⟨m1, m2⟩ := pzW_ok hV z
    obtain ⟨_, _, _, _, hv, _⟩ := pzN_ok hq m1 (by decide)
    have CM : ∀ x : zIt, x.sg = 0 → x.wd = pzv h q → pzok R x → pzCM h (x :: R) (pze h q) (zpf u 57 34 0) := by
      intro x x1 x2 hok
      refine ⟨zHM_fr c1 F (by decide) (by decide), ?_, ?_, ?_, ?_, ?_, ?_, ?_, ?_, ?_, fun _ => ?_, ?_, ?_⟩
      · rw [gf2 17 (by decide) (by decide), d1]; exact c2
      · rw [gf2 18 (by decide) (by decide)]; exact d2
      · rw [gf 21 (by decide)]; exact g1
      · rw [gf2 27 (by decide) (by decide), pzwn_y R (by omega)]; exact d4
      · rw [gf2 28 (by decide) (by decide), fr.f 57 28 (by decide), pzmk_n R (by omega)]; exact c6
      · rw [gf2 29 (by decide) (by decide), fr.f 57 29 (by decide), pzmv_n R (by omega)]; exact c7
      · rw [gf2 30 (by decide) (by decide), fr.f 57 30 (by decide), pzsr_n R (by omega)]; exact c8
      · rw [gf2 31 (by decide) (by decide), fr.f 57 31 (by decide), pzstk_e R (by omega)]; exact c9
      · rw [gf2 33 (by decide) (by decide), fr.f 57 33 (by decide), pz3_e hV (by omega)]; exact c10
      · rw [pznn, if_neg (by omega)]; rfl
      · rw [pzstk_e R (by omega)]
        exact pzMs_eq _ (fun d _ => by rw [zA_pf, f2.a 76 (by decide), fr.a 76 (by decide)]) c12
      · have c13' : pzMa R t := fun k hk => by
          have := c13 k hk
          unfold pzMi at this ⊢
          rw [fr.a 71 (by decide), fr.a 72 (by decide), fr.a 73 (by decide), fr.a 74 (by decide), fr.a 75 (by decide)]
          exact this
        refine pzMa_flat (t := zpf u 57 34 0) c13' ⟨hV, hok⟩ (by omega) (by omega) g2 g3 ?_ (fun _ => ?_) (fun y => by omega) (fun y => by omega) (fun y => by omega) (fun y => by omega)
        · rw [x1]; rfl
        · rw [d3, x2]
    exact ⟨F, by rw [h1, z], fun _ => CM _ rfl rfl (pzok_w h0 (Or.inl rfl) (by omega) m2), fun y => absurd rfl y⟩
  · rw [if_neg z]
    refine pzQ1_f F h1 z ?_
    show zgf (zpf u 57 34 0) 57 17 = _
    rw [gf2 17 (by decide) (by decide)]; exact h3 z
