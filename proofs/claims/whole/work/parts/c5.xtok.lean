/-! the class: token by token -/
def pzXi (b : Bool) (R : List zIt) (s : zq_S) (k : Nat) : Prop :=
  zA s (zs b + 2) k = zcode (pzat R k).sg ∧
  ((1 ≤ (pzat R k).sg ∧ (pzat R k).sg ≤ 7) ∨ (pzat R k).sg = 9 → zA s (zs b + 3) k = nI (pzat R k).mk) ∧
  ((pzat R k).sg = 0 ∨ (pzat R k).sg = 8 ∨ (pzat R k).sg = 9 → zA s (zs b + 4) k = nI (pzat R k).wd) ∧
  (1 ≤ (pzat R k).sg ∧ (pzat R k).sg ≤ 3 → k ∉ pzstk R → zA s (zs b + 4) k = nI (pzlk R k))
def pzoi (o : Option Nat) : Int32 := match o with
  | none => -1
  | some d => nI d
def pzXm (b : Bool) (R : List zIt) (s : zq_S) (m : Nat) : Prop :=
  zA s (zs b + 6) m = nI (pzba R m) ∧ zA s (zs b + 7) m = nI (pzns R m) ∧ zA s (zs b + 11) m = pzoi (pzsd R m) ∧
  ((pzmk R).testBit m = true → zA s (zs b + 5) m = nI (pzkd R m) ∧ zA s (zs b + 8) m = nI (pzdp R m)) ∧
  ((pzmv R).testBit m = true → zA s (zs b + 9) m = nI (pzop R m)) ∧ ((pzsr R).testBit m = true → zA s (zs b + 10) m = nI (pzsx R m)) ∧
  zA s 29 m = (if (pzsr R).testBit m then nI (pzat R (pzsx R m)).ps else -1) ∧ zA s 30 m = (if (pzmv R).testBit m then nI (pzat R (pzop R m)).ps else -1)
def pzov : List zIt → Int32
  | [] => -1
  | x :: _ => if x.sg = 9 then nI x.mk else -1
def pznl (l : List Nat) : Int32 := if 48 ≤ l.getLastD 0 ∧ l.getLastD 0 ≤ 57 then 1 else 0
def pzCX (h : List Nat) (b : Bool) (R : List zIt) (st : Int32) (s : zq_S) : Prop :=
  zHX h s ∧ zgb s 2 = b ∧ zgf s 26 4 = st ∧ zgf s 26 6 = nI (pzstk R).length ∧ zgf s 26 7 = nI (pzmk R) ∧ (pzph R ≠ 0 → zgf s 26 8 = pzov R) ∧ pzXs s (pzstk R) ∧
  zgf s (zs b) 6 = nI R.length ∧ zgf s (zs b) 8 = nI (pzwn R) ∧ pzPr b s (pzpr R) (pznl (pzpr R)) ∧ (∀ k, k < R.length → pzXi b R s k) ∧ (∀ m, m < 10 → pzXm b R s m)
abbrev pzFX (b : Bool) (s t : zq_S) : Prop := zfr [(zs b, 1), (zs b, 2), (zs b, 6), (zs b, 7), (zs b, 8), (26, 4), (26, 6), (26, 7), (26, 8), (26, 9)] [zs b + 1, zs b + 2, zs b + 3, zs b + 4, zs b + 5, zs b + 6, zs b + 7, zs b + 8, zs b + 9, zs b + 10, zs b + 11, 28, 29, 30] [] s t
theorem zHX_fr {h : List Nat} {b : Bool} {s t : zq_S} (hs : zHX h s) (f : pzFX b s t) : zHX h t := by
  obtain ⟨a, c, d⟩ := hs
  exact ⟨by rw [f.f 26 1 (by cases b <;> decide)]; exact a, by rw [f.a 27 (by cases b <;> decide)]; exact c, d⟩
/-- the loop of tokens, from p on -/
def pzRX (N : Nat) (h : List Nat) (b : Bool) (K : Int32 × Int32 × zq_S → Option (Int32 × zq_S)) (Q : Int32 × zq_S → Prop) (p : Nat) (s : zq_S) : Prop := ∀ M st, st ≤ p → h.length - p < M → zw (zq_loop (bX5_readInto_12 N b K) M (nI p, 0, nI st, s)) Q
theorem pzRX_end {N : Nat} {h : List Nat} {b : Bool} {K : Int32 × Int32 × zq_S → Option (Int32 × zq_S)} {Q : Int32 × zq_S → Prop} {p : Nat} {s : zq_S} (hs : zHX h s) (hp : p = h.length) (hk : zw (K (nI p, 0, s)) Q) : pzRX N h b K Q p s := by
  intro M st h1 h2
  have hl := hs.2.2.1
  obtain ⟨M, rfl⟩ : ∃ M', M = M' + 1 := ⟨M - 1, by omega⟩
  rw [zq_loop_s]
  dsimp only [bX5_readInto_12]
  rw [hs.1, if_pos (show nI h.length ≤ nI p from nI_le (by omega) (by omega)), ite_self]
  exact hk
theorem pzRX_tok {N : Nat} {h : List Nat} {b : Bool} {K : Int32 × Int32 × zq_S → Option (Int32 × zq_S)} {Q : Int32 × zq_S → Prop} (hN : 5000 ≤ N) {p : Nat} {s : zq_S} (hs : zHX h s) (hp : p < h.length) (ht : zw (mX5_takeToken N (nI p) (nI (if zfig h p then znd h p else p + 1)) s) (fun v => (v.1 = 0 ∧ pzRX N h b K Q (if zfig h p then znd h p else p + 1) v.2) ∨ (∃ c, c ≠ 0 ∧ c < 100 ∧ v.1 = nI c ∧ zw (K (nI p, nI c, v.2)) Q))) : pzRX N h b K Q p s := by
  intro M st h1 h2
  have hl := hs.2.2.1
  obtain ⟨M, rfl⟩ : ∃ M', M = M' + 1 := ⟨M - 1, by omega⟩
  obtain ⟨M, rfl⟩ : ∃ M', M = M' + 1 := ⟨M - 1, by omega⟩
  have he : p < (if zfig h p then znd h p else p + 1) := by
    cases z : zfig h p with
    | false => rw [if_neg (by decide)]; omega
    | true =>
      rw [if_pos rfl, znd_fig z]
      have := (pznd h (show p + 1 ≤ h.length by omega)).1
      omega
  rw [zq_loop_s]
  dsimp only [bX5_readInto_12, zq_let]
  rw [hs.1, if_neg (by rw [show (400 : Int32) = nI 400 from rfl, nI_leI (by decide) (by omega)]; omega), if_neg (by rw [nI_leI (by omega) (by omega)]; omega), if_pos rfl, mX5_endOfToken_eq N hN hs hp, zb2_some]
  dsimp only
  refine zw_call ht ?_
  intro r t hh
  dsimp only at hh ⊢
  rcases hh with ⟨r0, hh⟩ | ⟨c, c1, c2, rc, hh⟩
  · subst r0
    rw [if_pos rfl, nI_1]
    exact hh (M + 1) (st + 1) (by omega) (by omega)
  · subst rc
    have hc : ¬ nI c = (0 : Int32) := by rw [show (0 : Int32) = nI 0 from rfl, nI_eq (by omega) (by decide)]; exact c1
    rw [if_neg hc, zq_loop_s]
    dsimp only [bX5_readInto_12]
    rw [if_neg hc, ite_self, ite_self]
    exact hh
theorem pzRX_blank {N : Nat} {h : List Nat} {b : Bool} {K : Int32 × Int32 × zq_S → Option (Int32 × zq_S)} {Q : Int32 × zq_S → Prop} (hN : 5000 ≤ N) {p : Nat} {s : zq_S} (hs : zHX h s) (hp : p < h.length) (h32 : zgt h p = 32) (hk : pzRX N h b K Q (p + 1) s) : pzRX N h b K Q p s := by
  have hl := hs.2.2.1
  refine pzRX_tok hN hs hp ?_
  have hf : zfig h p = false := by unfold zfig; rw [h32]; decide
  rw [hf, if_neg (show ¬ false = true by decide)]
  unfold mX5_takeToken
  rw [mX5_byteAt_eq N hs (by omega), zb2_some, h32]
  dsimp only
  rw [if_pos (show nI 32 = (32 : Int32) from rfl)]
  exact zw_some.2 (Or.inl ⟨rfl, hk⟩)
theorem pzRX_skip {N : Nat} {h : List Nat} {b : Bool} {K : Int32 × Int32 × zq_S → Option (Int32 × zq_S)} {Q : Int32 × zq_S → Prop} (hN : 5000 ≤ N) {s : zq_S} (hs : zHX h s) : ∀ d p, h.length - p ≤ d → p ≤ h.length → pzRX N h b K Q (zskp h p) s → pzRX N h b K Q p s := by
  intro d
  induction d with
  | zero =>
    intro p h1 h2 hk
    rw [zskp_stop (by omega)] at hk
    exact hk
  | succ d ih =>
    intro p h1 h2 hk
    by_cases q : p < h.length ∧ zgt h p = 32
    · rw [zskp_blank q.1 q.2] at hk
      exact pzRX_blank hN hs q.1 q.2 (ih (p + 1) (by omega) (by omega) hk)
    · rw [zskp_stop q] at hk
      exact hk
