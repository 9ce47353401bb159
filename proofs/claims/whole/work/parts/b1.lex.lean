/-! reading the text: blanks and numbers -/
def zfig (h : List Nat) (p : Nat) : Bool := decide (48 ≤ zgt h p ∧ zgt h p ≤ 57)
theorem zgt_out {h : List Nat} {p : Nat} (hp : h.length ≤ p) : zgt h p = 0 := by
  unfold zgt
  rw [List.getD_eq_getElem?_getD, List.getElem?_eq_none hp]; rfl
theorem zfig_lt {h : List Nat} {p : Nat} (hf : zfig h p = true) : p < h.length := by
  apply Classical.byContradiction
  intro z
  unfold zfig at hf
  rw [zgt_out (by omega)] at hf
  exact absurd hf (by decide)
/-- behind the blanks from p on -/
def zskF (h : List Nat) : Nat → Nat → Nat
  | 0, p => p
  | f + 1, p => if p < h.length ∧ zgt h p = 32 then zskF h f (p + 1) else p
def zskp (h : List Nat) (p : Nat) : Nat := zskF h (h.length - p) p
theorem zskp_blank {h : List Nat} {p : Nat} (h1 : p < h.length) (h2 : zgt h p = 32) : zskp h p = zskp h (p + 1) := by
  unfold zskp
  obtain ⟨f, hf⟩ : ∃ f, h.length - p = f + 1 := ⟨h.length - p - 1, by omega⟩
  rw [hf, show h.length - (p + 1) = f by omega]
  conv => lhs; unfold zskF
  rw [if_pos ⟨h1, h2⟩]
theorem zskp_stop {h : List Nat} {p : Nat} (h1 : ¬ (p < h.length ∧ zgt h p = 32)) : zskp h p = p := by
  unfold zskp
  cases h.length - p with
  | zero => rfl
  | succ f => conv => lhs; unfold zskF
              rw [if_neg h1]
/-- behind the figures from p on -/
def zndF (h : List Nat) : Nat → Nat → Nat
  | 0, p => p
  | f + 1, p => if zfig h p then zndF h f (p + 1) else p
def znd (h : List Nat) (p : Nat) : Nat := zndF h (h.length - p) p
theorem znd_fig {h : List Nat} {p : Nat} (h2 : zfig h p = true) : znd h p = znd h (p + 1) := by
  have h1 := zfig_lt h2
  unfold znd
  obtain ⟨f, hf⟩ : ∃ f, h.length - p = f + 1 := ⟨h.length - p - 1, by omega⟩
  rw [hf, show h.length - (p + 1) = f by omega]
  conv => lhs; unfold zndF
  rw [if_pos h2]
theorem znd_stop {h : List Nat} {p : Nat} (h1 : zfig h p = false) : znd h p = p := by
  unfold znd
  cases h.length - p with
  | zero => rfl
  | succ f => conv => lhs; unfold zndF
              rw [if_neg (by rw [h1]; decide)]
/-- the end of the figures: all within are figures, the end is none -/
theorem znd_ok (h : List Nat) : ∀ d p, h.length - p ≤ d → p ≤ h.length → p ≤ znd h p ∧ znd h p ≤ h.length ∧ (∀ i, p ≤ i → i < znd h p → zfig h i = true) ∧ zfig h (znd h p) = false := by
  intro d
  induction d with
  | zero =>
    intro p h1 h2
    have e : zfig h p = false := by
      cases q : zfig h p with
      | false => rfl
      | true => have := zfig_lt q; omega
    rw [znd_stop e]
    exact ⟨Nat.le_refl _, h2, fun i a b => by omega, e⟩
  | succ d ih =>
    intro p h1 h2
    cases q : zfig h p with
    | false =>
      rw [znd_stop q]
      exact ⟨Nat.le_refl _, h2, fun i a b => by omega, q⟩
    | true =>
      have h3 := zfig_lt q
      rw [znd_fig q]
      obtain ⟨a, b, c, e⟩ := ih (p + 1) (by omega) (by omega)
      refine ⟨by omega, b, fun i hi1 hi2 => ?_, e⟩
      by_cases z : i = p
      · rw [z]; exact q
      · exact c i (by omega) hi2
theorem zskp_ok (h : List Nat) : ∀ d p, h.length - p ≤ d → p ≤ h.length → p ≤ zskp h p ∧ zskp h p ≤ h.length ∧ (∀ i, p ≤ i → i < zskp h p → zgt h i = 32) ∧ ¬ (zskp h p < h.length ∧ zgt h (zskp h p) = 32) := by
  intro d
  induction d with
  | zero =>
    intro p h1 h2
    rw [zskp_stop (by omega)]
    exact ⟨Nat.le_refl _, h2, fun i a b => by omega, by omega⟩
  | succ d ih =>
    intro p h1 h2
    by_cases q : p < h.length ∧ zgt h p = 32
    · rw [zskp_blank q.1 q.2]
      obtain ⟨a, b, c, e⟩ := ih (p + 1) (by omega) (by omega)
      refine ⟨by omega, b, fun i hi1 hi2 => ?_, e⟩
      by_cases z : i = p
      · rw [z]; exact q.2
      · exact c i (by omega) hi2
    · rw [zskp_stop q]
      exact ⟨Nat.le_refl _, h2, fun i a b => by omega, q⟩
/-- the value of one or two figures -/
def zval (h : List Nat) (q e : Nat) : Nat := if e - q = 2 then 10 * (zgt h q - 48) + (zgt h (q + 1) - 48) else zgt h q - 48
-- the class
def zHX (h : List Nat) (s : zq_S) : Prop := zgf s 26 1 = nI h.length ∧ (∀ i, i < h.length → zA s 27 i &&& 255 = nI (zgt h i)) ∧ h.length ≤ 400 ∧ ∀ x, x ∈ h → x < 256
theorem zgt_256 {h : List Nat} (hh : ∀ x, x ∈ h → x < 256) (p : Nat) : zgt h p < 256 := by
  by_cases q : p < h.length
  · rw [zgt_eq q]; exact hh _ (List.getElem_mem q)
  · rw [zgt_out (by omega)]; decide
theorem mX5_byteAt_eq (N : Nat) {h : List Nat} {s : zq_S} (hs : zHX h s) {p : Nat} (hp : p < 2 ^ 31) : mX5_byteAt N (nI p) s = some (nI (zgt h p), s) := by
  have hl := hs.2.2.1
  unfold mX5_byteAt jX5_byteAt_j32 jX5_byteAt_j33
  rw [if_neg (nI_nneg hp), hs.1]
  by_cases q : p < h.length
  · rw [if_neg (by rw [nI_leI (by omega) hp]; omega), if_neg (by rw [show (400 : Int32) = nI 400 from rfl, nI_leI (by omega) hp]; omega), zck_nI (by omega) (by decide), zga_nI _ _ hp, hs.2.1 p q]
  · rw [if_pos (by rw [nI_leI (by omega) hp]; omega), zgt_out (by omega)]
    rfl
theorem mX5_isFigure_eq (N : Nat) {h : List Nat} {s : zq_S} (hs : zHX h s) {p : Nat} (hp : p < 2 ^ 31) : mX5_isFigure N (nI p) s = some (zib (zfig h p), s) := by
  have hb := zgt_256 hs.2.2.2 p
  unfold mX5_isFigure jX5_isFigure_j24 jX5_isFigure_j25 zfig
  rw [mX5_byteAt_eq N hs hp, zb2_some]
  dsimp only
  rw [mX5_byteAt_eq N hs hp, zb2_some]
  by_cases q : zgt h p < 48
  · rw [if_pos (by rw [show (48 : Int32) = nI 48 from rfl, nI_ltI (by omega) (by omega)]; exact q), zb_0, decide_eq_false (by omega)]
    rfl
  · rw [if_neg (by rw [show (48 : Int32) = nI 48 from rfl, nI_ltI (by omega) (by omega)]; exact q)]
    dsimp only
    by_cases q2 : 57 < zgt h p
    · rw [if_pos (by rw [show (57 : Int32) = nI 57 from rfl, nI_ltI (by omega) (by omega)]; exact q2), zb_0, decide_eq_false (by omega)]
      rfl
    · rw [if_neg (by rw [show (57 : Int32) = nI 57 from rfl, nI_ltI (by omega) (by omega)]; exact q2), zb_1, decide_eq_true (by omega)]
      rfl
theorem mX5_endOfToken_eq (N : Nat) (hN : 5000 ≤ N) {h : List Nat} {s : zq_S} (hs : zHX h s) {p : Nat} (hp : p < h.length) : mX5_endOfToken N (nI p) s = some (nI (if zfig h p then znd h p else p + 1), s) := by
  have hl := hs.2.2.1
  unfold mX5_endOfToken jX5_endOfToken_j34
  dsimp only [zq_let]
  rw [mX5_isFigure_eq N hs (by omega), zb2_some, nI_1]
  dsimp only
  cases q : zfig h p with
  | false => rw [zib_f, if_pos rfl]; rfl
  | true =>
    rw [zib_t, if_neg (show ¬ (1 : Int32) = 0 by decide), if_pos rfl, znd_fig q]
    have key : ∀ d e M, h.length - e ≤ d → e ≤ h.length → d < M → zq_loop (bX5_endOfToken_12 N (fun e7 => some (e7.1, e7.2))) M (nI e, s) = some (nI (znd h e), s) := by
      intro d
      induction d with
      | zero =>
        intro e M h1 h2 hM
        obtain ⟨M, rfl⟩ : ∃ M', M = M' + 1 := ⟨M - 1, by omega⟩
        rw [zq_loop_s]
        dsimp only [bX5_endOfToken_12]
        rw [hs.1, if_pos (nI_le (by omega) (by omega)), znd_stop]
        cases z : zfig h e with
        | false => rfl
        | true => have := zfig_lt z; omega
      | succ d ih =>
        intro e M h1 h2 hM
        obtain ⟨M, rfl⟩ : ∃ M', M = M' + 1 := ⟨M - 1, by omega⟩
        rw [zq_loop_s]
        dsimp only [bX5_endOfToken_12, zq_let]
        cases z : zfig h e with
        | false =>
          rw [znd_stop z, hs.1, mX5_isFigure_eq N hs (by omega), z, zb2_some]
          dsimp only
          rw [zib_f, if_pos rfl, ite_self]
        | true =>
          have := zfig_lt z
          rw [znd_fig z, hs.1, if_neg (by rw [nI_leI (by omega) (by omega)]; omega), mX5_isFigure_eq N hs (by omega), z, zb2_some]
          dsimp only
          rw [zib_t, if_neg (show ¬ (1 : Int32) = 0 by decide), nI_1]
          exact ih (e + 1) M (by omega) (by omega) (by omega)
    exact key (h.length - (p + 1)) (p + 1) N (Nat.le_refl _) (by omega) (by omega)
-- the reference
def zHM (h : List Nat) (s : zq_S) : Prop := zgf s 57 16 = nI h.length ∧ (∀ i, i < h.length → zA s 70 i = nI (zgt h i)) ∧ h.length ≤ 400 ∧ ∀ x, x ∈ h → x < 256
theorem zHM_f {h : List Nat} {s : zq_S} (hs : zHM h s) (j : Nat) (v : Int32) (hj : j ≠ 16) : zHM h (zpf s 57 j v) := by
  obtain ⟨h1, h2⟩ := hs
  refine ⟨?_, h2⟩
  rw [zgf_pf, if_neg (by omega)]; exact h1
/-- what here() answers at p -/
def zhr (h : List Nat) (p : Nat) : Int32 := if zskp h p < h.length then nI (zgt h (zskp h p)) else -1
theorem mX12_here_eq (N : Nat) (hN : 5000 ≤ N) {h : List Nat} {s : zq_S} (hs : zHM h s) {p : Nat} (hp : p ≤ h.length) (hat : zgf s 57 18 = nI p) : mX12_here N s = some (zhr h p, zpf s 57 18 (nI (zskp h p))) := by
  have hl := hs.2.2.1
  have j38 : ∀ (u : zq_S) (q : Nat), zHM h u → q ≤ h.length → zgf u 57 18 = nI q → ¬ (q < h.length ∧ zgt h q = 32) → jX12_here_j38 N u = some ((if q < h.length then nI (zgt h q) else -1), u) := by
    intro u q hu hq ha hn
    unfold jX12_here_j38 jX12_here_j62
    rw [hu.1, ha]
    by_cases z : q < h.length
    · rw [if_neg (by rw [nI_leI (by omega) (by omega)]; omega), zck_nI (by omega) (by decide), zga_nI _ _ (by omega), hu.2.1 q z, if_pos z]
    · rw [if_pos (nI_le (by omega) (by omega)), if_neg z]
  have key : ∀ d q M, h.length - q ≤ d → q ≤ h.length → d < M → zq_loop (bX12_here_0 N (fun e3 => jX12_here_j38 N e3)) M (zpf s 57 18 (nI q)) = some (zhr h q, zpf s 57 18 (nI (zskp h q))) := by
    intro d
    induction d with
    | zero =>
      intro q M h1 h2 hM
      obtain ⟨M, rfl⟩ : ∃ M', M = M' + 1 := ⟨M - 1, by omega⟩
      rw [zq_loop_s]
      dsimp only [bX12_here_0]
      have hu := zHM_f hs 18 (nI q) (by decide)
      rw [hu.1, show zgf (zpf s 57 18 (nI q)) 57 18 = nI q from rfl, if_pos (nI_le (by omega) (by omega)), j38 _ q hu h2 rfl (by omega)]
      unfold zhr
      rw [zskp_stop (by omega)]
    | succ d ih =>
      intro q M h1 h2 hM
      obtain ⟨M, rfl⟩ : ∃ M', M = M' + 1 := ⟨M - 1, by omega⟩
      rw [zq_loop_s]
      dsimp only [bX12_here_0, zq_let]
      have hu := zHM_f hs 18 (nI q) (by decide)
      rw [hu.1, show zgf (zpf s 57 18 (nI q)) 57 18 = nI q from rfl]
      by_cases z : q < h.length ∧ zgt h q = 32
      · rw [if_neg (by rw [nI_leI (by omega) (by omega)]; omega), zck_nI (by omega) (by decide), zga_nI _ _ (by omega), hu.2.1 q z.1, z.2, if_pos (by rfl), nI_1, zpf_pf]
        have := ih (q + 1) M (by omega) (by omega) (by omega)
        unfold zhr at this ⊢
        rw [zskp_blank z.1 z.2]
        exact this
      · have e := j38 _ q hu h2 rfl z
        have e2 : some (zhr h q, zpf s 57 18 (nI (zskp h q))) = some ((if q < h.length then nI (zgt h q) else -1), zpf s 57 18 (nI q)) := by
          unfold zhr
          rw [zskp_stop z]
        rw [e2, ← e]
        by_cases z1 : q < h.length
        · have hb := zgt_256 hs.2.2.2 q
          rw [if_neg (by rw [nI_leI (by omega) (by omega)]; omega), zck_nI (by omega) (by decide), zga_nI _ _ (by omega), hu.2.1 q z1, if_neg (by rw [show (32 : Int32) = nI 32 from rfl, nI_eq (by omega) (by decide)]; exact fun y => z ⟨z1, y⟩)]
        · rw [if_pos (nI_le (by omega) (by omega))]
  have es : zpf s 57 18 (nI p) = s := by
    have := zpf_same s 57 18
    rw [hat] at this
    exact this
  have := key (h.length - p) p (N + 1) (Nat.le_refl _) hp (by omega)
  rw [zq_loop_s, es] at this
  rw [← this]
  unfold mX12_here
  dsimp only [bX12_here_0]
