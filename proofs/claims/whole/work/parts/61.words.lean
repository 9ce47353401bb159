/-! the words of a walk -/
def zcn (P : Nat → Bool) : Nat → Nat
  | 0 => 0
  | n + 1 => zcn P n + (if P n then 1 else 0)
theorem zcn_le (P : Nat → Bool) : ∀ n, zcn P n ≤ n := by
  intro n
  induction n with
  | zero => exact Nat.le_refl _
  | succ n ih => unfold zcn; split <;> omega
theorem zcn_mono {P Q : Nat → Bool} : ∀ n, (∀ q, q < n → P q = true → Q q = true) → zcn P n ≤ zcn Q n := by
  intro n
  induction n with
  | zero => intro _; exact Nat.le_refl _
  | succ n ih =>
    intro h
    have a := ih (fun q hq => h q (by omega))
    have b := h n (by omega)
    unfold zcn
    by_cases e : P n = true
    · rw [if_pos e, if_pos (b e)]; omega
    · rw [if_neg e]; split <;> omega
theorem zcn_lt {P Q : Nat → Bool} {p : Nat} (hp : P p = false) (hq : Q p = true) : ∀ n, (∀ q, q < n → P q = true → Q q = true) → p < n → zcn P n + 1 ≤ zcn Q n := by
  intro n
  induction n with
  | zero => intro _ h; omega
  | succ n ih =>
    intro h hn
    unfold zcn
    by_cases e : p = n
    · subst e
      have a := zcn_mono p (fun q hq => h q (by omega))
      rw [hp, hq, if_neg (by decide), if_pos rfl]; omega
    · have a := ih (fun q hq => h q (by omega)) (by omega)
      have b := h n (by omega)
      by_cases e : P n = true
      · rw [if_pos e, if_pos (b e)]; omega
      · rw [if_neg e]; split <;> omega
/-- how many items that P names come ahead of p in a walk -/
def zrk (T : zSh) (S : Nat) (P : Nat → Bool) (p : Nat) : Nat := zcn (fun q => P q && decide (zK T S q < zK T S p)) T.n
theorem zrk_mono {T : zSh} (hT : zShW T) {S : Nat} (P : Nat → Bool) {p : Nat} (hp : p < T.n) : zrk T S P p ≤ zrk T S P (zsp T S p) := by
  have := zsp_K hT (S := S) hp
  apply zcn_mono
  intro q _ h
  rw [Bool.and_eq_true, decide_eq_true_eq] at h ⊢
  exact ⟨h.1, by omega⟩
theorem zrk_next {T : zSh} (hT : zShW T) {S : Nat} {P : Nat → Bool} {p : Nat} (hp : p < T.n) (hP : P p = true) : zrk T S P p + 1 ≤ zrk T S P (zsp T S p) := by
  have := zsp_K hT (S := S) hp
  refine zcn_lt (p := p) ?_ ?_ T.n ?_ hp
  · rw [decide_eq_false (by omega), Bool.and_false]
  · rw [hP, decide_eq_true this]; rfl
  · intro q _ h
    rw [Bool.and_eq_true, decide_eq_true_eq] at h ⊢
    exact ⟨h.1, by omega⟩
theorem zrk_le (T : zSh) (S : Nat) (P : Nat → Bool) (p : Nat) : zrk T S P p ≤ zcn P T.n := by
  apply zcn_mono
  intro q _ h
  rw [Bool.and_eq_true] at h
  exact h.1
theorem zcn_no {P : Nat → Bool} {p : Nat} (hp : P p = false) : ∀ n, p < n → zcn P n + 1 ≤ n := by
  intro n
  induction n with
  | zero => intro h; omega
  | succ n ih =>
    intro hn
    unfold zcn
    by_cases e : p = n
    · subst e
      have := zcn_le P p
      rw [hp, if_neg (by decide)]; omega
    · have := ih (by omega)
      split <;> omega
theorem zrk_lt (T : zSh) (S : Nat) (P : Nat → Bool) {p : Nat} (hp : p < T.n) : zrk T S P p < T.n := by
  have : zrk T S P p + 1 ≤ T.n := zcn_no (p := p) (by rw [decide_eq_false (by omega), Bool.and_false]) T.n hp
  omega
/-- over and words behind item p -/
def zov (T : zSh) (S p o : Nat) : Nat := if T.sg p = 8 ∨ (T.sg p = 9 ∧ S.testBit (T.mk p) = true) then T.wd p else o
def zws (T : zSh) (p o : Nat) (ws : List Nat) : List Nat := if T.sg p = 0 then ws ++ [T.wd p] else if T.sg p = 10 then ws ++ [o] else ws
/-- the walk: place, word of the row, words -/
def zwk (T : zSh) (S : Nat) : Nat → Nat × Nat × List Nat
  | 0 => (0, 0, [])
  | t + 1 => if (zwk T S t).1 < T.n then (zsp T S (zwk T S t).1, zov T S (zwk T S t).1 (zwk T S t).2.1, zws T (zwk T S t).1 (zwk T S t).2.1 (zwk T S t).2.2) else zwk T S t
theorem zwk_s {T : zSh} {S t : Nat} (h : (zwk T S t).1 < T.n) : zwk T S (t + 1) = (zsp T S (zwk T S t).1, zov T S (zwk T S t).1 (zwk T S t).2.1, zws T (zwk T S t).1 (zwk T S t).2.1 (zwk T S t).2.2) := by
  conv => lhs; unfold zwk
  rw [if_pos h]
theorem zwk_end {T : zSh} {S t : Nat} (h : ¬ (zwk T S t).1 < T.n) : zwk T S (t + 1) = zwk T S t := by
  conv => lhs; unfold zwk
  rw [if_neg h]
def zisw (T : zSh) (q : Nat) : Bool := decide (T.sg q = 0 ∨ T.sg q = 10)
theorem zwk_inv {T : zSh} (hT : zShW T) (S : Nat) : ∀ t, (zwk T S t).1 ≤ T.n ∧ ((zwk T S t).1 < T.n → t ≤ zrk T S (fun _ => true) (zwk T S t).1) ∧ (zwk T S t).2.2.length ≤ zrk T S (zisw T) (zwk T S t).1 := by
  intro t
  induction t with
  | zero => exact ⟨Nat.zero_le _, fun _ => Nat.zero_le _, Nat.zero_le _⟩
  | succ t ih =>
    by_cases h : (zwk T S t).1 < T.n
    · rw [zwk_s h]
      refine ⟨zsp_le hT h, fun _ => ?_, ?_⟩
      · have a := ih.2.1 h
        have b := zrk_next hT (S := S) (P := fun _ => true) h rfl
        dsimp only
        omega
      · dsimp only
        by_cases e : T.sg (zwk T S t).1 = 0 ∨ T.sg (zwk T S t).1 = 10
        · have b := zrk_next hT (S := S) (P := zisw T) h (decide_eq_true e)
          have : (zws T (zwk T S t).1 (zwk T S t).2.1 (zwk T S t).2.2).length = (zwk T S t).2.2.length + 1 := by
            unfold zws
            rcases e with e | e
            · rw [if_pos e, List.length_append]; rfl
            · rw [if_neg (by omega), if_pos e, List.length_append]; rfl
          rw [this]
          have := ih.2.2
          omega
        · have b := zrk_mono hT (S := S) (zisw T) h
          have : zws T (zwk T S t).1 (zwk T S t).2.1 (zwk T S t).2.2 = (zwk T S t).2.2 := by
            unfold zws; rw [if_neg (fun x => e (Or.inl x)), if_neg (fun x => e (Or.inr x))]
          rw [this]
          have := ih.2.2
          omega
    · rw [zwk_end h]
      exact ⟨ih.1, fun x => absurd x h, ih.2.2⟩
/-- n steps are enough -/
theorem zwk_n {T : zSh} (hT : zShW T) (S : Nat) : (zwk T S T.n).1 = T.n := by
  have a := zwk_inv hT S T.n
  by_cases h : (zwk T S T.n).1 < T.n
  · have := a.2.1 h
    have := zrk_lt T S (fun _ => true) h
    omega
  · omega
theorem zwk_stay {T : zSh} (hT : zShW T) (S : Nat) : ∀ k, zwk T S (T.n + k) = zwk T S T.n := by
  intro k
  induction k with
  | zero => rfl
  | succ k ih =>
    rw [← Nat.add_assoc, zwk_end (by rw [ih, zwk_n hT]; omega), ih]
/-- the words of the set S -/
def ztx (T : zSh) (S : Nat) : List Nat := (zwk T S T.n).2.2
theorem zwk_stop {T : zSh} (hT : zShW T) {S t : Nat} (h : ¬ (zwk T S t).1 < T.n) : zwk T S t = zwk T S T.n := by
  have key : ∀ k, zwk T S (t + k) = zwk T S t := by
    intro k
    induction k with
    | zero => rfl
    | succ k ih => rw [← Nat.add_assoc, zwk_end (by rw [ih]; exact h), ih]
  have a := key T.n
  rw [Nat.add_comm, zwk_stay hT] at a
  exact a.symm
/-- at most 40 words: what the sheet's rule says -/
def zSh40 (T : zSh) : Prop := zcn (zisw T) T.n ≤ 40 ∧ ∀ p, p < T.n → (T.sg p = 0 ∨ T.sg p = 8 ∨ T.sg p = 9) → T.wd p < 100
theorem zwk_len {T : zSh} (hT : zShW T) (h4 : zSh40 T) (S t : Nat) : (zwk T S t).2.2.length ≤ 40 :=
  Nat.le_trans (zwk_inv hT S t).2.2 (Nat.le_trans (zrk_le _ _ _ _) h4.1)
theorem zwk_wd {T : zSh} (h4 : zSh40 T) (S : Nat) : ∀ t, (zwk T S t).2.1 < 100 ∧ ∀ x, x ∈ (zwk T S t).2.2 → x < 100 := by
  intro t
  induction t with
  | zero => exact ⟨show (0 : Nat) < 100 from by decide, fun x hx => by cases hx⟩
  | succ t ih =>
    by_cases h : (zwk T S t).1 < T.n
    · rw [zwk_s h]
      dsimp only
      constructor
      · unfold zov
        split
        · rename_i e
          exact h4.2 _ h (by omega)
        · exact ih.1
      · unfold zws
        intro x hx
        split at hx
        · rename_i e
          rcases List.mem_append.mp hx with q | q
          · exact ih.2 x q
          · rw [List.mem_singleton.mp q]; exact h4.2 _ h (Or.inl e)
        · split at hx
          · rcases List.mem_append.mp hx with q | q
            · exact ih.2 x q
            · rw [List.mem_singleton.mp q]; exact ih.1
          · exact ih.2 x hx
    · rw [zwk_end h]; exact ih
