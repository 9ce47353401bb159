/-! the class: a number -/
theorem pzval_lt {h : List Nat} (hh : ∀ x, x ∈ h → x < 256) (q e : Nat) : zval h q e < 5000 := by
  have := zgt_256 hh q
  have := zgt_256 hh (q + 1)
  unfold zval
  split <;> omega
/-- the value, up to the further tests -/
theorem mX5_num_eq (N : Nat) {h : List Nat} {s : zq_S} (hs : zHX h s) {q : Nat} (hf : zfig h q = true) (w3 w4 : Int32) : jX5_takeNumber_j66 N (nI q) (nI (znd h q)) w3 w4 s = if 2 < znd h q - q then some (2, s) else jX5_takeNumber_j110 N w3 w4 (nI (zval h q (znd h q))) s := by
  have hl := hs.2.2.1
  have hq := zfig_lt hf
  obtain ⟨e1, e2, e3, _⟩ := pznd h (Nat.le_of_lt hq)
  have hle : q + 1 ≤ znd h q := by
    have := (pznd h (show q + 1 ≤ h.length by omega)).1
    rw [znd_fig hf]; exact this
  have f1 := of_decide_eq_true hf
  unfold jX5_takeNumber_j66
  rw [pk_sub e1]
  by_cases z : 2 < znd h q - q
  · rw [if_neg (by rw [show (2 : Int32) = nI 2 from rfl, nI_leI (by omega) (by decide)]; omega), if_pos z]
  · rw [if_pos (by rw [show (2 : Int32) = nI 2 from rfl, nI_leI (by omega) (by decide)]; omega), if_neg z, mX5_byteAt_eq N hs (by omega), zb2_some]
    dsimp only [zq_let]
    rw [show (48 : Int32) = nI 48 from rfl, pk_sub f1.1]
    unfold zval
    by_cases y : znd h q - q = 2
    · have f2 := of_decide_eq_true (e3 (q + 1) (by omega) (by omega))
      rw [if_pos (by rw [y]; rfl), if_pos y, nI_1, mX5_byteAt_eq N hs (by omega), zb2_some]
      dsimp only
      rw [show (10 : Int32) = nI 10 from rfl, nI_mul, nI_add, pk_sub (by omega)]
      have e : 10 * (zgt h q - 48) + zgt h (q + 1) - 48 = 10 * (zgt h q - 48) + (zgt h (q + 1) - 48) := by omega
      rw [e]
    · rw [if_neg (by rw [show (2 : Int32) = nI 2 from rfl, nI_eq (by omega) (by decide)]; exact y), if_neg y]
/-- a number where a mark may come -/
theorem mX5_numMark (N : Nat) {h : List Nat} {s : zq_S} (hs : zHX h s) {q k : Nat} (hf : zfig h q = true) (hst : zgf s 26 4 = nI k) (hk : 5 ≤ k ∧ k ≤ 8) {T : Bool} (ht : zval h q (znd h q) < 10 → mX5_isToldAlready N (nI (zval h q (znd h q))) s = some (zib T, s)) :
    mX5_takeNumber N (nI q) (nI (znd h q)) s = if 2 < znd h q - q ∨ 9 < zval h q (znd h q) then some (2, s) else if T = true then some (3, s) else
      zq_b2 (mX7_printNumber N (zgb s 2) (nI (zval h q (znd h q))) s) (fun _ s7 => zq_b2 (mX5_takeMark N (nI (zval h q (znd h q))) s7) (fun _ s11 => some ((0 : Int32), s11))) := by
  have hv := pzval_lt hs.2.2.2 q (znd h q)
  unfold mX5_takeNumber
  dsimp only [zq_let]
  have e1 : (if zgf s 26 4 < (5 : Int32) then (0 : Int32) else (if (8 : Int32) < zgf s 26 4 then (0 : Int32) else 1)) = 1 := by
    rw [hst, if_neg (by rw [show (5 : Int32) = nI 5 from rfl, nI_ltI (by omega) (by decide)]; omega), if_neg (by rw [show (8 : Int32) = nI 8 from rfl, nI_ltI (by decide) (by omega)]; omega)]
  have e2 : (if zgf s 26 4 = (0 : Int32) then (1 : Int32) else (if zgf s 26 4 = (9 : Int32) then (1 : Int32) else (if zgf s 26 4 = (10 : Int32) then (1 : Int32) else 0))) = 0 := by
    rw [hst, if_neg (by rw [show (0 : Int32) = nI 0 from rfl, nI_eq (by omega) (by decide)]; omega), if_neg (by rw [show (9 : Int32) = nI 9 from rfl, nI_eq (by omega) (by decide)]; omega), if_neg (by rw [show (10 : Int32) = nI 10 from rfl, nI_eq (by omega) (by decide)]; omega)]
  rw [e1, e2, if_neg (show ¬ (1 : Int32) = 0 by decide), mX5_num_eq N hs hf]
  by_cases z : 2 < znd h q - q
  · rw [if_pos z, if_pos (Or.inl z)]
  · rw [if_neg z]
    unfold jX5_takeNumber_j110
    rw [if_neg (show ¬ (1 : Int32) = 0 by decide)]
    by_cases y : 9 < zval h q (znd h q)
    · rw [if_neg (by rw [show (10 : Int32) = nI 10 from rfl, nI_ltI (by omega) (by decide)]; omega), if_pos (Or.inr y)]
    · rw [if_pos (by rw [show (10 : Int32) = nI 10 from rfl, nI_ltI (by omega) (by decide)]; omega), if_neg (show ¬ (2 < znd h q - q ∨ 9 < zval h q (znd h q)) by omega)]
      unfold jX5_takeNumber_j123
      rw [if_neg (show ¬ (1 : Int32) = 0 by decide), ht (by omega), zb2_some]
      dsimp only
      cases T with
      | true => rw [zib_t, if_neg (show ¬ (1 : Int32) = 0 by decide), if_pos rfl]
      | false =>
        rw [zib_f, if_pos rfl, if_neg (show ¬ false = true by decide)]
        unfold jX5_takeNumber_j138 jX5_takeNumber_j157 jX5_takeNumber_j185
        rw [if_pos rfl]
        refine congrArg (zq_b2 _) (funext fun _ => funext fun s7 => ?_)
        rw [if_neg (show ¬ (1 : Int32) = 0 by decide)]
/-- a number where a word may come -/
theorem mX5_numWord (N : Nat) {h : List Nat} {b : Bool} {s : zq_S} (hs : zHX h s) {q w : Nat} (hf : zfig h q = true) (hst : zgf s 26 4 = 0 ∨ zgf s 26 4 = 9 ∨ zgf s 26 4 = 10) (hb : zgb s 2 = b) (hw : zgf s (zs b) 8 = nI w) (hw2 : w ≤ 40) :
    mX5_takeNumber N (nI q) (nI (znd h q)) s = if 2 < znd h q - q then some (2, s) else if w = 40 then some (4, s) else
      zq_b2 (mX7_printNumber N b (nI (zval h q (znd h q))) s) (fun _ s7 => zq_b2 (mX5_takeWord N (nI (zval h q (znd h q))) s7) (fun _ s9 => some ((0 : Int32), s9))) := by
  unfold mX5_takeNumber
  dsimp only [zq_let]
  have e1 : (if zgf s 26 4 < (5 : Int32) then (0 : Int32) else (if (8 : Int32) < zgf s 26 4 then (0 : Int32) else 1)) = 0 := by
    rcases hst with y | y | y <;> rw [y] <;> decide
  have e2 : (if zgf s 26 4 = (0 : Int32) then (1 : Int32) else (if zgf s 26 4 = (9 : Int32) then (1 : Int32) else (if zgf s 26 4 = (10 : Int32) then (1 : Int32) else 0))) = 1 := by
    rcases hst with y | y | y <;> rw [y] <;> decide
  rw [e1, e2, if_pos rfl, if_neg (show ¬ (1 : Int32) = 0 by decide), mX5_num_eq N hs hf]
  by_cases z : 2 < znd h q - q
  · rw [if_pos z, if_pos z]
  · rw [if_neg z, if_neg z]
    unfold jX5_takeNumber_j110 jX5_takeNumber_j123 jX5_takeNumber_j138 jX5_takeNumber_j157 jX5_takeNumber_j185
    rw [if_pos rfl, if_pos rfl, if_neg (show ¬ (1 : Int32) = 0 by decide), hb, hw]
    by_cases y : w = 40
    · rw [if_neg (by rw [show (40 : Int32) = nI 40 from rfl, nI_ltI (by omega) (by decide)]; omega), if_pos y]
    · rw [if_pos (by rw [show (40 : Int32) = nI 40 from rfl, nI_ltI (by omega) (by decide)]; omega), if_neg y]
      refine congrArg (zq_b2 _) (funext fun _ => funext fun s7 => ?_)
      rw [if_pos rfl]
/-- a number where none may come -/
theorem mX5_numBad (N : Nat) {s : zq_S} {k : Nat} {a c : Int32} (hst : zgf s 26 4 = nI k) (hk : 1 ≤ k ∧ k ≤ 4) : mX5_takeNumber N a c s = some (1, s) := by
  unfold mX5_takeNumber
  dsimp only [zq_let]
  rcases (show k = 1 ∨ k = 2 ∨ k = 3 ∨ k = 4 by omega) with y | y | y | y <;> rw [hst, y] <;> rfl
