/-! the class: signs -/
theorem mX5_tok_sgn (N : Nat) {h : List Nat} {s : zq_S} (hs : zHX h s) {q : Nat} (hq : q < h.length) (hf : zfig h q = false) (hb : zgt h q ≠ 32) (e : Int32) : mX5_takeToken N (nI q) e s = zq_b2 (mX5_takeSign N (nI q) s) (fun r5 s6 => some (r5, s6)) := by
  have hl := hs.2.2.1
  have h2 := zgt_256 hs.2.2.2 q
  unfold mX5_takeToken jX5_takeToken_j34
  rw [mX5_byteAt_eq N hs (by omega), zb2_some]
  dsimp only
  rw [if_neg (by rw [show (32 : Int32) = nI 32 from rfl, nI_eq (by omega) (by decide)]; exact hb), mX5_isFigure_eq N hs (by omega), hf, zb2_some]
  dsimp only
  rw [zib_f, if_pos rfl]
/-- a sign where an item may come -/
theorem mX5_sgn_item (N : Nat) {h : List Nat} {s : zq_S} (hs : zHX h s) {q : Nat} (hq : q < h.length) (hst : zgf s 26 4 = 0) : mX5_takeSign N (nI q) s = zq_b2 (mX5_takeItemSign N (nI (zgt h q)) (nI q) s) (fun r17 s18 => jX5_takeSign_j148 N (nI (zgt h q)) r17 s18) := by
  have hl := hs.2.2.1
  unfold mX5_takeSign
  rw [mX5_byteAt_eq N hs (by omega), zb2_some]
  dsimp only
  rw [hst, if_pos rfl]
theorem mX5_told_mark (N : Nat) {s : zq_S} {k K v : Nat} (hst : zgf s 26 4 = nI k) (hk : 5 ≤ k ∧ k ≤ 8 ∧ k ≠ 7) (hK : zgf s 26 7 = nI K) (hK2 : K < 1024) (hv : v < 10) : mX5_isToldAlready N (nI v) s = some (zib (K.testBit v), s) := by
  unfold mX5_isToldAlready jX5_isToldAlready_j43
  rw [hst, if_neg (by rw [show (7 : Int32) = nI 7 from rfl, nI_eq (by omega) (by decide)]; omega), hK, zn_bit (by omega) (by omega)]
  cases K.testBit v with
  | false => rw [if_neg (show ¬ false = true by decide), if_pos rfl]; rfl
  | true => rw [if_pos rfl, if_neg (show ¬ (1 : Int32) = 0 by decide)]; rfl
theorem mX5_told_star (N : Nat) {s : zq_S} {v : Nat} {T : Bool} {x : Nat} (hst : zgf s 26 4 = 7) (hv : v < 10) (h29 : zA s 29 v = if T then nI x else -1) (hx : x < 1000) : mX5_isToldAlready N (nI v) s = some (zib T, s) := by
  unfold mX5_isToldAlready jX5_isToldAlready_j43
  rw [hst, if_pos rfl, zck_nI hv (by decide), zga_nI _ _ (by omega), h29]
  cases T with
  | false => rw [if_neg (show ¬ false = true by decide), if_pos rfl]; rfl
  | true =>
    rw [if_pos rfl, if_neg]
    · rfl
    · intro y
      have := nI_nneg (show x < 2 ^ 31 by omega)
      rw [y] at this
      exact this (by decide)
