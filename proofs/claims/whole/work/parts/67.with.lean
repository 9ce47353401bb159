/-! texts made when they are asked for -/
/-- every text that is made is right -/
def zTc (s : zq_S) (T : zSh) : Prop := ∀ S, S < 1024 → zA s 41 S = -1 ∨ zRow false s S (ztx T S).length (zgt (ztx T S))
/-- the state behind asking for the text of S -/
def zWt (T : zSh) (S : Nat) (s : zq_S) : zq_S := if zA s 41 S = -1 then zTr false S (ztx T S) s else s
theorem ztx_len {T : zSh} (hT : zShW T) (h4 : zSh40 T) (S : Nat) : (ztx T S).length ≤ 40 := zwk_len hT h4 S T.n
theorem ztx_wd {T : zSh} (h4 : zSh40 T) (S : Nat) : ∀ x, x ∈ ztx T S → x < 100 := (zwk_wd h4 S T.n).2
theorem mX9_with_eq (N : Nat) (hN : 5000 ≤ N) {s : zq_S} {T : zSh} (hT : zShW T) (h4 : zSh40 T) (hX : zXS (zgb s 4) s T) (hF : zgf s 39 0 = nI 1024) {S : Nat} (hS : S < 1024) :
    mX9_with N (nI S) s = some ((), zWt T S s) := by
  unfold mX9_with zWt
  rw [mX8_isMade_in N (b := false) hF hS]
  unfold zq_b2
  dsimp only
  by_cases q : zA s 41 S = -1
  · rw [if_pos (show zA s (zf false + 2) S = -1 from q), if_pos rfl, if_pos q, mX7_spell_eq N hN hT h4 hX (c := false) hF hS]
    rfl
  · rw [if_neg (show ¬ zA s (zf false + 2) S = -1 from q), if_neg (by decide), if_neg q]
    rfl
theorem zWt_row {s : zq_S} {T : zSh} (hT : zShW T) (h4 : zSh40 T) (hc : zTc s T) {S : Nat} (hS : S < 1024) :
    zRow false (zWt T S s) S (ztx T S).length (zgt (ztx T S)) := by
  unfold zWt
  by_cases q : zA s 41 S = -1
  · rw [if_pos q]; exact zTr_row (ztx_len hT h4 S) (ztx_wd h4 S)
  · rw [if_neg q]; exact (hc S hS).resolve_left q
theorem zWt_c {s : zq_S} {T : zSh} (hT : zShW T) (h4 : zSh40 T) (hc : zTc s T) {S : Nat} (hS : S < 1024) : zTc (zWt T S s) T := by
  intro R hR
  by_cases e : R = S
  · subst e; exact Or.inr (zWt_row hT h4 hc hS)
  · unfold zWt
    by_cases q : zA s 41 S = -1
    · rw [if_pos q]
      rcases hc R hR with h | h
      · left
        unfold zTr zrw
        rw [show (41 : Nat) = zf false + 2 from rfl, zA_self]
        unfold upd
        rw [if_neg e]
        exact h
      · exact Or.inr (zrw_other e h)
    · rw [if_neg q]; exact hc R hR
