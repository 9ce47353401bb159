/-! reading a text -/
/-- word i of a text, its size at -1, else -1 -/
def zwr (ws : List Nat) (p : Int32) : Int32 := if p = -1 then nI ws.length else if p < 0 then -1 else if p < nI ws.length then nI (zgt ws p.toNatClampNeg) else -1
theorem zWt_F (T : zSh) (S : Nat) (s : zq_S) (k j : Nat) : zgf (zWt T S s) k j = zgf s k j := by
  unfold zWt; split <;> rfl
theorem mX11_wordOrSize_eq (N : Nat) (hN : 5000 ≤ N) {s : zq_S} {T : zSh} (hT : zShW T) (h4 : zSh40 T) (hX : zXS (zgb s 4) s T) (hF : zgf s 39 0 = nI 1024) (hc : zTc s T) {S : Nat} (hS : S < 1024) (p : Int32) :
    mX11_wordOrSize N (nI S) p s = some (zwr (ztx T S) p, zWt T S s) := by
  have hl := ztx_len hT h4 S
  have hF2 : zgf (zWt T S s) (zf false) 0 = nI (zfS false) := by rw [zWt_F]; exact hF
  have hr := zWt_row hT h4 hc hS
  unfold mX11_wordOrSize
  rw [mX9_with_eq N hN hT h4 hX hF hS]
  unfold zq_b2
  dsimp only
  unfold zwr
  by_cases q : p = -1
  · rw [if_pos q, if_pos q, mX8_sizeOf_row N hF2 hS hr]
    rfl
  · rw [if_neg q, if_neg q]
    by_cases q1 : p < 0
    · rw [if_pos q1]
      unfold mX8_wordAt
      rw [mX8_isMade_row N hF2 hS hr]
      unfold zq_b2
      dsimp only
      rw [if_neg (by decide), if_pos q1]
      rfl
    · rw [if_neg q1]
      obtain ⟨k, hk, rfl⟩ := nI_of q1
      by_cases q2 : nI k < nI (ztx T S).length
      · rw [if_pos q2, nI_clamp hk, mX8_wordAt_row N hF2 hS hr (by rw [nI_ltI hk (by omega)] at q2; exact q2)]
        rfl
      · rw [if_neg q2]
        unfold mX8_wordAt
        rw [mX8_isMade_row N hF2 hS hr]
        unfold zq_b2
        dsimp only
        rw [if_neg (by decide), if_neg q1, zck_nI (n := zfS false) hS (by decide), zga_nI _ _ (by omega), hr.1, if_neg q2]
        rfl
/-- the reference's texts are right for the sets below m -/
def zMx (s : zq_S) (T : zSh) (m : Nat) : Prop := ∀ S, S < m → zA s 84 S = nI (ztx T S).length ∧ (∀ i, i < (ztx T S).length → zA s 85 (40 * S + i) = nI (zgt (ztx T S) i)) ∧ zL s 86 S = zhs (ztx T S)
theorem zMx_s {s : zq_S} {T : zSh} (hT : zShW T) (h4 : zSh40 T) {m : Nat} (h : zMx s T m) : zMx (zMt m (ztx T m) s) T (m + 1) := by
  intro S hS
  have hl := ztx_len hT h4 m
  have hl2 := ztx_len hT h4 S
  rw [zMt_84, zMt_85, zMt_86]
  unfold upd vp_updL zwa
  by_cases e : S = m
  · subst e
    rw [if_pos rfl, if_pos rfl]
    refine ⟨rfl, fun i hi => ?_, rfl⟩
    rw [if_pos (by omega), Nat.add_sub_cancel_left]
  · rw [if_neg e, if_neg e]
    obtain ⟨a, b, c⟩ := h S (by omega)
    refine ⟨a, fun i hi => ?_, c⟩
    rw [if_neg (by omega)]
    exact b i hi
