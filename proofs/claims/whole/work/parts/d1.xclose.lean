/-! the class: a close -/
theorem pzcl_code {k : Nat} (hk : 1 ≤ k ∧ k ≤ 3) {g : Nat} (hg : 1 ≤ g ∧ g ≤ 3) : (zcode (k + 3) = (if zcode g = (123 : Int32) then (125 : Int32) else (if zcode g = (91 : Int32) then (93 : Int32) else (62 : Int32)))) ↔ g = k := by
  rcases (show k = 1 ∨ k = 2 ∨ k = 3 by omega) with a | a | a <;> rcases (show g = 1 ∨ g = 2 ∨ g = 3 by omega) with c | c | c <;> subst a <;> subst c <;> decide
/-- a close that fits none -/
theorem X_closeBad (N : Nat) {h : List Nat} {b : Bool} {R : List zIt} {s : zq_S} {q k : Nat} (hV : pzV R) (hs : pzCX h b R 0 s) (hk : 1 ≤ k ∧ k ≤ 3) (hc : (pzC R q k).1.1 ≠ 0) : mX5_closeBracket N (zcode (k + 3)) s = some (1, s) := by
  have ho := pzCX_o hV hs
  obtain ⟨c1, c2, c3, c4, c5, c6, c7, c8, c9, c10, c11, c12⟩ := hs
  have hlen := pz_len hV
  have hdep := pz_dep hV
  unfold pzC at hc
  unfold mX5_closeBracket jX5_closeBracket_j51
  dsimp only [zq_let]
  cases e : pzstk R with
  | nil =>
    rw [e] at c4
    have e0 : mX5_innermost N s = some (0, s) := by
      unfold mX5_innermost jX5_innermost_j22
      rw [c4]
      rfl
    rw [e0, zb2_some]
    dsimp only
    rw [c4, if_pos (show nI ([] : List Nat).length = (0 : Int32) from rfl)]
  | cons q0 l =>
    rw [e] at c4 c7 hdep hlen
    rw [List.length_cons] at c4 hdep hlen
    obtain ⟨⟨o1, o2, o3, o4, o5, o6⟩, _⟩ := ho q0 (by rw [e]; exact List.mem_cons_self)
    have hm := pzstk_mem hV (show q0 ∈ pzstk R by rw [e]; exact List.mem_cons_self)
    rw [mX5_innermost_eq N c7 hdep c4, zb2_some]
    dsimp only
    rw [c4, if_neg (by rw [show (0 : Int32) = nI 0 from rfl, nI_eq (by omega) (by decide)]; omega), c2, c8, nI_1]
    rw [e] at hc
    by_cases z : q0 + 1 = R.length
    · rw [if_pos (show nI R.length = nI (q0 + 1) by rw [z]), if_neg (show ¬ (1 : Int32) = 0 by decide)]
    · rw [if_neg (show ¬ nI R.length = nI (q0 + 1) by rw [nI_eq (by omega) (by omega)]; omega), if_pos rfl, zck_nI o1 (by decide), zga_nI _ _ (by omega), o2]
      unfold mX5_closerOf
      dsimp only [zq_let]
      rw [zb2_some]
      dsimp only
      rw [if_neg]
      intro y
      refine hc ?_
      have hg := (pzcl_code hk ⟨o5, o6⟩).1 y
      rw [if_pos (show q0 :: l ≠ [] ∧ (q0 :: l).headD 0 + 1 ≠ R.length ∧ (pzat R ((q0 :: l).headD 0)).sg = k from ⟨List.cons_ne_nil _ _, z, hg⟩)]
