/-! the class: a mark is told -/
theorem mX7_tell_w (N : Nat) {b : Bool} {s : zq_S} {m : Nat} (hm : m < 10) (k d f : Int32) : zw (mX7_tell N b (nI m) k d f s) (fun v => zfr [] [zs b + 5, zs b + 6, zs b + 8] [] s v.2 ∧
    (∀ j, zA v.2 (zs b + 5) j = if j = m then k else zA s (zs b + 5) j) ∧ (∀ j, zA v.2 (zs b + 8) j = if j = m then d else zA s (zs b + 8) j) ∧ (∀ j, zA v.2 (zs b + 6) j = if j = m then zA s (zs b + 6) m ||| f else zA s (zs b + 6) j)) := by
  unfold mX7_tell
  dsimp only [zq_let]
  rw [zck_nI hm (by decide), zck_nI hm (by decide), zck_nI hm (by decide), zck_nI hm (by decide)]
  simp (disch := omega) only [zpa_eq, nI_clamp, zga_nI]
  refine zw_some.2 ⟨((zfr_sA _ _ (by simp)).tr (zfr_sA _ _ (by simp))).tr (zfr_sA _ _ (by simp)), fun j => ?_, fun j => ?_, fun j => ?_⟩
  · simp [zA_sA, upd]
  · simp [zA_sA, upd]
  · simp [zA_sA, upd]
