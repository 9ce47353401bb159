/-! the class: the sign of an open bracket -/
theorem X_openOk (N : Nat) {b : Bool} {s : zq_S} {n d : Nat} (hb : zgb s 2 = b) (hd : zgf s 26 6 = nI d) (h8 : d < 8) (hn : zgf s (zs b) 6 = nI n) (h1 : n < 100) (x : Int32) :
    zw (mX5_openBracket N x s) (fun v => v.1 = 0 ∧ zfr [(zs b, 6), (26, 4), (26, 6)] [28, zs b + 2, zs b + 3, zs b + 4] [] s v.2 ∧ zgf v.2 (zs b) 6 = nI (n + 1) ∧ zgf v.2 26 6 = nI (d + 1) ∧ zgf v.2 26 4 = 5 ∧
      (∀ i, zA v.2 28 i = if i = d then nI n else zA s 28 i) ∧ (∀ i, zA v.2 (zs b + 2) i = if i = n then x else zA s (zs b + 2) i) ∧ (∀ i, i ≠ n → zA v.2 (zs b + 3) i = zA s (zs b + 3) i) ∧ (∀ i, i ≠ n → zA v.2 (zs b + 4) i = zA s (zs b + 4) i)) := by
  have b26 : zs b = 2 ∨ zs b = 14 := by cases b <;> simp [zs]
  unfold mX5_openBracket mX5_go
  dsimp only [zq_let]
  rw [hd, if_pos (show nI d < (8 : Int32) by rw [show (8 : Int32) = nI 8 from rfl, nI_ltI (by omega) (by decide)]; exact h8), zck_nI h8 (by decide), hb, hn]
  have f1 : zfr [(zs b, 6), (26, 4), (26, 6)] [28, zs b + 2, zs b + 3, zs b + 4] [] s (zpa s 28 (nI d) (nI n)) := by rw [zpa_eq]; exact zfr_sA _ _ (by simp)
  have a1 : ∀ i, zA (zpa s 28 (nI d) (nI n)) 28 i = if i = d then nI n else zA s 28 i := by
    intro i
    rw [zpa_eq, zA_sA, if_pos rfl, nI_clamp (by omega)]
    rfl
  have a2 : ∀ k, k ≠ 28 → zA (zpa s 28 (nI d) (nI n)) k = zA s k := fun k hk => by rw [zpa_eq, zA_ne _ hk]
  have d1 : zgf (zpa s 28 (nI d) (nI n)) 26 6 = nI d := hd
  have n1 : zgf (zpa s 28 (nI d) (nI n)) (zs b) 6 = nI n := hn
  generalize zpa s 28 (nI d) (nI n) = t at f1 a1 a2 d1 n1 ⊢
  rw [d1, nI_1, show zgb (zpf t 26 6 (nI (d + 1))) 2 = b by rw [zgb_pf, f1.b 2]; exact hb]
  refine zw_call (mX7_addItem_w N (n := n) (by rw [zgf_pf, if_neg (by omega)]; exact n1) h1 _) ?_
  intro r u ⟨fu, u6, u2, u3, u4⟩
  dsimp only at fu u6 u2 u3 u4 ⊢
  rw [zb2_some]
  refine zw_some.2 ⟨rfl, ((f1.tr (zfr_pf _ _ _ (by simp))).tr (fu.mo (by simp) (by simp) (by simp))).tr (zfr_pf _ _ _ (by simp)), ?_, ?_, rfl, fun i => ?_, fun i => ?_, fun i hi => ?_, fun i hi => ?_⟩
  · dsimp only
    rw [zgf_pf, if_neg (by omega)]; exact u6
  · dsimp only
    rw [zgf_pf, if_neg (by decide), fu.f 26 6 (by simp; omega)]; rfl
  · dsimp only
    rw [zA_pf, fu.a 28 (by simp; omega), zA_pf, a1]
  · dsimp only
    rw [zA_pf, u2, zA_pf, a2 _ (by omega)]
  · dsimp only
    rw [zA_pf, u3, if_neg hi, zA_pf, a2 _ (by omega)]
  · dsimp only
    rw [zA_pf, u4, if_neg hi, zA_pf, a2 _ (by omega)]
