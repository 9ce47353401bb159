/-! the class: a close -/
theorem pzcl_code {k : Nat} (hk : 1 ≤ k ∧ k ≤ 3) {g : Nat} (hg : 1 ≤ g ∧ g ≤ 3) : (zcode (k + 3) = (if zcode g = (123 : Int32) then (125 : Int32) else (if zcode g = (91 : Int32) then (93 : Int32) else (62 : Int32)))) ↔ g = k := by
  rcases (show k = 1 ∨ k = 2 ∨ k = 3 by omega) with a | a | a <;> rcases (show g = 1 ∨ g = 2 ∨ g = 3 by omega) with c | c | c <;> subst a <;> subst c <;> decide
/-- a close that fits none -/
theorem X_closeBad (N : Nat) {h : List Nat} {b : Bool} {R : List zIt} {s : zq_S} {q k : Nat} (hV : pzV R) (hs : pzCX h b R 0 s) (hk : 1 ≤ k ∧ k ≤ 3) (hc : (pzC R q k).1.1 ≠ 0) : mX5_closeBracket N (zcode (k + 3)) s = some (1, s) := by
  have ho := pzCX_o hV hs
  obtain ⟨c1, c2, c3, c4, c5, c6, c7, c8, c9, c10, c11, c12⟩ := hs
  have hlen := pz_len hV
  have hdep := pz_dep hV
  unfold pzC at hc
  unfold mX5_closeBracket jX5_closeBracket_j51
  dsimp only [zq_let]
  cases e : pzstk R with
  | nil =>
    rw [e] at c4
    have e0 : mX5_innermost N s = some (0, s) := by
      unfold mX5_innermost jX5_innermost_j22
      rw [c4]
      rfl
    rw [e0, zb2_some]
    dsimp only
    rw [c4, if_pos (show nI ([] : List Nat).length = (0 : Int32) from rfl)]
  | cons q0 l =>
    rw [e] at c4 c7 hdep hlen
    rw [List.length_cons] at c4 hdep hlen
    obtain ⟨⟨o1, o2, o3, o4, o5, o6⟩, _⟩ := ho q0 (by rw [e]; exact List.mem_cons_self)
    have hm := pzstk_mem hV (show q0 ∈ pzstk R by rw [e]; exact List.mem_cons_self)
    rw [mX5_innermost_eq N c7 hdep c4, zb2_some]
    dsimp only
    rw [c4, if_neg (by rw [show (0 : Int32) = nI 0 from rfl, nI_eq (by omega) (by decide)]; omega), c2, c8, nI_1]
    rw [e] at hc
    by_cases z : q0 + 1 = R.length
    · rw [if_pos (show nI R.length = nI (q0 + 1) by rw [z]), if_neg (show ¬ (1 : Int32) = 0 by decide)]
    · rw [if_neg (show ¬ nI R.length = nI (q0 + 1) by rw [nI_eq (by omega) (by omega)]; omega), if_pos rfl, zck_nI o1 (by decide), zga_nI _ _ (by omega), o2]
      unfold mX5_closerOf
      dsimp only [zq_let]
      rw [zb2_some]
      dsimp only
      rw [if_neg]
      intro y
      refine hc ?_
      have hg := (pzcl_code hk ⟨o5, o6⟩).1 y
      rw [if_pos (show q0 :: l ≠ [] ∧ (q0 :: l).headD 0 + 1 ≠ R.length ∧ (pzat R ((q0 :: l).headD 0)).sg = k from ⟨List.cons_ne_nil _ _, z, hg⟩)]
/-- a close that fits: the rows -/
theorem X_closeOk (N : Nat) {b : Bool} {s : zq_S} {q0 n mk : Nat} {l : List Nat} {g k : Nat} (hb : zgb s 2 = b) (hk : 1 ≤ k ∧ k ≤ 3) (hg : g = k) (h7 : pzXs s (q0 :: l)) (h8 : l.length + 1 ≤ 8) (hd : zgf s 26 6 = nI (l.length + 1)) (hn : zgf s (zs b) 6 = nI n) (h1 : n < 100) (hq : q0 + 1 < n) (o2 : zA s (zs b + 2) q0 = zcode g) (o3 : zA s (zs b + 3) q0 = nI mk) :
    zw (mX5_closeBracket N (zcode (k + 3)) s) (fun v => v.1 = 0 ∧ zfr [(zs b, 6), (26, 6)] [zs b + 2, zs b + 3, zs b + 4] [] s v.2 ∧ zgf v.2 (zs b) 6 = nI (n + 1) ∧ zgf v.2 26 6 = nI l.length ∧
      (∀ i, zA v.2 (zs b + 2) i = if i = n then zcode (k + 3) else zA s (zs b + 2) i) ∧ (∀ i, zA v.2 (zs b + 3) i = if i = n then nI mk else zA s (zs b + 3) i) ∧ (∀ i, i ≠ n → zA v.2 (zs b + 4) i = if i = q0 then nI n else zA s (zs b + 4) i)) := by
  have b26 : zs b ≠ 26 := by cases b <;> decide
  unfold mX5_closeBracket
  dsimp only [zq_let]
  rw [mX5_innermost_eq N h7 h8 hd, zb2_some]
  dsimp only
  rw [hd, if_neg (show ¬ nI (l.length + 1) = (0 : Int32) by rw [show (0 : Int32) = nI 0 from rfl, nI_eq (by omega) (by decide)]; omega), hb, hn, nI_1, if_neg (show ¬ nI n = nI (q0 + 1) by rw [nI_eq (by omega) (by omega)]; omega), if_pos rfl, zck_nI (show q0 < 100 by omega) (by decide), zga_nI _ _ (by omega), o2]
  unfold mX5_closerOf
  dsimp only [zq_let]
  rw [zb2_some]
  dsimp only
  rw [if_pos ((pzcl_code hk (g := g) (by omega)).2 hg), zck_nI (show q0 < 100 by omega) (by decide), hb, hn]
  have f6 : zfr [(zs b, 6), (26, 6)] [zs b + 2, zs b + 3, zs b + 4] [] s (zpa s (zs b + 4) (nI q0) (nI n)) := by rw [zpa_eq]; exact zfr_sA _ _ (by simp)
  have a6 : ∀ i, zA (zpa s (zs b + 4) (nI q0) (nI n)) (zs b + 4) i = if i = q0 then nI n else zA s (zs b + 4) i := by
    intro i
    rw [zpa_eq, zA_sA, if_pos rfl, nI_clamp (by omega)]
    rfl
  have a2 : zA (zpa s (zs b + 4) (nI q0) (nI n)) (zs b + 2) = zA s (zs b + 2) := by rw [zpa_eq, zA_ne _ (by omega)]
  have a3 : zA (zpa s (zs b + 4) (nI q0) (nI n)) (zs b + 3) = zA s (zs b + 3) := by rw [zpa_eq, zA_ne _ (by omega)]
  have n6 : zgf (zpa s (zs b + 4) (nI q0) (nI n)) (zs b) 6 = nI n := hn
  have d6 : zgf (zpa s (zs b + 4) (nI q0) (nI n)) 26 6 = nI (l.length + 1) := hd
  generalize zpa s (zs b + 4) (nI q0) (nI n) = t at f6 a6 a2 a3 n6 d6 ⊢
  rw [f6.b 2, hb]
  refine zw_call (mX7_addItem_w N n6 h1 _) ?_
  intro r u ⟨fu, u6, u2, u3, u4⟩
  dsimp only at fu u6 u2 u3 u4 ⊢
  rw [fu.b 2, f6.b 2, hb, zck_nI (show q0 < 100 by omega) (by decide), zck_nI (show q0 < 100 by omega) (by decide), zga_nI _ _ (by omega), zga_nI _ _ (by omega), u4, if_neg (by omega), a6, if_pos rfl, zck_nI h1 (by decide), u3, if_neg (by omega), a3, o3]
  have f9 : zfr [(zs b, 6), (26, 6)] [zs b + 2, zs b + 3, zs b + 4] [] u (zpa u (zs b + 3) (nI n) (nI mk)) := by rw [zpa_eq]; exact zfr_sA _ _ (by simp)
  have d9 : zgf (zpa u (zs b + 3) (nI n) (nI mk)) 26 6 = nI (l.length + 1) := by
    show zgf u 26 6 = _
    rw [fu.f 26 6 (by simp; omega)]; exact d6
  rw [d9, zn_m1]
  refine zw_some.2 ⟨rfl, ((f6.tr (fu.mo (by simp) (by simp) (by simp))).tr f9).tr (zfr_pf _ _ _ (by simp)), ?_, rfl, fun i => ?_, fun i => ?_, fun i hi => ?_⟩
  · dsimp only
    rw [zgf_pf, if_neg (by omega)]; exact u6
  · dsimp only
    rw [zA_pf, zpa_eq, zA_ne _ (by omega), u2, a2]
  · dsimp only
    rw [zA_pf, zpa_eq, zA_sA, if_pos rfl, nI_clamp (by omega)]
    unfold upd
    by_cases z : i = n
    · rw [if_pos z, if_pos z]
    · rw [if_neg z, if_neg z, u3, if_neg z, a3]
  · dsimp only
    rw [zA_pf, zpa_eq, zA_ne _ (by omega), u4, if_neg hi, a6]
