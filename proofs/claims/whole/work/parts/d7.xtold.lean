/-! the class: the mark of a bracket, of a star, of a word written over -/
theorem X_brMark (N : Nat) (hN : 5000 ≤ N) {h : List Nat} {b : Bool} {R : List zIt} {l : List Nat} {x : zIt} {s : zq_S} (hV : pzV R) (hx : pzok R x) (x1 : 1 ≤ x.sg ∧ x.sg ≤ 3) (x0 : x.sd = 0) (hs : pzDX h b R (R.length :: pzstk R) l 5 (zcode x.sg) s) (h9 : zgf s 26 9 = nI x.ps) :
    zw (mX5_takeBracketMark N (nI x.mk) s) (fun w => pzFX b s w.2 ∧ pzCY h b (x :: R) l (if x.sg = 2 then 2 else 1) w.2) := by
  obtain ⟨c1, c2, c3, c4, c5, c6, c7, c8, c9, c10, c11, c12⟩ := hs
  have hb := zs_c b
  have hlen := pz_len hV
  have hmk := hx.1.2.1
  have fresh := (hx.2.2.1 x1).2.1
  have hdep := (hx.2.2.1 x1).1
  have ho := pzXo_of hV c10
  rw [List.length_cons] at c4
  unfold mX5_takeBracketMark
  rw [mX5_innermost_eq N c6 (by omega) c4, zb2_some]
  dsimp only [zq_let]
  rw [zck_nI (show R.length < 100 by omega) (by decide), zck_nI (show R.length < 100 by omega) (by decide), zck_nI hmk (by decide), c2, zga_nI _ _ (by omega), c12, zpa_eq s, zgb_sA, c2, zpa_eq (zsA s _ _), nI_clamp (by omega), nI_clamp (by omega)]
  generalize ht : zsA (zsA s (zs b + 3) (upd (zA s (zs b + 3)) R.length (nI x.mk))) (zs b + 9) (upd (zA (zsA s (zs b + 3) (upd (zA s (zs b + 3)) R.length (nI x.mk))) (zs b + 9)) x.mk (nI R.length)) = t
  have ff : ∀ k j, zgf t k j = zgf s k j := fun k j => by rw [← ht]; rfl
  have fb : zgb t 2 = b := by rw [← ht]; exact c2
  have fA : ∀ k, k ≠ zs b + 3 → k ≠ zs b + 9 → zA t k = zA s k := fun k a1 a2 => by rw [← ht, zA_ne _ a2, zA_ne _ a1]
  have f3 : ∀ i, zA t (zs b + 3) i = if i = R.length then nI x.mk else zA s (zs b + 3) i := fun i => by
    rw [← ht, zA_ne _ (by omega), zA_sA, if_pos rfl]; rfl
  have f9 : ∀ i, zA t (zs b + 9) i = if i = x.mk then nI R.length else zA s (zs b + 9) i := fun i => by
    rw [← ht, zA_sA, if_pos rfl, zA_ne _ (by omega)]; rfl
  have F1 : pzFX b s t := by rw [← ht]; exact (zfr_sA _ _ (by simp)).tr (zfr_sA _ _ (by simp))
  clear ht
  rw [ff, c4, zn_m1, fb, mX5_putInAround_eq N hN (b := b) (R := R) fb (pzXs_eq (s := s) _ (fun d _ => by rw [fA 28 (by omega) (by omega)]) c6.2) (by omega) (fun q hq => ?_), zb2_some]
  · dsimp only
    refine zw_call (mX7_tell_w N hmk _ _ _) ?_
    intro r u ⟨fu, u5, u8, u6⟩
    dsimp only at fu u5 u8 u6 ⊢
    have uA : ∀ k, k ≠ zs b + 5 → k ≠ zs b + 6 → k ≠ zs b + 8 → zA u k = zA t k := fun k a1 a2 a3 => fu.a k (by simp <;> omega)
    have F2 : pzFX b s u := F1.tr (fu.mo (by simp) (by simp) (by simp))
    have fin : ∀ w : zq_S, zfr [] [30] [] u w → (∀ j, zA w 30 j = if x.sg = 3 ∧ j = x.mk then nI x.ps else zA s 30 j) → zw (jX5_takeBracketMark_j100 N (nI x.mk) (zcode x.sg) w) (fun w => pzFX b s w.2 ∧ pzCY h b (x :: R) l (if x.sg = 2 then 2 else 1) w.2) := by
      intro w fw w30
      have wA : ∀ k, k ≠ 30 → zA w k = zA u k := fun k a1 => fw.a k (by simp <;> omega)
      have wf : ∀ k j, zgf w k j = zgf s k j := fun k j => by rw [fw.f k j List.not_mem_nil, fu.f k j List.not_mem_nil, ff]
      have F3 : pzFX b s (zpf (zpf w 26 7 (nI (pzmk R) ||| nI (2 ^ x.mk))) 26 4 (if zcode x.sg = (91 : Int32) then 2 else 1)) := ((F2.tr (fw.mo (by simp) (by simp) (by simp))).tr (zfr_pf _ _ _ (by simp))).tr (zfr_pf _ _ _ (by simp))
      unfold jX5_takeBracketMark_j100
      dsimp only [zq_let]
      rw [wf 26 7, c5, zn_shl (by omega)]
      refine zw_some.2 ⟨F3, ?_⟩
      dsimp only
      have hst : zgf (zpf (zpf w 26 7 (nI (pzmk R) ||| nI (2 ^ x.mk))) 26 4 (if zcode x.sg = (91 : Int32) then 2 else 1)) 26 4 = (if x.sg = 2 then 2 else 1) := by
        rw [zgf_pf, if_pos ⟨rfl, rfl⟩]
        by_cases z : x.sg = 2
        · rw [if_pos z, if_pos ((zcode_1 _ x1.1 x1.2).2.1.2 z)]
        · rw [if_neg z, if_neg (fun y => z ((zcode_1 _ x1.1 x1.2).2.1.1 y))]
      have h7 : zgf (zpf (zpf w 26 7 (nI (pzmk R) ||| nI (2 ^ x.mk))) 26 4 (if zcode x.sg = (91 : Int32) then 2 else 1)) 26 7 = nI (pzmk (x :: R)) := by
        rw [zgf_pf, if_neg (by omega), zgf_pf, if_pos ⟨rfl, rfl⟩, zn_or, pzmk, if_pos (Or.inl x1), if_neg (by omega), Nat.or_zero]
      have gf : ∀ k j, (k, j) ≠ (26, 7) → (k, j) ≠ (26, 4) → zgf (zpf (zpf w 26 7 (nI (pzmk R) ||| nI (2 ^ x.mk))) 26 4 (if zcode x.sg = (91 : Int32) then 2 else 1)) k j = zgf s k j := fun k j a1 a2 => by
        rw [zgf_pf, if_neg (fun y => a2 (by rw [y.1, y.2])), zgf_pf, if_neg (fun y => a1 (by rw [y.1, y.2])), wf]
      have gA : ∀ k, zA (zpf (zpf w 26 7 (nI (pzmk R) ||| nI (2 ^ x.mk))) 26 4 (if zcode x.sg = (91 : Int32) then 2 else 1)) k = zA w k := fun k => rfl
      generalize zpf (zpf w 26 7 (nI (pzmk R) ||| nI (2 ^ x.mk))) 26 4 (if zcode x.sg = (91 : Int32) then 2 else 1) = y at F3 hst h7 gf gA ⊢
      refine ⟨zHX_fr c1 F3, by rw [F3.b 2]; exact c2, hst, ?_, h7, fun z => absurd (pzph_0 R (by omega)) z, ?_, ?_, ?_, ?_, fun k hk => ?_, fun m hm => ?_⟩
      · rw [gf 26 6 (by simp) (by simp), pzstk_o R x1]; exact c4
      · rw [pzstk_o R x1]
        exact pzXs_eq (s := s) _ (fun d _ => by rw [gA, wA 28 (by omega), uA 28 (by omega) (by omega) (by omega), fA 28 (by omega) (by omega)]) c6
      · rw [gf (zs b) 6 (by simp <;> omega) (by simp <;> omega)]; exact c7
      · rw [gf (zs b) 8 (by simp <;> omega) (by simp <;> omega), pzwn_n R (by omega)]; exact c8
      · exact pzPr_fr c9 (gf (zs b) 1 (by simp <;> omega) (by simp <;> omega)) (gf (zs b) 2 (by simp <;> omega) (by simp <;> omega)) (by rw [gA, wA _ (by omega), uA _ (by omega) (by omega) (by omega), fA _ (by omega) (by omega)])
      · rw [List.length_cons] at hk
        have g2 : zA y (zs b + 2) = zA s (zs b + 2) := by rw [gA, wA _ (by omega), uA _ (by omega) (by omega) (by omega), fA _ (by omega) (by omega)]
        have g3 : ∀ i, zA y (zs b + 3) i = if i = R.length then nI x.mk else zA s (zs b + 3) i := fun i => by rw [gA, wA _ (by omega), uA _ (by omega) (by omega) (by omega), f3]
        have g4 : zA y (zs b + 4) = zA s (zs b + 4) := by rw [gA, wA _ (by omega), uA _ (by omega) (by omega) (by omega), fA _ (by omega) (by omega)]
        by_cases z : k < R.length
        · exact pzXi_old (by omega) ⟨hV, hx⟩ z (c10 k z) (by rw [g2]) (by rw [g3, if_neg (by omega)]) (by rw [g4])
        · obtain rfl : k = R.length := by omega
          unfold pzXi
          rw [pzat_new, g2, c12, g3, if_pos rfl]
          exact ⟨rfl, fun _ => rfl, fun v => by omega, fun _ v => absurd (by rw [pzstk_o R x1]; exact List.mem_cons_self) v⟩
      · refine pzXm_open hx x1 x0 (c11 m hm) ?_ ?_ ?_ ?_ ?_ ?_ ?_ ?_ ?_
        · rw [gA, wA _ (by omega), u5, fA _ (by omega) (by omega)]
          by_cases z : m = x.mk
          · rw [if_pos z, if_pos z]
            rcases (show x.sg = 1 ∨ x.sg = 2 ∨ x.sg = 3 by omega) with v | v | v <;> rw [v] <;> rfl
          · rw [if_neg z, if_neg z]
        · rw [gA, wA _ (by omega), u6, fA _ (by omega) (by omega)]
          by_cases z : m = x.mk
          · rw [if_pos z, if_pos z, z]; rfl
          · rw [if_neg z, if_neg z]
        · rw [gA, wA _ (by omega), uA _ (by omega) (by omega) (by omega), fA _ (by omega) (by omega)]
        · rw [gA, wA _ (by omega), u8, fA _ (by omega) (by omega)]
        · rw [gA, wA _ (by omega), uA _ (by omega) (by omega) (by omega), f9]
        · rw [gA, wA _ (by omega), uA _ (by omega) (by omega) (by omega), fA _ (by omega) (by omega)]
        · rw [gA, wA _ (by omega), uA _ (by omega) (by omega) (by omega), fA _ (by omega) (by omega)]
        · rw [gA, wA _ (by omega), uA _ (by omega) (by omega) (by omega), fA _ (by omega) (by omega)]
        · rw [gA, w30]
    have u30 : zA u 30 = zA s 30 := by rw [uA 30 (by omega) (by omega) (by omega), fA 30 (by omega) (by omega)]
    have u9 : zgf u 26 9 = nI x.ps := by rw [fu.f 26 9 List.not_mem_nil, ff]; exact h9
    by_cases z : x.sg = 3
    · rw [if_pos ((zcode_1 _ x1.1 x1.2).2.2.2 z), zck_nI hmk (by decide), zpa_eq, u9, nI_clamp (by omega)]
      refine fin _ (zfr_sA _ _ (by simp)) (fun j => ?_)
      rw [zA_sA, if_pos rfl, u30]
      unfold upd
      by_cases v : j = x.mk
      · rw [if_pos v, if_pos ⟨z, v⟩]
      · rw [if_neg v, if_neg (fun w => v w.2)]
    · rw [if_neg (fun y => z ((zcode_1 _ x1.1 x1.2).2.2.1 y))]
      exact fin u zfr_rfl (fun j => by rw [u30, if_neg (fun w => z w.1)])
  · obtain ⟨o1, o2, o3, o4⟩ := ho q hq
    have := (pzstk_mem hV hq).1
    exact ⟨o1, by rw [fA _ (by omega) (by omega)]; exact o2, by rw [f3, if_neg (by omega)]; exact o3, o4⟩
