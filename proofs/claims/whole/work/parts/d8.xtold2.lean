/-! the class: further marks, words of a row -/
theorem X_stMark (N : Nat) (hN : 5000 ≤ N) {h : List Nat} {b : Bool} {R : List zIt} {l : List Nat} {x y : zIt} {d : Nat} {s : zq_S} (hV : pzV R) (hx : pzok R x) (hy : pzok R y) (x1 : x.sg = 2) (y1 : y.sg = 2) (x0 : x.sd = 0) (y0 : y.sd = d + 1) (xy : x.mk = y.mk) (hs : pzCY h b (x :: R) l 6 s) :
    zw (mX5_takeStandMark N (nI d) s) (fun w => pzFX b s w.2 ∧ pzCY h b (y :: R) l 1 w.2) := by
  obtain ⟨c1, c2, c3, c4, c5, c6, c7, c8, c9, c10, c11, c12⟩ := hs
  have hb := zs_c b
  have hlen := pz_len hV
  have hmk := hy.1.2.1
  have hd10 : d < 10 := by have := hy.1.2.2.2.1; omega
  have hdep := (hy.2.2.1 (by omega)).1
  have sx : pzstk (x :: R) = R.length :: pzstk R := pzstk_o R (by omega)
  have sy : pzstk (y :: R) = R.length :: pzstk R := pzstk_o R (by omega)
  rw [sx, List.length_cons] at c4
  rw [sx] at c7
  have r3 : zA s (zs b + 3) R.length = nI y.mk := by
    have := (c11 R.length (by rw [List.length_cons]; omega)).2.1
    rw [pzat_new] at this
    rw [← xy]
    exact this (by omega)
  unfold mX5_takeStandMark
  rw [mX5_innermost_eq N c7 (by omega) c4, zb2_some]
  dsimp only [zq_let]
  rw [zck_nI (show R.length < 100 by omega) (by decide), c2, zga_nI _ _ (by omega), r3, if_neg (nI_nneg (by omega)), zck_nI hmk (by decide), zpa_eq, nI_clamp (by omega)]
  generalize ht : zsA s (zs b + 11) (upd (zA s (zs b + 11)) y.mk (nI d)) = t
  have ff : ∀ k j, zgf t k j = zgf s k j := fun k j => by rw [← ht]; rfl
  have fb : zgb t 2 = b := by rw [← ht]; exact c2
  have fA : ∀ k, k ≠ zs b + 11 → zA t k = zA s k := fun k a1 => by rw [← ht, zA_ne _ a1]
  have f11 : ∀ i, zA t (zs b + 11) i = if i = y.mk then nI d else zA s (zs b + 11) i := fun i => by
    rw [← ht, zA_sA, if_pos rfl]; rfl
  have F1 : pzFX b s t := by rw [← ht]; exact zfr_sA _ _ (by simp)
  clear ht
  rw [ff, c4, zn_m1, fb, mX5_putInAround_eq N hN (b := b) (R := R) fb (pzXs_eq (s := s) _ (fun d _ => by rw [fA 28 (by omega)]) c7.2) (by omega) (fun q hq => ?_), zb2_some]
  · dsimp only
    rw [zn_shl (by omega), zn_or]
    refine zw_call (mX7_tell_w N hd10 _ _ _) ?_
    intro r u ⟨fu, u5, u8, u6⟩
    dsimp only at fu u5 u8 u6 ⊢
    have uA : ∀ k, k ≠ zs b + 5 → k ≠ zs b + 6 → k ≠ zs b + 8 → zA u k = zA t k := fun k a1 a2 a3 => fu.a k (by simp <;> omega)
    have uf : ∀ k j, zgf u k j = zgf s k j := fun k j => by rw [fu.f k j List.not_mem_nil, ff]
    have F2 : pzFX b s u := F1.tr (fu.mo (by simp) (by simp) (by simp))
    unfold jX5_takeStandMark_j56
    dsimp only [zq_let]
    rw [uf 26 7, c5, zn_shl (by omega), zn_or]
    have F3 : pzFX b s (zpf (zpf u 26 7 (nI (pzmk (x :: R) ||| 2 ^ d))) 26 4 1) := (F2.tr (zfr_pf _ _ _ (by simp))).tr (zfr_pf _ _ _ (by simp))
    refine zw_some.2 ⟨F3, ?_⟩
    dsimp only
    have hst : zgf (zpf (zpf u 26 7 (nI (pzmk (x :: R) ||| 2 ^ d))) 26 4 1) 26 4 = 1 := rfl
    have h7 : zgf (zpf (zpf u 26 7 (nI (pzmk (x :: R) ||| 2 ^ d))) 26 4 1) 26 7 = nI (pzmk (y :: R)) := by
      rw [zgf_pf, if_neg (by omega), zgf_pf, if_pos ⟨rfl, rfl⟩, pzmk, if_pos (Or.inl (by omega)), if_neg (by omega), Nat.or_zero, pzmk, if_pos (Or.inl (by omega)), if_pos ⟨y1, by omega⟩, xy, y0, Nat.add_sub_cancel]
    have gf : ∀ k j, (k, j) ≠ (26, 7) → (k, j) ≠ (26, 4) → zgf (zpf (zpf u 26 7 (nI (pzmk (x :: R) ||| 2 ^ d))) 26 4 1) k j = zgf s k j := fun k j a1 a2 => by
      rw [zgf_pf, if_neg (fun y => a2 (by rw [y.1, y.2])), zgf_pf, if_neg (fun y => a1 (by rw [y.1, y.2])), uf]
    have gA : ∀ k, zA (zpf (zpf u 26 7 (nI (pzmk (x :: R) ||| 2 ^ d))) 26 4 1) k = zA u k := fun k => rfl
    generalize zpf (zpf u 26 7 (nI (pzmk (x :: R) ||| 2 ^ d))) 26 4 1 = w at F3 hst h7 gf gA ⊢
    have gX : ∀ k, k ≠ zs b + 5 → k ≠ zs b + 6 → k ≠ zs b + 8 → k ≠ zs b + 11 → zA w k = zA s k := fun k a1 a2 a3 a4 => by rw [gA, uA k a1 a2 a3, fA k a4]
    refine ⟨zHX_fr c1 F3, by rw [F3.b 2]; exact c2, hst, ?_, h7, fun z => absurd (pzph_0 R (by omega)) z, ?_, ?_, ?_, ?_, fun k hk => ?_, fun m hm => ?_⟩
    · rw [gf 26 6 (by simp) (by simp), sy]; exact c4
    · rw [sy]
      exact pzXs_eq (s := s) _ (fun d _ => by rw [gX 28 (by omega) (by omega) (by omega) (by omega)]) c7
    · rw [gf (zs b) 6 (by simp <;> omega) (by simp <;> omega)]; exact c8
    · rw [gf (zs b) 8 (by simp <;> omega) (by simp <;> omega), pzwn_n R (by omega)]
      rw [pzwn_n R (by omega)] at c9
      exact c9
    · exact pzPr_fr c10 (gf (zs b) 1 (by simp <;> omega) (by simp <;> omega)) (gf (zs b) 2 (by simp <;> omega) (by simp <;> omega)) (gX _ (by omega) (by omega) (by omega) (by omega))
    · rw [List.length_cons] at hk
      have old := c11 k (by rw [List.length_cons]; exact hk)
      unfold pzXi at old ⊢
      have lk : pzlk (y :: R) k = pzlk (x :: R) k := by rw [pzlk_old (by omega) (by omega), pzlk_old (by omega) (by omega)]
      rw [gX _ (by omega) (by omega) (by omega) (by omega), gX _ (by omega) (by omega) (by omega) (by omega), gX _ (by omega) (by omega) (by omega) (by omega), lk, sy]
      rw [sx] at old
      by_cases z : k < R.length
      · rw [pzat_old y z]; rw [pzat_old x z] at old; exact old
      · obtain rfl : k = R.length := by omega
        rw [pzat_new] at old ⊢
        rw [x1, xy] at old
        rw [y1]
        exact ⟨old.1, old.2.1, fun v => by omega, fun _ v => absurd List.mem_cons_self v⟩
    · refine pzXm_stand hy x1 y1 x0 y0 xy (c12 m hm) ?_ ?_ ?_ ?_ ?_ ?_ ?_ ?_ ?_
      · rw [gA, u5, fA _ (by omega)]
      · rw [gA, u6, fA _ (by omega)]
        by_cases z : m = d
        · rw [if_pos z, if_pos z, z]; rfl
        · rw [if_neg z, if_neg z]
      · rw [gX _ (by omega) (by omega) (by omega) (by omega)]
      · rw [gA, u8, fA _ (by omega)]
      · rw [gX _ (by omega) (by omega) (by omega) (by omega)]
      · rw [gX _ (by omega) (by omega) (by omega) (by omega)]
      · rw [gA, uA _ (by omega) (by omega) (by omega), f11]
      · rw [gX 29 (by omega) (by omega) (by omega) (by omega)]
      · rw [gX 30 (by omega) (by omega) (by omega) (by omega)]
  · have hm := pzstk_mem hV hq
    have hok := pzV_at hV hm.1
    obtain ⟨i1, i2, _⟩ := c11 q (by rw [List.length_cons]; omega)
    rw [pzat_old x hm.1] at i1 i2
    exact ⟨by omega, by rw [fA _ (by omega)]; exact i1, by rw [fA _ (by omega)]; exact i2 (Or.inl (by omega)), hok.1.2.1, hm.2.1, hm.2.2⟩
theorem X_starMark (N : Nat) (hN : 5000 ≤ N) {h : List Nat} {b : Bool} {R : List zIt} {l : List Nat} {x : zIt} {s : zq_S} (hV : pzV R) (hx : pzok R x) (x1 : x.sg = 7) (hs : pzDX h b R (pzstk R) l 7 (zcode 7) s) (h9 : zgf s 26 9 = nI x.ps) :
    zw (mX5_takeStarMark N (nI x.mk) s) (fun w => pzFX b s w.2 ∧ pzCY h b (x :: R) l 0 w.2) := by
  obtain ⟨c1, c2, c3, c4, c5, c6, c7, c8, c9, c10, c11, c12⟩ := hs
  have hb := zs_c b
  have hlen := pz_len hV
  have hmk := hx.1.2.1
  have ho := pzXo_of hV c10
  have sx : pzstk (x :: R) = pzstk R := pzstk_e R (by omega)
  unfold mX5_takeStarMark
  rw [c2, c7, mJ9_max0 N (by omega), zb2_some]
  dsimp only [zq_let]
  rw [zck_nI (show R.length < 100 by omega) (by decide), zck_nI hmk (by decide), zck_nI hmk (by decide), c2, zpa_eq s, zgb_sA, c2, zpa_eq (zsA s _ _), nI_clamp (by omega), nI_clamp (by omega)]
  generalize ht : zsA (zsA s (zs b + 3) (upd (zA s (zs b + 3)) R.length (nI x.mk))) (zs b + 10) (upd (zA (zsA s (zs b + 3) (upd (zA s (zs b + 3)) R.length (nI x.mk))) (zs b + 10)) x.mk (nI R.length)) = t
  have ff : ∀ k j, zgf t k j = zgf s k j := fun k j => by rw [← ht]; rfl
  have fb : zgb t 2 = b := by rw [← ht]; exact c2
  have fA : ∀ k, k ≠ zs b + 3 → k ≠ zs b + 10 → zA t k = zA s k := fun k a1 a2 => by rw [← ht, zA_ne _ a2, zA_ne _ a1]
  have f3 : ∀ i, zA t (zs b + 3) i = if i = R.length then nI x.mk else zA s (zs b + 3) i := fun i => by
    rw [← ht, zA_ne _ (by omega), zA_sA, if_pos rfl]; rfl
  have f10 : ∀ i, zA t (zs b + 10) i = if i = x.mk then nI R.length else zA s (zs b + 10) i := fun i => by
    rw [← ht, zA_sA, if_pos rfl, zA_ne _ (by omega)]; rfl
  have F1 : pzFX b s t := by rw [← ht]; exact (zfr_sA _ _ (by simp)).tr (zfr_sA _ _ (by simp))
  clear ht
  rw [ff 26 6, c4, fb, mX5_putInAround_eq N hN (b := b) (R := R) fb (pzXs_eq (s := s) _ (fun d _ => by rw [fA 28 (by omega) (by omega)]) c6) (pz_dep hV) (fun q hq => ?_), zb2_some]
  · dsimp only
    rw [zck_nI hmk (by decide), zck_nI hmk (by decide), zga_nI _ _ (by omega), zpa_eq, zpa_eq, nI_clamp (by omega)]
    have e9 : zgf (zsA t (zs b + 6) (upd (zA t (zs b + 6)) x.mk (zA t (zs b + 6) x.mk ||| nI (pzor R (pzstk R))))) 26 9 = nI x.ps := by
      rw [zgf_sA, ff]; exact h9
    rw [e9]
    generalize hw : zpf (zsA (zsA t (zs b + 6) (upd (zA t (zs b + 6)) x.mk (zA t (zs b + 6) x.mk ||| nI (pzor R (pzstk R))))) 29 (upd (zA (zsA t (zs b + 6) (upd (zA t (zs b + 6)) x.mk (zA t (zs b + 6) x.mk ||| nI (pzor R (pzstk R))))) 29) x.mk (nI x.ps))) 26 4 0 = w
    have F3 : pzFX b s w := by rw [← hw]; exact ((F1.tr (zfr_sA _ _ (by simp))).tr (zfr_sA _ _ (by simp))).tr (zfr_pf _ _ _ (by simp))
    have hst : zgf w 26 4 = 0 := by rw [← hw]; rfl
    have gf : ∀ k j, (k, j) ≠ (26, 4) → zgf w k j = zgf s k j := fun k j a2 => by
      rw [← hw, zgf_pf, if_neg (fun y => a2 (by rw [y.1, y.2])), zgf_sA, zgf_sA, ff]
    have gX : ∀ k, k ≠ zs b + 3 → k ≠ zs b + 10 → k ≠ zs b + 6 → k ≠ 29 → zA w k = zA s k := fun k a1 a2 a3 a4 => by rw [← hw, zA_pf, zA_ne _ a4, zA_ne _ a3, fA k a1 a2]
    have g3 : ∀ i, zA w (zs b + 3) i = if i = R.length then nI x.mk else zA s (zs b + 3) i := fun i => by rw [← hw, zA_pf, zA_ne _ (by omega), zA_ne _ (by omega), f3]
    have g10 : ∀ i, zA w (zs b + 10) i = if i = x.mk then nI R.length else zA s (zs b + 10) i := fun i => by rw [← hw, zA_pf, zA_ne _ (by omega), zA_ne _ (by omega), f10]
    have g6 : ∀ i, zA w (zs b + 6) i = if i = x.mk then zA s (zs b + 6) i ||| nI (pzar R) else zA s (zs b + 6) i := fun i => by
      rw [← hw, zA_pf, zA_ne _ (by omega), zA_sA, if_pos rfl, fA _ (by omega) (by omega)]
      unfold upd
      by_cases z : i = x.mk
      · rw [if_pos z, if_pos z, z]; rfl
      · rw [if_neg z, if_neg z]
    have g29 : ∀ i, zA w 29 i = if i = x.mk then nI x.ps else zA s 29 i := fun i => by
      rw [← hw, zA_pf, zA_sA, if_pos rfl, zA_ne _ (by omega), fA _ (by omega) (by omega)]
      rfl
    refine zw_some.2 ⟨F3, ?_⟩
    dsimp only
    clear hw
    refine ⟨zHX_fr c1 F3, by rw [F3.b 2]; exact c2, hst, ?_, ?_, fun z => absurd (pzph_0 R (by omega)) z, ?_, ?_, ?_, ?_, fun k hk => ?_, fun m hm => ?_⟩
    · rw [gf 26 6 (by simp), sx]; exact c4
    · rw [gf 26 7 (by simp), pzmk_n R (by omega)]; exact c5
    · rw [sx]
      exact pzXs_eq (s := s) _ (fun d _ => by rw [gX 28 (by omega) (by omega) (by omega) (by omega)]) c6
    · rw [gf (zs b) 6 (by simp <;> omega)]; exact c7
    · rw [gf (zs b) 8 (by simp <;> omega), pzwn_n R (by omega)]; exact c8
    · exact pzPr_fr c9 (gf (zs b) 1 (by simp <;> omega)) (gf (zs b) 2 (by simp <;> omega)) (gX _ (by omega) (by omega) (by omega) (by omega))
    · rw [List.length_cons] at hk
      by_cases z : k < R.length
      · exact pzXi_old (by omega) ⟨hV, hx⟩ z (c10 k z) (by rw [gX _ (by omega) (by omega) (by omega) (by omega)]) (by rw [g3, if_neg (by omega)]) (by rw [gX _ (by omega) (by omega) (by omega) (by omega)])
      · obtain rfl : k = R.length := by omega
        unfold pzXi
        rw [pzat_new, gX _ (by omega) (by omega) (by omega) (by omega), c12, g3, if_pos rfl, x1]
        exact ⟨rfl, fun _ => rfl, fun v => by omega, fun v => by omega⟩
    · refine pzXm_star x1 (c11 m hm) ?_ ?_ ?_ ?_ ?_ ?_ ?_ ?_ ?_
      · rw [gX _ (by omega) (by omega) (by omega) (by omega)]
      · rw [g6]
      · rw [gX _ (by omega) (by omega) (by omega) (by omega)]
      · rw [gX _ (by omega) (by omega) (by omega) (by omega)]
      · rw [gX _ (by omega) (by omega) (by omega) (by omega)]
      · rw [g10]
      · rw [gX _ (by omega) (by omega) (by omega) (by omega)]
      · rw [g29]
      · rw [gX 30 (by omega) (by omega) (by omega) (by omega)]
  · obtain ⟨o1, o2, o3, o4⟩ := ho q hq
    have := (pzstk_mem hV hq).1
    exact ⟨o1, by rw [fA _ (by omega) (by omega)]; exact o2, by rw [f3, if_neg (by omega)]; exact o3, o4⟩
/-- the first word of a row -/
theorem X_rowWord (N : Nat) (hN : 5000 ≤ N) {h : List Nat} {b : Bool} {R : List zIt} {l : List Nat} {x : zIt} {s : zq_S} (hV : pzV R) (hx : pzok R x) (x1 : x.sg = 8) (hs : pzDX h b R (pzstk R) l 9 (zcode 8) s) (h8 : zgf s 26 8 = -1) :
    zw (mX5_takeWord N (nI x.wd) s) (fun w => pzFX b s w.2 ∧ pzCY h b (x :: R) l 3 w.2) := by
  obtain ⟨c1, c2, c3, c4, c5, c6, c7, c8, c9, c10, c11, c12⟩ := hs
  have hb := zs_c b
  have hlen := pz_len hV
  have sx : pzstk (x :: R) = pzstk R := pzstk_e R (by omega)
  refine zw_mono (mX5_takeWord_r N hN (R := R) (L := pzstk R) (n := R.length) (w := pzwn R) (v := x.wd) c2 (Or.inl c3) c6 (pz_dep hV) c4 (pzXw_of hV c10 (fun m hm => (c11 m hm).2.2.1)) c7 (by omega) c8) ?_
  intro w ⟨f, g8, g4, g7, gr4⟩
  have F3 : pzFX b s w.2 := f.mo (by simp) (by simp) (by simp)
  have gX : ∀ k, k ≠ zs b + 4 → k ≠ zs b + 7 → zA w.2 k = zA s k := fun k a1 a2 => f.a k (by simp <;> omega)
  refine ⟨F3, zHX_fr c1 F3, by rw [F3.b 2]; exact c2, by rw [g4, if_pos c3], ?_, ?_, fun _ => ?_, ?_, ?_, ?_, ?_, fun k hk => ?_, fun m hm => ?_⟩
  · rw [f.f 26 6 (by simp <;> omega), sx]; exact c4
  · rw [f.f 26 7 (by simp <;> omega), pzmk_n R (by omega)]; exact c5
  · rw [f.f 26 8 (by simp <;> omega), h8, pzov, if_neg (by omega)]
  · rw [sx]
    exact pzXs_eq (s := s) _ (fun d _ => by rw [gX 28 (by omega) (by omega)]) c6
  · rw [f.f (zs b) 6 (by simp <;> omega)]; exact c7
  · rw [g8, pzwn_y R (by omega)]
  · exact pzPr_fr c9 (f.f (zs b) 1 (by simp <;> omega)) (f.f (zs b) 2 (by simp <;> omega)) (gX _ (by omega) (by omega))
  · rw [List.length_cons] at hk
    by_cases z : k < R.length
    · exact pzXi_old (by omega) ⟨hV, hx⟩ z (c10 k z) (by rw [gX _ (by omega) (by omega)]) (by rw [gX _ (by omega) (by omega)]) (by rw [gr4, if_neg (by omega)])
    · obtain rfl : k = R.length := by omega
      unfold pzXi
      rw [pzat_new, gX _ (by omega) (by omega), c12, gr4, if_pos rfl, x1]
      exact ⟨rfl, fun v => by omega, fun _ => rfl, fun v => by omega⟩
  · refine pzXm_flat (Or.inr (Or.inl x1)) (c11 m hm) ?_ ?_ ?_ ?_ ?_ ?_ ?_ ?_ ?_
    · exact gX _ (by omega) (by omega)
    · exact gX _ (by omega) (by omega)
    · rw [g7 m hm, (c11 m hm).2.1, nI_add, pzns, if_neg (by omega), if_pos (by omega)]
    · exact gX _ (by omega) (by omega)
    · exact gX _ (by omega) (by omega)
    · exact gX _ (by omega) (by omega)
    · exact gX _ (by omega) (by omega)
    · exact gX 29 (by omega) (by omega)
    · exact gX 30 (by omega) (by omega)
/-- behind the mark of a word written over -/
def pzEX (h : List Nat) (b : Bool) (R : List zIt) (x : zIt) (l : List Nat) (s : zq_S) : Prop :=
  zHX h s ∧ zgb s 2 = b ∧ zgf s 26 4 = 10 ∧ zgf s 26 6 = nI (pzstk R).length ∧ zgf s 26 7 = nI (pzmk (x :: R)) ∧ zgf s 26 8 = nI x.mk ∧ pzXs s (pzstk R) ∧
  zgf s (zs b) 6 = nI (R.length + 1) ∧ zgf s (zs b) 8 = nI (pzwn R) ∧ pzPr b s l (pznl l) ∧ (∀ k, k < R.length → pzXi b R s k) ∧ (zA s (zs b + 2) R.length = zcode 9 ∧ zA s (zs b + 3) R.length = nI x.mk) ∧
  (∀ m, m < 10 → zA s (zs b + 7) m = nI (if x.mk = m then 1 else pzns R m) ∧ zA s (zs b + 11) m = pzoi (pzsd R m) ∧ (∀ t, zA t (zs b + 5) m = zA s (zs b + 5) m → zA t (zs b + 6) m = zA s (zs b + 6) m → zA t (zs b + 7) m = nI (pzns (x :: R) m) → zA t (zs b + 8) m = zA s (zs b + 8) m → zA t (zs b + 9) m = zA s (zs b + 9) m → zA t (zs b + 10) m = zA s (zs b + 10) m → zA t (zs b + 11) m = zA s (zs b + 11) m → zA t 29 m = zA s 29 m → zA t 30 m = zA s 30 m → pzXm b (x :: R) t m))
theorem pzEX_pr {h : List Nat} {b : Bool} {R : List zIt} {x : zIt} {l l' : List Nat} {s t : zq_S} (hs : pzEX h b R x l s) (f : pzFP b s t) (hp : pzPr b t l' (pznl l')) : pzEX h b R x l' t := by
  obtain ⟨c1, c2, c3, c4, c5, c6, c7, c8, c9, c10, c11, c12, c13⟩ := hs
  have hb := zs_c b
  have ff : ∀ j, zgf t 26 j = zgf s 26 j := fun j => f.f 26 j (by simp <;> omega)
  have fa : ∀ k, k ≠ zs b + 1 → zA t k = zA s k := fun k hk => f.a k (by simp; exact hk)
  refine ⟨zHX_fr (b := b) c1 (pzFP_FX f), by rw [f.b 2]; exact c2, by rw [ff]; exact c3, by rw [ff]; exact c4, by rw [ff]; exact c5, by rw [ff]; exact c6, pzXs_eq _ (fun d _ => by rw [fa 28 (by omega)]) c7, by rw [f.f (zs b) 6 (by simp)]; exact c8, by rw [f.f (zs b) 8 (by simp)]; exact c9, hp, fun k hk => ?_, ?_, fun m hm => ?_⟩
  · exact pzXi_eq (c11 k hk) (by rw [fa _ (by omega)]) (by rw [fa _ (by omega)]) (by rw [fa _ (by omega)])
  · rw [fa _ (by omega), fa _ (by omega)]; exact c12
  · have := c13 m hm
    rw [fa (zs b + 5) (by omega), fa (zs b + 6) (by omega), fa (zs b + 7) (by omega), fa (zs b + 8) (by omega), fa (zs b + 9) (by omega), fa (zs b + 10) (by omega), fa (zs b + 11) (by omega), fa 29 (by omega), fa 30 (by omega)]
    exact this
theorem X_overMark (N : Nat) (hN : 5000 ≤ N) {h : List Nat} {b : Bool} {R : List zIt} {l : List Nat} {x : zIt} {s : zq_S} (hV : pzV R) (hmk : x.mk < 10) (x1 : x.sg = 9) (hs : pzDX h b R (pzstk R) l 8 (zcode 9) s) (h8 : zgf s 26 8 = pzov R) :
    zw (mX5_takeOverMark N (nI x.mk) s) (fun w => pzFX b s w.2 ∧ pzEX h b R x l w.2) := by
  obtain ⟨c1, c2, c3, c4, c5, c6, c7, c8, c9, c10, c11, c12⟩ := hs
  have hb := zs_c b
  have hlen := pz_len hV
  have ho := pzXo_of hV c10
  have elr : (if (0 : Int32) ≤ pzov R then ((1 : Int32) <<< (pzov R &&& 31)) else (0 : Int32)) = nI (pzlr R) := by
    cases R with
    | nil => rfl
    | cons y R =>
      rw [pzov, pzlr]
      by_cases z : y.sg = 9
      · have := hV.2.1.2.1
        rw [if_pos z, if_pos z, if_pos (by rw [show (0 : Int32) = nI 0 from rfl, nI_leI (by decide) (by omega)]; omega), zn_shl (by omega)]
      · rw [if_neg z, if_neg z]; rfl
  unfold mX5_takeOverMark
  rw [c2, c7, mJ9_max0 N (by omega), zb2_some]
  dsimp only [zq_let]
  rw [zck_nI (show R.length < 100 by omega) (by decide), zpa_eq, nI_clamp (by omega)]
  generalize ht : zsA s (zs b + 3) (upd (zA s (zs b + 3)) R.length (nI x.mk)) = t
  have ff : ∀ k j, zgf t k j = zgf s k j := fun k j => by rw [← ht]; rfl
  have fb : zgb t 2 = b := by rw [← ht]; exact c2
  have fA : ∀ k, k ≠ zs b + 3 → zA t k = zA s k := fun k a1 => by rw [← ht, zA_ne _ a1]
  have f3 : ∀ i, zA t (zs b + 3) i = if i = R.length then nI x.mk else zA s (zs b + 3) i := fun i => by
    rw [← ht, zA_sA, if_pos rfl]; rfl
  have F1 : pzFX b s t := by rw [← ht]; exact zfr_sA _ _ (by simp)
  clear ht
  rw [ff 26 6, c4, fb, mX5_putInAround_eq N hN (b := b) (R := R) fb (pzXs_eq (s := s) _ (fun d _ => by rw [fA 28 (by omega)]) c6) (pz_dep hV) (fun q hq => ?_), zb2_some]
  · dsimp only
    rw [ff 26 8, h8, elr, zn_or]
    refine zw_call (mX7_tell_w N hmk _ _ _) ?_
    intro r u ⟨fu, u5, u8, u6⟩
    dsimp only at fu u5 u8 u6 ⊢
    have uA : ∀ k, k ≠ zs b + 5 → k ≠ zs b + 6 → k ≠ zs b + 8 → zA u k = zA t k := fun k a1 a2 a3 => fu.a k (by simp <;> omega)
    have uf : ∀ k j, zgf u k j = zgf s k j := fun k j => by rw [fu.f k j List.not_mem_nil, ff]
    have F2 : pzFX b s u := F1.tr (fu.mo (by simp) (by simp) (by simp))
    rw [zck_nI hmk (by decide), fu.b 2, fb, zpa_eq, nI_clamp (by omega)]
    have e7 : zgf (zpf (zsA u (zs b + 7) (upd (zA u (zs b + 7)) x.mk 1)) 26 8 (nI x.mk)) 26 7 = nI (pzmk R) := by
      rw [zgf_pf, if_neg (by omega), zgf_sA, uf]; exact c5
    rw [e7, zn_shl (by omega), zn_or]
    generalize hw : zpf (zpf (zpf (zsA u (zs b + 7) (upd (zA u (zs b + 7)) x.mk 1)) 26 8 (nI x.mk)) 26 7 (nI (pzmk R ||| 2 ^ x.mk))) 26 4 10 = w
    have F3 : pzFX b s w := by rw [← hw]; exact (((F2.tr (zfr_sA _ _ (by simp))).tr (zfr_pf _ _ _ (by simp))).tr (zfr_pf _ _ _ (by simp))).tr (zfr_pf _ _ _ (by simp))
    have hst : zgf w 26 4 = 10 := by rw [← hw]; rfl
    have w7 : zgf w 26 7 = nI (pzmk R ||| 2 ^ x.mk) := by rw [← hw]; rfl
    have w8 : zgf w 26 8 = nI x.mk := by rw [← hw]; rfl
    have gf : ∀ k j, (k, j) ≠ (26, 4) → (k, j) ≠ (26, 7) → (k, j) ≠ (26, 8) → zgf w k j = zgf s k j := fun k j a1 a2 a3 => by
      rw [← hw, zgf_pf, if_neg (fun y => a1 (by rw [y.1, y.2])), zgf_pf, if_neg (fun y => a2 (by rw [y.1, y.2])), zgf_pf, if_neg (fun y => a3 (by rw [y.1, y.2])), zgf_sA, uf]
    have gX : ∀ k, k ≠ zs b + 3 → k ≠ zs b + 5 → k ≠ zs b + 6 → k ≠ zs b + 7 → k ≠ zs b + 8 → zA w k = zA s k := fun k a1 a2 a3 a4 a5 => by rw [← hw, zA_pf, zA_pf, zA_pf, zA_ne _ a4, uA k a2 a3 a5, fA k a1]
    have g3 : ∀ i, zA w (zs b + 3) i = if i = R.length then nI x.mk else zA s (zs b + 3) i := fun i => by rw [← hw, zA_pf, zA_pf, zA_pf, zA_ne _ (by omega), uA _ (by omega) (by omega) (by omega), f3]
    have g5 : ∀ i, zA w (zs b + 5) i = if i = x.mk then 4 else zA s (zs b + 5) i := fun i => by rw [← hw, zA_pf, zA_pf, zA_pf, zA_ne _ (by omega), u5, fA _ (by omega)]
    have g6 : ∀ i, zA w (zs b + 6) i = if i = x.mk then zA s (zs b + 6) i ||| nI (pzar R ||| pzlr R) else zA s (zs b + 6) i := fun i => by
      rw [← hw, zA_pf, zA_pf, zA_pf, zA_ne _ (by omega), u6, fA _ (by omega)]
      by_cases z : i = x.mk
      · rw [if_pos z, if_pos z, z]; rfl
      · rw [if_neg z, if_neg z]
    have g8 : ∀ i, zA w (zs b + 8) i = if i = x.mk then nI (pzstk R).length else zA s (zs b + 8) i := fun i => by rw [← hw, zA_pf, zA_pf, zA_pf, zA_ne _ (by omega), u8, fA _ (by omega)]
    have g7 : ∀ i, zA w (zs b + 7) i = if i = x.mk then 1 else zA s (zs b + 7) i := fun i => by
      rw [← hw, zA_pf, zA_pf, zA_pf, zA_sA, if_pos rfl, uA _ (by omega) (by omega) (by omega), fA _ (by omega)]
      rfl
    refine zw_some.2 ⟨F3, ?_⟩
    dsimp only
    clear hw
    refine ⟨zHX_fr c1 F3, by rw [F3.b 2]; exact c2, hst, ?_, ?_, w8, ?_, ?_, ?_, ?_, fun k hk => ?_, ⟨?_, ?_⟩, fun m hm => ⟨?_, ?_, ?_⟩⟩
    · rw [gf 26 6 (by simp) (by simp) (by simp)]; exact c4
    · rw [w7, pzmk, if_pos (Or.inr x1), if_neg (by omega), Nat.or_zero]
    · exact pzXs_eq (s := s) _ (fun d _ => by rw [gX 28 (by omega) (by omega) (by omega) (by omega) (by omega)]) c6
    · rw [gf (zs b) 6 (by simp <;> omega) (by simp <;> omega) (by simp <;> omega)]; exact c7
    · rw [gf (zs b) 8 (by simp <;> omega) (by simp <;> omega) (by simp <;> omega)]; exact c8
    · exact pzPr_fr c9 (gf (zs b) 1 (by simp <;> omega) (by simp <;> omega) (by simp <;> omega)) (gf (zs b) 2 (by simp <;> omega) (by simp <;> omega) (by simp <;> omega)) (gX _ (by omega) (by omega) (by omega) (by omega) (by omega))
    · exact pzXi_eq (c10 k hk) (by rw [gX _ (by omega) (by omega) (by omega) (by omega) (by omega)]) (by rw [g3, if_neg (by omega)]) (by rw [gX _ (by omega) (by omega) (by omega) (by omega) (by omega)])
    · rw [gX _ (by omega) (by omega) (by omega) (by omega) (by omega)]; exact c12
    · rw [g3, if_pos rfl]
    · rw [g7]
      by_cases z : m = x.mk
      · rw [if_pos z, if_pos z.symm]; rfl
      · rw [if_neg z, if_neg (fun y => z y.symm)]; exact (c11 m hm).2.1
    · rw [gX _ (by omega) (by omega) (by omega) (by omega) (by omega)]; exact (c11 m hm).2.2.1
    · intro t a5 a6 a7 a8 a9 a10 a11 a29 a30
      refine pzXm_over x1 (c11 m hm) ?_ ?_ a7 ?_ ?_ ?_ ?_ ?_ ?_
      · rw [a5, g5]
      · rw [a6, g6]
      · rw [a8, g8]
      · rw [a9, gX _ (by omega) (by omega) (by omega) (by omega) (by omega)]
      · rw [a10, gX _ (by omega) (by omega) (by omega) (by omega) (by omega)]
      · rw [a11, gX _ (by omega) (by omega) (by omega) (by omega) (by omega)]
      · rw [a29, gX 29 (by omega) (by omega) (by omega) (by omega) (by omega)]
      · rw [a30, gX 30 (by omega) (by omega) (by omega) (by omega) (by omega)]
  · obtain ⟨o1, o2, o3, o4⟩ := ho q hq
    have := (pzstk_mem hV hq).1
    exact ⟨o1, by rw [fA _ (by omega)]; exact o2, by rw [f3, if_neg (by omega)]; exact o3, o4⟩
theorem X_overWord (N : Nat) (hN : 5000 ≤ N) {h : List Nat} {b : Bool} {R : List zIt} {l : List Nat} {x : zIt} {s : zq_S} (hV : pzV R) (hx : pzok R x) (x1 : x.sg = 9) (hs : pzEX h b R x l s) :
    zw (mX5_takeWord N (nI x.wd) s) (fun w => pzFX b s w.2 ∧ pzCY h b (x :: R) l 4 w.2) := by
  obtain ⟨c1, c2, c3, c4, c5, c6, c7, c8, c9, c10, c11, c12, c13⟩ := hs
  have hb := zs_c b
  have hlen := pz_len hV
  have sx : pzstk (x :: R) = pzstk R := pzstk_e R (by omega)
  refine zw_mono (mX5_takeWord_r N hN (R := R) (L := pzstk R) (n := R.length) (w := pzwn R) (v := x.wd) c2 (Or.inr c3) c7 (pz_dep hV) c4 (pzXw_of hV c11 (fun m hm => (c13 m hm).2.1)) c8 (by omega) c9) ?_
  intro w ⟨f, g8, g4, g7, gr4⟩
  have F3 : pzFX b s w.2 := f.mo (by simp) (by simp) (by simp)
  have gX : ∀ k, k ≠ zs b + 4 → k ≠ zs b + 7 → zA w.2 k = zA s k := fun k a1 a2 => f.a k (by simp <;> omega)
  refine ⟨F3, zHX_fr c1 F3, by rw [F3.b 2]; exact c2, by rw [g4, if_neg (by rw [c3]; decide)], ?_, ?_, fun _ => ?_, ?_, ?_, ?_, ?_, fun k hk => ?_, fun m hm => ?_⟩
  · rw [f.f 26 6 (by simp <;> omega), sx]; exact c4
  · rw [f.f 26 7 (by simp <;> omega)]; exact c5
  · rw [f.f 26 8 (by simp <;> omega), c6, pzov, if_pos x1]
  · rw [sx]
    exact pzXs_eq (s := s) _ (fun d _ => by rw [gX 28 (by omega) (by omega)]) c7
  · rw [f.f (zs b) 6 (by simp <;> omega)]; exact c8
  · rw [g8, pzwn_y R (by omega)]
  · exact pzPr_fr c10 (f.f (zs b) 1 (by simp <;> omega)) (f.f (zs b) 2 (by simp <;> omega)) (gX _ (by omega) (by omega))
  · rw [List.length_cons] at hk
    by_cases z : k < R.length
    · exact pzXi_old (by omega) ⟨hV, hx⟩ z (c11 k z) (by rw [gX _ (by omega) (by omega)]) (by rw [gX _ (by omega) (by omega)]) (by rw [gr4, if_neg (by omega)])
    · obtain rfl : k = R.length := by omega
      unfold pzXi
      rw [pzat_new, gX _ (by omega) (by omega), gX _ (by omega) (by omega), c12.1, c12.2, gr4, if_pos rfl, x1]
      exact ⟨rfl, fun _ => rfl, fun _ => rfl, fun v => by omega⟩
  · obtain ⟨d1, d2, d3⟩ := c13 m hm
    refine d3 w.2 ?_ ?_ ?_ ?_ ?_ ?_ ?_ ?_ ?_
    · rw [gX _ (by omega) (by omega)]
    · rw [gX _ (by omega) (by omega)]
    · rw [g7 m hm, d1, nI_add, pzns, if_pos (show x.sg = 0 ∨ x.sg = 8 ∨ x.sg = 9 from Or.inr (Or.inr x1))]
      by_cases z : x.mk = m
      · rw [if_pos z, if_pos ⟨x1, z⟩]
      · rw [if_neg z, if_neg (fun v => z v.2)]
    · rw [gX _ (by omega) (by omega)]
    · rw [gX _ (by omega) (by omega)]
    · rw [gX _ (by omega) (by omega)]
    · rw [gX _ (by omega) (by omega)]
    · rw [gX 29 (by omega) (by omega)]
    · rw [gX 30 (by omega) (by omega)]
