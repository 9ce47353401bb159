/-! the class: takeWord -/
theorem mJ9_max0 (N : Nat) {n : Nat} (hn : n < 2 ^ 31) (s : zq_S) : mJ9_max_7cf53 N 0 (nI (n + 1) - 1) s = some (nI n, s) := by
  unfold mJ9_max_7cf53
  dsimp only [zq_let]
  rw [zn_m1]
  by_cases z : n = 0
  · subst z; rfl
  · rw [if_pos (by rw [show (0 : Int32) = nI 0 from rfl, nI_ltI (by decide) hn]; omega)]
theorem mX5_takeWord_0 (N : Nat) (hN : 5000 ≤ N) {b : Bool} {R : List zIt} {s : zq_S} (hb : zgb s 2 = b) (hst : zgf s 26 4 = 0) {L : List Nat} (hL : pzXs s L) (h8 : L.length ≤ 8) (hd : zgf s 26 6 = nI L.length) (ho : ∀ q, q ∈ L → pzXo b R s q ∧ (pzat R q).sd ≤ 10 ∧ zA s (zs b + 11) (pzat R q).mk = if (pzat R q).sd = 0 then -1 else nI ((pzat R q).sd - 1)) {n w v : Nat} (hn : zgf s (zs b) 6 = nI n) (h1 : n < 100) (hw : zgf s (zs b) 8 = nI w) :
    zw (mX5_takeWord N (nI v) s) (fun r => zfr [(zs b, 6), (zs b, 8)] [zs b + 2, zs b + 3, zs b + 4, zs b + 7] [] s r.2 ∧ zgf r.2 (zs b) 6 = nI (n + 1) ∧ zgf r.2 (zs b) 8 = nI (w + 1) ∧ (∀ j, j < 10 → zA r.2 (zs b + 7) j = zA s (zs b + 7) j + nI (pzct R j L)) ∧
      (∀ k, zA r.2 (zs b + 2) k = if k = n then 119 else zA s (zs b + 2) k) ∧ (∀ k, k ≠ n → zA r.2 (zs b + 3) k = zA s (zs b + 3) k) ∧ (∀ k, zA r.2 (zs b + 4) k = if k = n then nI v else zA s (zs b + 4) k)) := by
  unfold mX5_takeWord
  dsimp only [zq_let]
  rw [hb, hw, nI_1]
  have f0 : zfr [(zs b, 6), (zs b, 8)] [zs b + 2, zs b + 3, zs b + 4, zs b + 7] [] s (zpf s (zs b) 8 (nI (w + 1))) := zfr_pf _ _ _ (by simp)
  have b8 : zs b ≠ 26 := by cases b <;> decide
  have go := mX5_count_w N (b := b) (R := R) (s := zpf s (zs b) 8 (nI (w + 1))) hb (L := L) (pzXs_eq (s := s) L (fun _ _ => rfl) hL) h8 (by rw [zgf_pf, if_neg (by omega)]; exact hd) ho (f1 := nI v) (K := fun e5 => jX5_takeWord_j53 N (nI v) e5) (Q := fun r => zfr [(zs b, 6), (zs b, 8)] [zs b + 2, zs b + 3, zs b + 4, zs b + 7] [] s r.2 ∧ zgf r.2 (zs b) 6 = nI (n + 1) ∧ zgf r.2 (zs b) 8 = nI (w + 1) ∧ (∀ j, j < 10 → zA r.2 (zs b + 7) j = zA s (zs b + 7) j + nI (pzct R j L)) ∧
      (∀ k, zA r.2 (zs b + 2) k = if k = n then 119 else zA s (zs b + 2) k) ∧ (∀ k, k ≠ n → zA r.2 (zs b + 3) k = zA s (zs b + 3) k) ∧ (∀ k, zA r.2 (zs b + 4) k = if k = n then nI v else zA s (zs b + 4) k)) ?_ L.length L [] N (zpf s (zs b) 8 (nI (w + 1))) rfl (List.append_nil L).symm (by omega) zfr_rfl (fun j _ => (Int32.add_zero _).symm)
  · exact go
  · intro t ft ht
    have F1 : zfr [(zs b, 6), (zs b, 8)] [zs b + 2, zs b + 3, zs b + 4, zs b + 7] [] s t := f0.tr (ft.mo (by simp) (by simp) (by simp))
    unfold jX5_takeWord_j53
    rw [F1.f 26 4 (by simp), hst, if_pos rfl, F1.b 2, hb]
    refine zw_call (mX7_addItem_w N (b := b) (n := n) ?_ h1 _) ?_
    · rw [ft.f (zs b) 6 List.not_mem_nil, zgf_pf, if_neg (by omega)]; exact hn
    · intro r u ⟨fu, u6, u2, u3, u4⟩
      dsimp only at fu u6 u2 u3 u4 ⊢
      have F2 : zfr [(zs b, 6), (zs b, 8)] [zs b + 2, zs b + 3, zs b + 4, zs b + 7] [] s u := F1.tr (fu.mo (by simp) (by simp) (by simp))
      unfold jX5_takeWord_j69 jX5_takeWord_j116
      dsimp only [zq_let]
      rw [F2.b 2, hb, u6, mJ9_max0 N (by omega), zb2_some]
      dsimp only
      rw [zck_nI h1 (by decide)]
      have f9 : zfr [(zs b, 6), (zs b, 8)] [zs b + 2, zs b + 3, zs b + 4, zs b + 7] [] u (zpa u (zs b + 4) (nI n) (nI v)) := by rw [zpa_eq]; exact zfr_sA _ _ (by simp)
      have e4 : zgf (zpa u (zs b + 4) (nI n) (nI v)) 26 4 = 0 := by
        rw [f9.f 26 4 (by simp), F2.f 26 4 (by simp)]; exact hst
      rw [e4, if_pos rfl]
      refine zw_some.2 ⟨F2.tr f9, u6, ?_, fun j hj => ?_, fun k => ?_, fun k hk => ?_, fun k => ?_⟩
      · show zgf u (zs b) 8 = _
        rw [fu.f (zs b) 8 (by simp), ft.f (zs b) 8 List.not_mem_nil, zgf_pf, if_pos ⟨rfl, rfl⟩]
      · dsimp only
        rw [zpa_eq, zA_ne _ (by omega), fu.a (zs b + 7) (by simp)]
        exact ht j hj
      · dsimp only
        rw [zpa_eq, zA_ne _ (by omega), u2, ft.a (zs b + 2) (by simp), zA_pf]
      · dsimp only
        rw [zpa_eq, zA_ne _ (by omega), u3, if_neg hk, ft.a (zs b + 3) (by simp), zA_pf]
      · dsimp only
        rw [zpa_eq, zA_sA, if_pos rfl, nI_clamp (by omega)]
        unfold upd
        by_cases z : k = n
        · rw [if_pos z, if_pos z]
        · rw [if_neg z, if_neg z, u4, if_neg z, ft.a (zs b + 4) (by simp), zA_pf]
theorem mX5_takeWord_r (N : Nat) (hN : 5000 ≤ N) {b : Bool} {R : List zIt} {s : zq_S} (hb : zgb s 2 = b) (hst : zgf s 26 4 = 9 ∨ zgf s 26 4 = 10) {L : List Nat} (hL : pzXs s L) (h8 : L.length ≤ 8) (hd : zgf s 26 6 = nI L.length) (ho : ∀ q, q ∈ L → pzXo b R s q ∧ (pzat R q).sd ≤ 10 ∧ zA s (zs b + 11) (pzat R q).mk = if (pzat R q).sd = 0 then -1 else nI ((pzat R q).sd - 1)) {n w v : Nat} (hn : zgf s (zs b) 6 = nI (n + 1)) (h1 : n < 100) (hw : zgf s (zs b) 8 = nI w) :
    zw (mX5_takeWord N (nI v) s) (fun r => zfr [(zs b, 8), (26, 4)] [zs b + 4, zs b + 7] [] s r.2 ∧ zgf r.2 (zs b) 8 = nI (w + 1) ∧ zgf r.2 26 4 = (if zgf s 26 4 = 9 then 3 else 4) ∧ (∀ j, j < 10 → zA r.2 (zs b + 7) j = zA s (zs b + 7) j + nI (pzct R j L)) ∧
      (∀ k, zA r.2 (zs b + 4) k = if k = n then nI v else zA s (zs b + 4) k)) := by
  unfold mX5_takeWord
  dsimp only [zq_let]
  rw [hb, hw, nI_1]
  have f0 : zfr [(zs b, 8), (26, 4)] [zs b + 4, zs b + 7] [] s (zpf s (zs b) 8 (nI (w + 1))) := zfr_pf _ _ _ (by simp)
  have b8 : zs b ≠ 26 := by cases b <;> decide
  have nst : ¬ zgf s 26 4 = 0 := by rcases hst with y | y <;> rw [y] <;> decide
  have go := mX5_count_w N (b := b) (R := R) (s := zpf s (zs b) 8 (nI (w + 1))) hb (L := L) (pzXs_eq (s := s) L (fun _ _ => rfl) hL) h8 (by rw [zgf_pf, if_neg (by omega)]; exact hd) ho (f1 := nI v) (K := fun e5 => jX5_takeWord_j53 N (nI v) e5) (Q := fun r => zfr [(zs b, 8), (26, 4)] [zs b + 4, zs b + 7] [] s r.2 ∧ zgf r.2 (zs b) 8 = nI (w + 1) ∧ zgf r.2 26 4 = (if zgf s 26 4 = 9 then 3 else 4) ∧ (∀ j, j < 10 → zA r.2 (zs b + 7) j = zA s (zs b + 7) j + nI (pzct R j L)) ∧
      (∀ k, zA r.2 (zs b + 4) k = if k = n then nI v else zA s (zs b + 4) k)) ?_ L.length L [] N (zpf s (zs b) 8 (nI (w + 1))) rfl (List.append_nil L).symm (by omega) zfr_rfl (fun j _ => (Int32.add_zero _).symm)
  · exact go
  · intro t ft ht
    have e4 : zgf t 26 4 = zgf s 26 4 := by rw [ft.f 26 4 List.not_mem_nil, zgf_pf, if_neg (by omega)]
    have e6 : zgf t (zs b) 6 = nI (n + 1) := by rw [ft.f (zs b) 6 List.not_mem_nil, zgf_pf, if_neg (by omega)]; exact hn
    have F1 : zfr [(zs b, 8), (26, 4)] [zs b + 4, zs b + 7] [] s t := f0.tr (ft.mo (by simp) (by simp) (by simp))
    unfold jX5_takeWord_j53 jX5_takeWord_j69 jX5_takeWord_j116
    dsimp only [zq_let]
    rw [e4, if_neg nst, F1.b 2, hb, e6, mJ9_max0 N (by omega), zb2_some]
    dsimp only
    rw [zck_nI h1 (by decide)]
    have f9 : zfr [(zs b, 8), (26, 4)] [zs b + 4, zs b + 7] [] t (zpa t (zs b + 4) (nI n) (nI v)) := by rw [zpa_eq]; exact zfr_sA _ _ (by simp)
    have e49 : zgf (zpa t (zs b + 4) (nI n) (nI v)) 26 4 = zgf s 26 4 := e4
    rw [e49, if_neg nst]
    refine zw_some.2 ⟨(F1.tr f9).tr (zfr_pf _ _ _ (by simp)), ?_, ?_, fun j hj => ?_, fun k => ?_⟩
    · dsimp only
      rw [zgf_pf, if_neg (by omega)]
      show zgf t (zs b) 8 = _
      rw [ft.f (zs b) 8 List.not_mem_nil, zgf_pf, if_pos ⟨rfl, rfl⟩]
    · rfl
    · dsimp only
      rw [zA_pf, zpa_eq, zA_ne _ (by omega)]
      exact ht j hj
    · dsimp only
      rw [zA_pf, zpa_eq, zA_sA, if_pos rfl, nI_clamp (by omega)]
      unfold upd
      by_cases z : k = n
      · rw [if_pos z, if_pos z]
      · rw [if_neg z, if_neg z, ft.a (zs b + 4) (by simp), zA_pf]
