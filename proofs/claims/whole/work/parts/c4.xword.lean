/-! the class: words are counted in the brackets around -/
theorem mX5_countInside_w (N : Nat) {b : Bool} {s : zq_S} (hb : zgb s 2 = b) {m sd : Nat} (hm : m < 10) (hsd : sd ≤ 10) (hst : zA s (zs b + 11) m = if sd = 0 then -1 else nI (sd - 1)) : zw (mX5_countInside N (nI m) s) (fun v => zfr [] [zs b + 7] [] s v.2 ∧ ∀ j, j < 10 → zA v.2 (zs b + 7) j = zA s (zs b + 7) j + nI ((if m = j then 1 else 0) + (if sd = j + 1 then 1 else 0))) := by
  unfold mX5_countInside jX5_countInside_j50
  dsimp only [zq_let]
  have n7 : zs b + 11 ≠ zs b + 7 := by omega
  rw [if_neg (nI_nneg (by omega)), zck_nI hm (by decide), zck_nI hm (by decide), zck_nI hm (by decide), zck_nI hm (by decide), hb, zpa_eq, zgb_sA, hb, nI_clamp (by omega), zga_nI _ _ (by omega), zga_nI _ _ (by omega), zA_ne _ n7, hst]
  by_cases z : sd = 0
  · rw [if_pos z, if_pos (by decide)]
    refine zw_some.2 ⟨zfr_sA _ _ (by simp), fun j hj => ?_⟩
    dsimp only
    rw [zA_sA, if_pos rfl, if_neg (show ¬ sd = j + 1 by omega), Nat.add_zero]
    unfold upd
    by_cases y : j = m
    · rw [if_pos y, if_pos y.symm, y]; rfl
    · rw [if_neg y, if_neg (fun w => y w.symm)]
      exact (Int32.add_zero _).symm
  · rw [if_neg z, if_neg (nI_nneg (by omega)), zck_nI (by omega) (by decide), zck_nI (by omega) (by decide), zpa_eq, nI_clamp (by omega), zga_nI _ _ (by omega), zsA_sA]
    refine zw_some.2 ⟨zfr_sA _ _ (by simp), fun j hj => ?_⟩
    dsimp only
    rw [zA_sA, if_pos rfl, zA_sA, if_pos rfl]
    unfold upd
    by_cases y : j = sd - 1
    · rw [if_pos y, if_pos (show sd = j + 1 by omega)]
      by_cases w : j = m
      · rw [if_pos (by omega), if_pos w.symm, w, Int32.add_assoc]
        rfl
      · rw [if_neg (by omega), if_neg (fun v => w v.symm), y]
        rfl
    · rw [if_neg y, if_neg (show ¬ sd = j + 1 by omega), Nat.add_zero]
      by_cases w : j = m
      · rw [if_pos w, if_pos w.symm, w]; rfl
      · rw [if_neg w, if_neg (fun v => w v.symm)]
        exact (Int32.add_zero _).symm
theorem mX5_count_w (N : Nat) {b : Bool} {R : List zIt} {s : zq_S} (hb : zgb s 2 = b) {L : List Nat} (hL : pzXs s L) (h8 : L.length ≤ 8) (hd : zgf s 26 6 = nI L.length) (ho : ∀ q, q ∈ L → pzXo b R s q ∧ (pzat R q).sd ≤ 10 ∧ zA s (zs b + 11) (pzat R q).mk = if (pzat R q).sd = 0 then -1 else nI ((pzat R q).sd - 1)) {f1 : Int32} {K : zq_S → Option (Unit × zq_S)} {Q : Unit × zq_S → Prop}
    (hK : ∀ t, zfr [] [zs b + 7] [] s t → (∀ j, j < 10 → zA t (zs b + 7) j = zA s (zs b + 7) j + nI (pzct R j L)) → zw (K t) Q) :
    ∀ d pre suf M t, pre.length = d → L = pre ++ suf → d < M → zfr [] [zs b + 7] [] s t → (∀ j, j < 10 → zA t (zs b + 7) j = zA s (zs b + 7) j + nI (pzct R j suf)) → zw (zq_loop (bX5_takeWord_15 N f1 K) M (nI suf.length, t)) Q := by
  have c28 : 28 ∉ [zs b + 7] := by cases b <;> decide
  have c2 : zs b + 2 ∉ [zs b + 7] := by simp
  have c3 : zs b + 3 ∉ [zs b + 7] := by simp
  have c11 : zs b + 11 ∉ [zs b + 7] := by simp
  intro d
  induction d with
  | zero =>
    intro pre suf M t h1 h2 hM ft ht
    obtain ⟨M, rfl⟩ : ∃ M', M = M' + 1 := ⟨M - 1, by omega⟩
    have e : pre = [] := List.eq_nil_of_length_eq_zero h1
    subst e
    rw [List.nil_append] at h2
    subst h2
    rw [zq_loop_s]
    dsimp only [bX5_takeWord_15]
    rw [ft.f 26 6 List.not_mem_nil, hd, if_pos (nI_le (Nat.le_refl _) (by omega))]
    exact hK t ft ht
  | succ d ih =>
    intro pre suf M t h1 h2 hM ft ht
    obtain ⟨M, rfl⟩ : ∃ M', M = M' + 1 := ⟨M - 1, by omega⟩
    obtain ⟨c, q, hcq⟩ := pz_snoc pre (by intro y; rw [y] at h1; cases h1)
    subst hcq
    rw [List.length_append, List.length_singleton] at h1
    have h2' : L = c ++ q :: suf := by rw [h2, List.append_assoc]; rfl
    have hlen : L.length = c.length + (suf.length + 1) := by rw [h2', List.length_append, List.length_cons]
    have h28 : zA s 28 suf.length = nI q := by
      rw [h2'] at hL
      exact (pzXs_app c _ hL).1
    obtain ⟨⟨o1, o2, o3, o4, o5, o6⟩, p1, p2⟩ := ho q (by rw [h2']; exact List.mem_append_right _ List.mem_cons_self)
    have hbt : zgb t 2 = b := by rw [ft.b 2]; exact hb
    rw [zq_loop_s]
    dsimp only [bX5_takeWord_15]
    rw [ft.f 26 6 List.not_mem_nil, hd, if_neg (by rw [nI_leI (by omega) (by omega)]; omega), if_neg (by rw [show (8 : Int32) = nI 8 from rfl, nI_leI (by decide) (by omega)]; omega), zck_nI (by omega) (by decide), zga_nI _ _ (by omega), ft.a 28 c28, h28, zck_nI o1 (by decide), hbt, zga_nI _ _ (by omega), ft.a _ c3, o3]
    refine zw_call (mX5_countInside_w N hbt o4 p1 (by rw [ft.a _ c11]; exact p2)) ?_
    intro r u ⟨fu, hu⟩
    dsimp only [zq_let] at fu hu ⊢
    rw [nI_1]
    refine ih c (q :: suf) M u (by omega) h2' (by omega) (ft.tr fu) (fun j hj => ?_)
    rw [hu j hj, ht j hj, Int32.add_assoc, nI_add, pzct, Nat.add_assoc]
