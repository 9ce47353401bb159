/-! the class: the plain word, done -/
theorem mX5_tok_num (N : Nat) {h : List Nat} {s : zq_S} (hs : zHX h s) {q : Nat} (hf : zfig h q = true) (e : Int32) : mX5_takeToken N (nI q) e s = zq_b2 (mX5_takeNumber N (nI q) e s) (fun r7 s8 => some (r7, s8)) := by
  have hl := hs.2.2.1
  have hq := zfig_lt hf
  have f1 := of_decide_eq_true hf
  unfold mX5_takeToken jX5_takeToken_j34
  rw [mX5_byteAt_eq N hs (by omega), zb2_some]
  dsimp only
  rw [if_neg (by rw [show (32 : Int32) = nI 32 from rfl, nI_eq (by omega) (by decide)]; omega), mX5_isFigure_eq N hs (by omega), hf, zb2_some]
  dsimp only
  rw [zib_t, if_neg (show ¬ (1 : Int32) = 0 by decide)]
theorem pznl_zpn (l : List Nat) (v : Nat) (hv : v < 100) : pznl (zpn l v) = 1 := by
  unfold pznl zpn zdg
  by_cases z : v < 10
  · rw [if_pos z, if_pos]
    rw [pzLast]; omega
  · rw [if_neg z, if_pos]
    rw [show ∀ a : List Nat, a ++ [48 + v / 10, 48 + v % 10] = (a ++ [48 + v / 10]) ++ [48 + v % 10] from fun a => by rw [List.append_assoc]; rfl, pzLast]
    omega
theorem X_word (N : Nat) (hN : 5000 ≤ N) {h : List Nat} {b : Bool} {R : List zIt} {s : zq_S} {q : Nat} (hV : pzV R) (h0 : pzph R = 0) (hs : pzCX h b R 0 s) (hf : zfig h q = true) (hc : pzWc h R q = 0) (hsk : zskp h q = q) (hqh : q ≤ h.length) (hlp : (zpn (pzpr R) (pzv h q)).length ≤ 400) : zw (mX5_takeToken N (nI q) (nI (znd h q)) s) (fun v => v.1 = 0 ∧ pzFX b s v.2 ∧ pzCX h b ((0, 0, pzv h q, 0, q) :: R) 0 v.2) := by
  have ho := pzCX_o hV hs
  obtain ⟨c1, c2, c3, c4, c5, c6, c7, c8, c9, c10, c11, c12⟩ := hs
  have hl := c1.2.2.1
  have hlen := pz_len hV
  obtain ⟨m1, m2⟩ := pzW_ok hV hc
  obtain ⟨_, n2, n3, n4, n5, _⟩ := pzN_ok hqh m1 (by decide)
  have eN : znd h q = pze h q := by unfold pze; rw [hsk]
  have eV : zval h q (znd h q) = pzv h q := by unfold pzv; rw [hsk]
  rw [mX5_tok_num N c1 hf, mX5_numWord N c1 hf (Or.inl c3) c2 c9 (pz_wn hV), eV, eN, if_neg (by rw [hsk] at n4; omega), if_neg (by omega), zw_b2, zw_b2]
  refine zw_mono (mX7_printNumber_w N (b := b) (l := pzpr R) c10 (by omega) hlp) ?_
  intro v1 ⟨f1, p1⟩
  have hbt : zgb v1.2 2 = b := by rw [f1.b 2]; exact c2
  have d26 : ∀ j, zgf v1.2 26 j = zgf s 26 j := fun j => f1.f 26 j (by cases b <;> simp [zs])
  have rw2 : ∀ k, k ≠ zs b + 1 → zA v1.2 k = zA s k := fun k hk => f1.a k (by simp; exact hk)
  have r28 : zA v1.2 28 = zA s 28 := rw2 28 (by cases b <;> decide)
  rw [zw_b2]
  refine zw_mono (mX5_takeWord_0 N hN (R := R) (L := pzstk R) (n := R.length) (w := pzwn R) (v := pzv h q) hbt (by rw [d26]; exact c3) (pzXs_eq (s := s) _ (fun d _ => by rw [r28]) c7) (pz_dep hV) (by rw [d26]; exact c4) (fun q' hq' => ?_) (by rw [f1.f (zs b) 6 (by simp)]; exact c8) (by omega) (by rw [f1.f (zs b) 8 (by simp)]; exact c9)) ?_
  · obtain ⟨⟨o1, o2, o3, o4⟩, o5, o6⟩ := ho q' hq'
    exact ⟨⟨o1, by rw [rw2 _ (by omega)]; exact o2, by rw [rw2 _ (by omega)]; exact o3, o4⟩, o5, by rw [rw2 _ (by omega)]; exact o6⟩
  · intro v2 ⟨f2, g6, g8, g7, g2, g3, g4⟩
    refine zw_some.2 (zw_some.2 ?_)
    have F : pzFX b s v2.2 := (f1.mo (by simp) (by simp) (by simp)).tr (f2.mo (by simp) (by simp) (by simp))
    have k26 : ∀ j, zgf v2.2 26 j = zgf s 26 j := fun j => by rw [f2.f 26 j (by cases b <;> simp [zs]), d26]
    have ra : ∀ k, k ≠ zs b + 1 → k ≠ zs b + 2 → k ≠ zs b + 3 → k ≠ zs b + 4 → k ≠ zs b + 7 → zA v2.2 k = zA s k := fun k a1 a2 a3 a4 a5 => by rw [f2.a k (by simp; omega), rw2 k a1]
    have CX : ∀ x : zIt, x.sg = 0 → x.wd = pzv h q → pzpx (pzpr R) x = zpn (pzpr R) (pzv h q) → pzok R x → pzCX h b (x :: R) 0 v2.2 := by
      intro x x1 x2 x3 hok
      have xe : x.sg = 0 ∨ 7 ≤ x.sg := Or.inl x1
      have b0 : zs b = 2 ∨ zs b = 14 := by cases b <;> simp [zs]
      refine ⟨zHX_fr c1 F, ?_, ?_, ?_, ?_, ?_, ?_, ?_, ?_, ?_, ?_, ?_⟩
      · rw [F.b 2]; exact c2
      · rw [k26]; exact c3
      · rw [k26, pzstk_e R xe]; exact c4
      · rw [k26, pzmk_n R (by omega)]; exact c5
      · intro y; exact absurd (pzph_0 R (by omega)) y
      · rw [pzstk_e R xe]
        exact pzXs_eq (s := s) _ (fun d _ => by rw [ra 28 (by omega) (by omega) (by omega) (by omega) (by omega)]) c7
      · exact g6
      · rw [pzwn_y R (by omega)]; exact g8
      · rw [pzpr, x3, pznl_zpn _ _ (by omega)]
        refine ⟨?_, fun i hi => ?_, ?_⟩
        · rw [f2.f (zs b) 1 (by simp)]; exact p1.1
        · rw [f2.a (zs b + 1) (by simp)]; exact p1.2.1 i hi
        · rw [f2.f (zs b) 2 (by simp)]; exact p1.2.2
      · intro k hk
        rw [List.length_cons] at hk
        by_cases z : k < R.length
        · refine pzXi_old (by omega) ⟨hV, hok⟩ z (c11 k z) ?_ ?_ ?_
          · rw [g2, if_neg (by omega), rw2 _ (by omega)]
          · rw [g3 k (by omega), rw2 _ (by omega)]
          · rw [g4, if_neg (by omega), rw2 _ (by omega)]
        · obtain rfl : k = R.length := by omega
          unfold pzXi
          rw [pzat_new, g2, if_pos rfl, g4, if_pos rfl, x1, x2]
          exact ⟨rfl, fun y => by omega, fun _ => rfl, fun y => by omega⟩
      · intro m hm
        refine pzXm_flat (Or.inl x1) (c12 m hm) ?_ ?_ ?_ ?_ ?_ ?_ ?_ ?_ ?_
        · exact ra _ (by omega) (by omega) (by omega) (by omega) (by omega)
        · exact ra _ (by omega) (by omega) (by omega) (by omega) (by omega)
        · rw [g7 m hm, rw2 _ (by omega), (c12 m hm).2.1, nI_add, pzns, if_neg (by omega), if_pos (by omega)]
        · exact ra _ (by omega) (by omega) (by omega) (by omega) (by omega)
        · exact ra _ (by omega) (by omega) (by omega) (by omega) (by omega)
        · exact ra _ (by omega) (by omega) (by omega) (by omega) (by omega)
        · exact ra _ (by omega) (by omega) (by omega) (by omega) (by omega)
        · exact ra 29 (by omega) (by omega) (by omega) (by omega) (by omega)
        · exact ra 30 (by omega) (by omega) (by omega) (by omega) (by omega)
    exact ⟨rfl, F, CX _ rfl rfl rfl (pzok_w h0 (Or.inl rfl) (by omega) m2)⟩
