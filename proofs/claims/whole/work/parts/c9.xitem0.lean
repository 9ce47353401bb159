/-! the class: the plain word, done -/
theorem mX5_tok_num (N : Nat) {h : List Nat} {s : zq_S} (hs : zHX h s) {q : Nat} (hf : zfig h q = true) (e : Int32) : mX5_takeToken N (nI q) e s = zq_b2 (mX5_takeNumber N (nI q) e s) (fun r7 s8 => some (r7, s8)) := by
  have hl := hs.2.2.1
  have hq := zfig_lt hf
  have f1 := of_decide_eq_true hf
  unfold mX5_takeToken jX5_takeToken_j34
  rw [mX5_byteAt_eq N hs (by omega), zb2_some]
  dsimp only
  rw [if_neg (by rw [show (32 : Int32) = nI 32 from rfl, nI_eq (by omega) (by decide)]; omega), mX5_isFigure_eq N hs (by omega), hf, zb2_some]
  dsimp only
  rw [zib_t, if_neg (show ¬ (1 : Int32) = 0 by decide)]
theorem pznl_zpn (l : List Nat) (v : Nat) (hv : v < 100) : pznl (zpn l v) = 1 := by
  unfold pznl zpn zdg
  by_cases z : v < 10
  · rw [if_pos z, if_pos]
    rw [pzLast]; omega
  · rw [if_neg z, if_pos]
    rw [show ∀ a : List Nat, a ++ [48 + v / 10, 48 + v % 10] = (a ++ [48 + v / 10]) ++ [48 + v % 10] from fun a => by rw [List.append_assoc]; rfl, pzLast]
    omega
theorem X_word (N : Nat) (hN : 5000 ≤ N) {h : List Nat} {b : Bool} {R : List zIt} {s : zq_S} {q : Nat} (hV : pzV R) (h0 : pzph R = 0) (hs : pzCX h b R 0 s) (hf : zfig h q = true) (hc : pzWc h R q = 0) (hsk : zskp h q = q) (hB : pzB h (pzpr R) q) : zw (mX5_takeToken N (nI q) (nI (znd h q)) s) (fun v => v.1 = 0 ∧ pzFX b s v.2 ∧ pzCX h b ((0, 0, pzv h q, 0, q) :: R) 0 v.2) := by
  have ho := pzCX_o hV hs
  obtain ⟨c1, c2, c3, c4, c5, c6, c7, c8, c9, c10, c11, c12⟩ := hs
  have hl := c1.2.2.1
  have hlen := pz_len hV
  obtain ⟨m1, m2⟩ := pzW_ok hV hc
  obtain ⟨_, n2, n3, n4, n5, _⟩ := pzN_ok hB.2.1 m1 (by decide)
  have eN : znd h q = pze h q := by unfold pze; rw [hsk]
  have eV : zval h q (znd h q) = pzv h q := by unfold pzv; rw [hsk]
  have B2 := pzB_num hB m1 (by decide)
  rw [mX5_tok_num N c1 hf, mX5_numWord N c1 hf (Or.inl c3) c2 c9 (pz_wn hV), eV, eN, if_neg (by rw [hsk] at n4; omega), if_neg (by omega), zw_b2, zw_b2]
  refine zw_mono (mX7_printNumber_w N (b := b) (l := pzpr R) c10 (by omega) (Nat.le_trans B2.1 (Nat.le_trans n2 hl))) ?_
  intro v1 ⟨f1, p1⟩
  have hbt : zgb v1.2 2 = b := by rw [f1.b 2]; exact c2
  have d26 : ∀ j, zgf v1.2 26 j = zgf s 26 j := fun j => f1.f 26 j (by cases b <;> simp [zs])
  have rw2 : ∀ k, k ≠ zs b + 1 → zA v1.2 k = zA s k := fun k hk => f1.a k (by simp; exact hk)
  have r28 : zA v1.2 28 = zA s 28 := rw2 28 (by cases b <;> decide)
  rw [zw_b2]
  refine zw_mono (mX5_takeWord_0 N hN (R := R) (L := pzstk R) (n := R.length) (w := pzwn R) (v := pzv h q) hbt (by rw [d26]; exact c3) (pzXs_eq (s := s) _ (fun d _ => by rw [r28]) c7) (pz_dep hV) (by rw [d26]; exact c4) (fun q' hq' => ?_) (by rw [f1.f (zs b) 6 (by simp)]; exact c8) (by omega) (by rw [f1.f (zs b) 8 (by simp)]; exact c9)) ?_
  · obtain ⟨⟨o1, o2, o3, o4⟩, o5, o6⟩ := ho q' hq'
    exact ⟨⟨o1, by rw [rw2 _ (by omega)]; exact o2, by rw [rw2 _ (by omega)]; exact o3, o4⟩, o5, by rw [rw2 _ (by omega)]; exact o6⟩
  · intro v2 ⟨f2, g6, g8, g7, g2, g3, g4⟩
    refine zw_some.2 (zw_some.2 ?_)
    sorry
