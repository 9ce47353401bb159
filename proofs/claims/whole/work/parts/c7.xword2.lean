/-! the class: a plain word -/
theorem pzba_n {x : zIt} (R : List zIt) {m : Nat} (h1 : ¬ pztl x m) (h2 : ¬ (x.sg = 7 ∧ x.mk = m)) : pzba (x :: R) m = pzba R m := by
  rw [pzba, if_neg (fun y => y.elim h1 h2), if_neg (fun y => h1 (Or.inr y)), if_neg (fun y => h1 (Or.inl ⟨Or.inr y.1, y.2⟩)), Nat.or_zero, Nat.or_zero, Nat.or_zero]
theorem pzkd_n {x : zIt} (R : List zIt) {m : Nat} (h1 : ¬ pztl x m) : pzkd (x :: R) m = pzkd R m := by
  rw [pzkd, if_neg (fun y => h1 (Or.inr y)), if_neg h1]
theorem pzdp_n {x : zIt} (R : List zIt) {m : Nat} (h1 : ¬ pztl x m) : pzdp (x :: R) m = pzdp R m := by
  rw [pzdp, if_neg h1]
theorem pzsd_n {x : zIt} (R : List zIt) {m : Nat} (h1 : ¬ pztl x m) : pzsd (x :: R) m = pzsd R m := by
  rw [pzsd, if_neg (fun y => h1 (Or.inl ⟨Or.inl (by omega), y.2⟩))]
theorem pzop_n {x : zIt} (R : List zIt) {m : Nat} (h1 : x.sg ≠ 3) : pzop (x :: R) m = pzop R m := by rw [pzop, if_neg (fun y => h1 y.1)]
theorem pzsx_n {x : zIt} (R : List zIt) {m : Nat} (h1 : x.sg ≠ 7) : pzsx (x :: R) m = pzsx R m := by rw [pzsx, if_neg (fun y => h1 y.1)]
/-- marks, when an item comes that tells none: only the words within change -/
theorem pzXm_flat {b : Bool} {x : zIt} {R : List zIt} {s t : zq_S} {m : Nat} (hx : x.sg = 0 ∨ x.sg = 8 ∨ x.sg = 10 ∨ (4 ≤ x.sg ∧ x.sg ≤ 6)) (h : pzXm b R s m)
    (e5 : zA t (zs b + 5) = zA s (zs b + 5)) (e6 : zA t (zs b + 6) = zA s (zs b + 6)) (e7 : zA t (zs b + 7) m = nI (pzns (x :: R) m)) (e8 : zA t (zs b + 8) = zA s (zs b + 8)) (e9 : zA t (zs b + 9) = zA s (zs b + 9)) (e10 : zA t (zs b + 10) = zA s (zs b + 10)) (e11 : zA t (zs b + 11) = zA s (zs b + 11)) (e29 : zA t 29 = zA s 29) (e30 : zA t 30 = zA s 30) : pzXm b (x :: R) t m := by
  obtain ⟨a1, a2, a3, a4, a5, a6, a7, a8⟩ := h
  have nt : ¬ pztl x m := by rintro (y | y) <;> omega
  unfold pzXm
  rw [e5, e6, e7, e8, e9, e10, e11, e29, e30, pzba_n R nt (by omega), pzsd_n R nt, pzkd_n R nt, pzdp_n R nt, pzop_n R (by omega), pzsx_n R (by omega), pzmk_n R (by omega), pzmv_n R (by omega), pzsr_n R (by omega)]
  refine ⟨a1, rfl, a3, a4, a5, a6, ?_, ?_⟩
  · rw [a7]
    cases y : (pzsr R).testBit m with
    | false => rfl
    | true => rw [if_pos rfl, if_pos rfl, pzat_old x (pz_sx y).1]
  · rw [a8]
    cases y : (pzmv R).testBit m with
    | false => rfl
    | true => rw [if_pos rfl, if_pos rfl, pzat_old x (pz_op y).1]
/-- items, when an item comes that closes nothing -/
theorem pzXi_old {b : Bool} {x : zIt} {R : List zIt} {s t : zq_S} {k : Nat} (hx : ¬ (4 ≤ x.sg ∧ x.sg ≤ 6)) (hV : pzV (x :: R)) (hk : k < R.length) (h : pzXi b R s k) (e2 : zA t (zs b + 2) k = zA s (zs b + 2) k) (e3 : zA t (zs b + 3) k = zA s (zs b + 3) k) (e4 : zA t (zs b + 4) k = zA s (zs b + 4) k) : pzXi b (x :: R) t k := by
  obtain ⟨a1, a2, a3, a4⟩ := h
  unfold pzXi
  rw [pzat_old x hk, e2, e3, e4]
  refine ⟨a1, a2, a3, fun y y2 => ?_⟩
  rw [pzlk_old (fun w => hx ⟨w.1, w.2.1⟩) ?_]
  · refine a4 y (fun w => y2 ?_)
    rcases pz_cases x with v | v | v
    · rw [pzstk_o R v]; exact List.mem_cons_of_mem _ w
    · exact absurd v hx
    · rw [pzstk_e R v]; exact w
  · rintro ⟨w1, w2⟩
    have := (pzrw_ok hV.1 (pz_10 hV.2 w1)).2.1
    rw [w2] at this
    omega
/-- the open brackets of a state that holds R -/
theorem pzCX_o {h : List Nat} {b : Bool} {R : List zIt} {st : Int32} {s : zq_S} (hV : pzV R) (hs : pzCX h b R st s) : ∀ q, q ∈ pzstk R → pzXo b R s q ∧ (pzat R q).sd ≤ 10 ∧ zA s (zs b + 11) (pzat R q).mk = if (pzat R q).sd = 0 then -1 else nI ((pzat R q).sd - 1) := by
  intro q hq
  obtain ⟨c1, c2, c3, c4, c5, c6, c7, c8, c9, c10, c11, c12⟩ := hs
  have hm := pzstk_mem hV hq
  have hok := pzV_at hV hm.1
  have hlen := pz_len hV
  obtain ⟨i1, i2, _⟩ := c11 q hm.1
  refine ⟨⟨by omega, i1, i2 (Or.inl (by omega)), hok.1.2.1, hm.2.1, hm.2.2⟩, hok.1.2.2.2.1, ?_⟩
  rw [(c12 _ hok.1.2.1).2.2.1, pzsd_at hV hm.1 hm.2]
  by_cases z : (pzat R q).sd = 0
  · rw [if_pos z, if_pos z]; rfl
  · rw [if_neg z, if_neg z]; rfl
