/-! the class: what the marks' rows hold when an item has come -/
theorem pzXo_of {b : Bool} {R : List zIt} {s : zq_S} (hV : pzV R) (hi : ∀ k, k < R.length → pzXi b R s k) : ∀ q, q ∈ pzstk R → pzXo b R s q := by
  intro q hq
  have hm := pzstk_mem hV hq
  have hok := pzV_at hV hm.1
  have hlen := pz_len hV
  obtain ⟨i1, i2, _⟩ := hi q hm.1
  exact ⟨by omega, i1, i2 (Or.inl (by omega)), hok.1.2.1, hm.2.1, hm.2.2⟩
theorem pzXw_of {b : Bool} {R : List zIt} {s : zq_S} (hV : pzV R) (hi : ∀ k, k < R.length → pzXi b R s k) (h11 : ∀ m, m < 10 → zA s (zs b + 11) m = pzoi (pzsd R m)) : ∀ q, q ∈ pzstk R → pzXo b R s q ∧ (pzat R q).sd ≤ 10 ∧ zA s (zs b + 11) (pzat R q).mk = if (pzat R q).sd = 0 then -1 else nI ((pzat R q).sd - 1) := by
  intro q hq
  have hm := pzstk_mem hV hq
  have hok := pzV_at hV hm.1
  refine ⟨pzXo_of hV hi q hq, hok.1.2.2.2.1, ?_⟩
  rw [h11 _ hok.1.2.1, pzsd_at hV hm.1 hm.2]
  by_cases z : (pzat R q).sd = 0
  · rw [if_pos z, if_pos z]; rfl
  · rw [if_neg z, if_neg z]; rfl
theorem pzXm_open {b : Bool} {R : List zIt} {x : zIt} {s t : zq_S} {m : Nat} (hx : pzok R x) (x1 : 1 ≤ x.sg ∧ x.sg ≤ 3) (x0 : x.sd = 0) (hs : pzXm b R s m)
    (e5 : zA t (zs b + 5) m = if m = x.mk then (if x.sg = 1 then 0 else if x.sg = 2 then 1 else 3) else zA s (zs b + 5) m)
    (e6 : zA t (zs b + 6) m = if m = x.mk then zA s (zs b + 6) m ||| nI (pzar R) else zA s (zs b + 6) m)
    (e7 : zA t (zs b + 7) m = zA s (zs b + 7) m)
    (e8 : zA t (zs b + 8) m = if m = x.mk then nI (pzstk R).length else zA s (zs b + 8) m)
    (e9 : zA t (zs b + 9) m = if m = x.mk then nI R.length else zA s (zs b + 9) m)
    (e10 : zA t (zs b + 10) m = zA s (zs b + 10) m) (e11 : zA t (zs b + 11) m = zA s (zs b + 11) m) (e29 : zA t 29 m = zA s 29 m)
    (e30 : zA t 30 m = if x.sg = 3 ∧ m = x.mk then nI x.ps else zA s 30 m) : pzXm b (x :: R) t m := by
  obtain ⟨a1, a2, a3, a4, a5, a6, a7, a8⟩ := hs
  have fresh := (hx.2.2.1 x1).2.1
  have ns : pzns (x :: R) m = pzns R m := by rw [pzns, if_neg (by omega), if_neg (by omega), Nat.add_zero]
  have sr : pzsr (x :: R) = pzsr R := pzsr_n R (by omega)
  have sx : pzsx (x :: R) m = pzsx R m := pzsx_n R (by omega)
  have r29 : zA t 29 m = (if (pzsr (x :: R)).testBit m then nI (pzat (x :: R) (pzsx (x :: R) m)).ps else -1) := by
    rw [e29, a7, sr, sx]
    cases y : (pzsr R).testBit m with
    | false => rfl
    | true => rw [if_pos rfl, if_pos rfl, pzat_old x (pz_sx y).1]
  have r10 : (pzsr (x :: R)).testBit m = true → zA t (zs b + 10) m = nI (pzsx (x :: R) m) := by
    rw [sr, sx, e10]; exact a6
  by_cases y : m = x.mk
  · subst y
    have tl : pztl x x.mk := Or.inl ⟨Or.inl x1, rfl⟩
    have nmv : (pzmv R).testBit x.mk = false := by
      cases w : (pzmv R).testBit x.mk with
      | false => rfl
      | true => rw [pzmv_mk w] at fresh; cases fresh
    refine ⟨?_, by rw [e7, ns]; exact a2, ?_, fun _ => ⟨?_, ?_⟩, fun w => ?_, r10, r29, ?_⟩
    · rw [e6, if_pos rfl, a1, zn_or, pzba, if_pos (Or.inl tl), if_neg (fun w => by omega), if_neg (fun w => by omega), Nat.or_zero, Nat.or_zero]
    · rw [e11, a3]
      by_cases w : x.sg = 2
      · rw [pzsd, if_pos ⟨w, rfl⟩, if_pos x0, pzsd_none fresh]
      · rw [pzsd, if_neg (fun v => w v.1)]
    · rw [e5, if_pos rfl, pzkd, if_neg (show ¬ (x.sg = 2 ∧ x.sd = x.mk + 1) by omega), if_pos tl]
      rcases (show x.sg = 1 ∨ x.sg = 2 ∨ x.sg = 3 by omega) with w | w | w <;> rw [w] <;> rfl
    · rw [e8, if_pos rfl, pzdp, if_pos tl]
    · rw [e9, if_pos rfl, pzop]
      by_cases v : x.sg = 3
      · rw [if_pos ⟨v, rfl⟩]
      · rw [pzmv_n R v, nmv] at w; cases w
    · rw [e30]
      by_cases v : x.sg = 3
      · rw [if_pos ⟨v, rfl⟩, pzmv_s, decide_eq_true (show x.sg = 3 ∧ x.mk = x.mk from ⟨v, rfl⟩), Bool.or_true, if_pos rfl, pzop, if_pos ⟨v, rfl⟩, pzat_new]
      · rw [if_neg (fun w => v w.1), pzmv_n R v, nmv, a8, nmv]; rfl
  · have nt : ¬ pztl x m := by rintro (w | w) <;> omega
    have mk : (pzmk (x :: R)).testBit m = (pzmk R).testBit m := by rw [pzmk_t, decide_eq_false nt, Bool.or_false]
    have mv : (pzmv (x :: R)).testBit m = (pzmv R).testBit m := by rw [pzmv_s, decide_eq_false (fun w => y w.2.symm), Bool.or_false]
    have op : pzop (x :: R) m = pzop R m := by rw [pzop, if_neg (fun w => y w.2.symm)]
    rw [if_neg y] at e5 e6 e8 e9
    rw [if_neg (fun w => y w.2)] at e30
    refine ⟨?_, by rw [e7, ns]; exact a2, ?_, fun w => ⟨?_, ?_⟩, fun w => ?_, r10, r29, ?_⟩
    · rw [e6, pzba_n R nt (by omega)]; exact a1
    · rw [e11, pzsd_n R nt]; exact a3
    · rw [e5, pzkd_n R nt]; rw [mk] at w; exact (a4 w).1
    · rw [e8, pzdp_n R nt]; rw [mk] at w; exact (a4 w).2
    · rw [e9, op]; rw [mv] at w; exact a5 w
    · rw [e30, a8, mv, op]
      cases w : (pzmv R).testBit m with
      | false => rfl
      | true => rw [if_pos rfl, if_pos rfl, pzat_old x (pz_op w).1]
theorem pzXm_stand {b : Bool} {R : List zIt} {x y : zIt} {s t : zq_S} {m d : Nat} (hy : pzok R y) (x1 : x.sg = 2) (y1 : y.sg = 2) (x0 : x.sd = 0) (y0 : y.sd = d + 1) (xy : x.mk = y.mk) (hs : pzXm b (x :: R) s m)
    (e5 : zA t (zs b + 5) m = if m = d then 2 else zA s (zs b + 5) m)
    (e6 : zA t (zs b + 6) m = if m = d then zA s (zs b + 6) m ||| nI (pzar R ||| 2 ^ y.mk) else zA s (zs b + 6) m)
    (e7 : zA t (zs b + 7) m = zA s (zs b + 7) m)
    (e8 : zA t (zs b + 8) m = if m = d then nI (pzstk R).length else zA s (zs b + 8) m)
    (e9 : zA t (zs b + 9) m = zA s (zs b + 9) m)
    (e10 : zA t (zs b + 10) m = zA s (zs b + 10) m) (e11 : zA t (zs b + 11) m = if m = y.mk then nI d else zA s (zs b + 11) m) (e29 : zA t 29 m = zA s 29 m)
    (e30 : zA t 30 m = zA s 30 m) : pzXm b (y :: R) t m := by
  obtain ⟨a1, a2, a3, a4, a5, a6, a7, a8⟩ := hs
  have f2 := (hy.2.2.1 (by omega)).2.2 (by omega)
  rw [y0, Nat.add_sub_cancel] at f2
  have ns : pzns (y :: R) m = pzns (x :: R) m := by rw [pzns, if_neg (by omega), if_neg (by omega), pzns, if_neg (by omega), if_neg (by omega)]
  have sr : pzsr (y :: R) = pzsr (x :: R) := by rw [pzsr_n R (by omega), pzsr_n R (by omega)]
  have mv : pzmv (y :: R) = pzmv (x :: R) := by rw [pzmv_n R (by omega), pzmv_n R (by omega)]
  have sx : pzsx (y :: R) m = pzsx (x :: R) m := by rw [pzsx_n R (by omega), pzsx_n R (by omega)]
  have op : pzop (y :: R) m = pzop (x :: R) m := by rw [pzop_n R (by omega), pzop_n R (by omega)]
  have at7 : ∀ k, k < R.length → pzat (y :: R) k = pzat (x :: R) k := fun k hk => by rw [pzat_old y hk, pzat_old x hk]
  have r29 : zA t 29 m = (if (pzsr (y :: R)).testBit m then nI (pzat (y :: R) (pzsx (y :: R) m)).ps else -1) := by
    rw [e29, a7, sr, sx]
    cases w : (pzsr (x :: R)).testBit m with
    | false => rfl
    | true =>
      rw [pzsr_n R (by omega)] at w
      rw [if_pos rfl, if_pos rfl, pzsx_n R (by omega), at7 _ (pz_sx w).1]
  have r30 : zA t 30 m = (if (pzmv (y :: R)).testBit m then nI (pzat (y :: R) (pzop (y :: R) m)).ps else -1) := by
    rw [e30, a8, mv, op]
    cases w : (pzmv (x :: R)).testBit m with
    | false => rfl
    | true =>
      rw [pzmv_n R (by omega)] at w
      rw [if_pos rfl, if_pos rfl, pzop_n R (by omega), at7 _ (pz_op w).1]
  have r10 : (pzsr (y :: R)).testBit m = true → zA t (zs b + 10) m = nI (pzsx (y :: R) m) := by rw [sr, sx, e10]; exact a6
  have r9 : (pzmv (y :: R)).testBit m = true → zA t (zs b + 9) m = nI (pzop (y :: R) m) := by rw [mv, op, e9]; exact a5
  have r11 : zA t (zs b + 11) m = pzoi (pzsd (y :: R) m) := by
    rw [e11]
    by_cases w : m = y.mk
    · rw [if_pos w, pzsd, if_pos ⟨y1, w.symm⟩, if_neg (by omega), y0]; rfl
    · rw [if_neg w, a3, pzsd, if_neg (fun v => w (by omega)), pzsd, if_neg (fun v => w (by omega))]
  by_cases z : m = d
  · subst z
    have tl : pztl y m := Or.inr ⟨y1, y0⟩
    have nx : ¬ pztl x m := by rintro (w | w) <;> omega
    refine ⟨?_, by rw [e7, ns]; exact a2, r11, fun _ => ⟨?_, ?_⟩, r9, r10, r29, r30⟩
    · rw [e6, if_pos rfl, a1, zn_or, pzba_n R nx (by omega), pzba, if_pos (Or.inl tl), if_pos ⟨y1, y0⟩, if_neg (by omega), Nat.or_zero, Nat.or_assoc]
    · rw [e5, if_pos rfl, pzkd, if_pos ⟨y1, y0⟩]; rfl
    · rw [e8, if_pos rfl, pzdp, if_pos tl]
  · rw [if_neg z] at e5 e6 e8
    have tt : pztl y m ↔ pztl x m := by
      constructor
      · rintro (w | w)
        · exact Or.inl ⟨Or.inl (by omega), by omega⟩
        · omega
      · rintro (w | w)
        · exact Or.inl ⟨Or.inl (by omega), by omega⟩
        · omega
    have mk : (pzmk (y :: R)).testBit m = (pzmk (x :: R)).testBit m := by
      rw [pzmk_t, pzmk_t]
      by_cases w : pztl x m
      · rw [decide_eq_true w, decide_eq_true (tt.2 w)]
      · rw [decide_eq_false w, decide_eq_false (fun v => w (tt.1 v))]
    refine ⟨?_, by rw [e7, ns]; exact a2, r11, fun w => ⟨?_, ?_⟩, r9, r10, r29, r30⟩
    · rw [e6, a1, pzba, pzba]
      by_cases w : pztl x m
      · rw [if_pos (show pztl x m ∨ (x.sg = 7 ∧ x.mk = m) from Or.inl w), if_pos (show pztl y m ∨ (y.sg = 7 ∧ y.mk = m) from Or.inl (tt.2 w)), if_neg (show ¬ (x.sg = 2 ∧ x.sd = m + 1) by omega), if_neg (show ¬ (y.sg = 2 ∧ y.sd = m + 1) by omega), if_neg (show ¬ (x.sg = 9 ∧ x.mk = m) by omega), if_neg (show ¬ (y.sg = 9 ∧ y.mk = m) by omega)]
      · rw [if_neg (show ¬ (pztl x m ∨ (x.sg = 7 ∧ x.mk = m)) from fun v => v.elim w (fun v => by omega)), if_neg (show ¬ (pztl y m ∨ (y.sg = 7 ∧ y.mk = m)) from fun v => v.elim (fun v => w (tt.1 v)) (fun v => by omega)), if_neg (show ¬ (x.sg = 2 ∧ x.sd = m + 1) by omega), if_neg (show ¬ (y.sg = 2 ∧ y.sd = m + 1) by omega), if_neg (show ¬ (x.sg = 9 ∧ x.mk = m) by omega), if_neg (show ¬ (y.sg = 9 ∧ y.mk = m) by omega)]
    · rw [mk] at w
      rw [e5, (a4 w).1, pzkd, if_neg (show ¬ (x.sg = 2 ∧ x.sd = m + 1) by omega), pzkd, if_neg (show ¬ (y.sg = 2 ∧ y.sd = m + 1) by omega)]
      by_cases v : pztl x m
      · rw [if_pos v, if_pos (tt.2 v), x1, y1]
      · rw [if_neg v, if_neg (fun u => v (tt.1 u))]
    · rw [mk] at w
      rw [e8, (a4 w).2, pzdp, pzdp]
      by_cases v : pztl x m
      · rw [if_pos v, if_pos (tt.2 v)]
      · rw [if_neg v, if_neg (fun u => v (tt.1 u))]
theorem pzXm_star {b : Bool} {R : List zIt} {x : zIt} {s t : zq_S} {m : Nat} (x1 : x.sg = 7) (hs : pzXm b R s m)
    (e5 : zA t (zs b + 5) m = zA s (zs b + 5) m)
    (e6 : zA t (zs b + 6) m = if m = x.mk then zA s (zs b + 6) m ||| nI (pzar R) else zA s (zs b + 6) m)
    (e7 : zA t (zs b + 7) m = zA s (zs b + 7) m) (e8 : zA t (zs b + 8) m = zA s (zs b + 8) m) (e9 : zA t (zs b + 9) m = zA s (zs b + 9) m)
    (e10 : zA t (zs b + 10) m = if m = x.mk then nI R.length else zA s (zs b + 10) m) (e11 : zA t (zs b + 11) m = zA s (zs b + 11) m) (e29 : zA t 29 m = if m = x.mk then nI x.ps else zA s 29 m)
    (e30 : zA t 30 m = zA s 30 m) : pzXm b (x :: R) t m := by
  obtain ⟨a1, a2, a3, a4, a5, a6, a7, a8⟩ := hs
  have nt : ¬ pztl x m := by rintro (w | w) <;> omega
  have ns : pzns (x :: R) m = pzns R m := by rw [pzns, if_neg (by omega), if_neg (by omega), Nat.add_zero]
  have mk : pzmk (x :: R) = pzmk R := pzmk_n R (by omega)
  have mv : pzmv (x :: R) = pzmv R := pzmv_n R (by omega)
  have op : pzop (x :: R) m = pzop R m := pzop_n R (by omega)
  refine ⟨?_, by rw [e7, ns]; exact a2, by rw [e11, pzsd_n R nt]; exact a3, ?_, by rw [mv, op, e9]; exact a5, ?_, ?_, ?_⟩
  · rw [e6, a1, pzba, if_neg (show ¬ (x.sg = 2 ∧ x.sd = m + 1) by omega), if_neg (show ¬ (x.sg = 9 ∧ x.mk = m) by omega), Nat.or_zero, Nat.or_zero]
    by_cases y : m = x.mk
    · rw [if_pos y, if_pos (show pztl x m ∨ (x.sg = 7 ∧ x.mk = m) from Or.inr ⟨x1, y.symm⟩), zn_or]
    · rw [if_neg y, if_neg (show ¬ (pztl x m ∨ (x.sg = 7 ∧ x.mk = m)) from fun v => v.elim nt (fun v => y v.2.symm)), Nat.or_zero]
  · rw [mk, e5, e8, pzkd_n R nt, pzdp_n R nt]; exact a4
  · rw [e10]
    by_cases y : m = x.mk
    · rw [if_pos y, pzsx, if_pos ⟨x1, y.symm⟩]; exact fun _ => rfl
    · rw [if_neg y, pzsx, if_neg (fun v => y v.2.symm), pzsr_s, decide_eq_false (fun v => y v.2.symm), Bool.or_false]; exact a6
  · rw [e29]
    by_cases y : m = x.mk
    · rw [if_pos y, pzsr_s, decide_eq_true (show x.sg = 7 ∧ x.mk = m from ⟨x1, y.symm⟩), Bool.or_true, if_pos rfl, pzsx, if_pos ⟨x1, y.symm⟩, pzat_new]
    · rw [if_neg y, a7, pzsx, if_neg (show ¬ (x.sg = 7 ∧ x.mk = m) from fun v => y v.2.symm), pzsr_s, decide_eq_false (show ¬ (x.sg = 7 ∧ x.mk = m) from fun v => y v.2.symm), Bool.or_false]
      cases w : (pzsr R).testBit m with
      | false => rfl
      | true => rw [if_pos rfl, if_pos rfl, pzat_old x (pz_sx w).1]
  · rw [e30, a8, mv, op]
    cases w : (pzmv R).testBit m with
    | false => rfl
    | true => rw [if_pos rfl, if_pos rfl, pzat_old x (pz_op w).1]
theorem pzXm_over {b : Bool} {R : List zIt} {x : zIt} {s t : zq_S} {m : Nat} (x1 : x.sg = 9) (hs : pzXm b R s m)
    (e5 : zA t (zs b + 5) m = if m = x.mk then 4 else zA s (zs b + 5) m)
    (e6 : zA t (zs b + 6) m = if m = x.mk then zA s (zs b + 6) m ||| nI (pzar R ||| pzlr R) else zA s (zs b + 6) m)
    (e7 : zA t (zs b + 7) m = nI (pzns (x :: R) m)) (e8 : zA t (zs b + 8) m = if m = x.mk then nI (pzstk R).length else zA s (zs b + 8) m) (e9 : zA t (zs b + 9) m = zA s (zs b + 9) m)
    (e10 : zA t (zs b + 10) m = zA s (zs b + 10) m) (e11 : zA t (zs b + 11) m = zA s (zs b + 11) m) (e29 : zA t 29 m = zA s 29 m)
    (e30 : zA t 30 m = zA s 30 m) : pzXm b (x :: R) t m := by
  obtain ⟨a1, a2, a3, a4, a5, a6, a7, a8⟩ := hs
  have mv : pzmv (x :: R) = pzmv R := pzmv_n R (by omega)
  have op : pzop (x :: R) m = pzop R m := pzop_n R (by omega)
  have sr : pzsr (x :: R) = pzsr R := pzsr_n R (by omega)
  have sx : pzsx (x :: R) m = pzsx R m := pzsx_n R (by omega)
  have tt : pztl x m ↔ m = x.mk := by
    constructor
    · rintro (w | w) <;> omega
    · intro w; exact Or.inl ⟨Or.inr x1, w.symm⟩
  refine ⟨?_, e7, ?_, ?_, by rw [mv, op, e9]; exact a5, by rw [sr, sx, e10]; exact a6, ?_, ?_⟩
  · rw [e6, a1, pzba, if_neg (show ¬ (x.sg = 2 ∧ x.sd = m + 1) by omega), Nat.or_zero]
    by_cases y : m = x.mk
    · rw [if_pos y, if_pos (Or.inl (tt.2 y)), if_pos ⟨x1, y.symm⟩, zn_or, Nat.or_assoc]
    · rw [if_neg y, if_neg (fun v => v.elim (fun v => y (tt.1 v)) (by omega)), if_neg (fun v => y v.2.symm), Nat.or_zero, Nat.or_zero]
  · rw [e11, a3, pzsd, if_neg (by omega)]
  · rw [pzmk_t, e5, e8]
    by_cases y : m = x.mk
    · rw [if_pos y, if_pos y, pzkd, if_neg (by omega), if_pos (tt.2 y), pzdp, if_pos (tt.2 y), if_neg (show ¬ x.sg = 1 by omega), if_neg (show ¬ x.sg = 2 by omega), if_neg (show ¬ x.sg = 3 by omega)]
      exact fun _ => ⟨rfl, rfl⟩
    · rw [if_neg y, if_neg y, decide_eq_false (fun v => y (tt.1 v)), Bool.or_false, pzkd_n R (fun v => y (tt.1 v)), pzdp_n R (fun v => y (tt.1 v))]
      exact a4
  · rw [e29, a7, sr, sx]
    cases w : (pzsr R).testBit m with
    | false => rfl
    | true => rw [if_pos rfl, if_pos rfl, pzat_old x (pz_sx w).1]
  · rw [e30, a8, mv, op]
    cases w : (pzmv R).testBit m with
    | false => rfl
    | true => rw [if_pos rfl, if_pos rfl, pzat_old x (pz_op w).1]
