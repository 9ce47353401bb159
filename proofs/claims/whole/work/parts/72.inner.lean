/-! the class's inner calls, by the invariant -/
abbrev zXG (s t : zq_S) : Prop := zfr [(31, 7), (31, 9)] [37, 41] [40, 55] s t
theorem zXG_Q {s t : zq_S} (h : zXG s t) : zXQ s t := h.mo (by decide) (by decide) (by decide)
/-- row R of the texts is made -/
def zMd (s : zq_S) (R : Nat) : Prop := zA s 41 R ≠ -1
theorem zMd_row {g : zG} {s : zq_S} (h : zXI g s) {R : Nat} (hR : R < 1024) (hm : zMd s R) : zRow false s R (ztx g.T R).length (zgt (ztx g.T R)) := (h.tc R hR).resolve_left hm
theorem zXI_G3 {g : zG} {s : zq_S} (h : zXI g s) (o : Nat → Int32) : zXI g (zG3 s (zli (zgL g.mu g.n (2 ^ g.n)) o) (nI (zgL g.mu g.n (2 ^ g.n)).length)) ∧ zXG s (zG3 s (zli (zgL g.mu g.n (2 ^ g.n)) o) (nI (zgL g.mu g.n (2 ^ g.n)).length)) := by
  have hq : zXG s (zG3 s (zli (zgL g.mu g.n (2 ^ g.n)) o) (nI (zgL g.mu g.n (2 ^ g.n)).length)) := by
    refine ⟨fun k j q => zG3_f _ _ _ ?_, fun i => zG3_b _ _ _ i, fun k q => zG3_A _ _ _ ?_, fun k _ => zG3_L _ _ _ k⟩
    · simp only [List.mem_cons, Prod.mk.injEq, List.not_mem_nil, or_false] at q; omega
    · simp only [List.mem_cons, List.not_mem_nil, or_false] at q; omega
  refine ⟨zXI_Q h (zXG_Q hq) ?_, hq⟩
  obtain ⟨⟨v, h1, h2, h3, h4, h5, h6⟩, h7, h8, h9, h10, h11⟩ := h.ca
  refine ⟨⟨v, h1, ?_, ?_, ?_, ?_, ?_⟩, ?_, ?_, ?_, ?_, ?_⟩
  · rw [hq.f 31 8 (by decide)]; exact h2
  · rw [zG3_9, h2]; exact Or.inr ⟨v, Nat.le_refl _, rfl⟩
  · rw [hq.f 44 5 (by decide)]; exact h4
  · rw [hq.f 46 7 (by decide)]; exact h5
  · rw [hq.f 49 5 (by decide)]; exact h6
  · exact fun _ => ⟨rfl, o, rfl⟩
  · rw [hq.f 44 5 (by decide), hq.f 31 8 (by decide)]
    exact fun q S a b => h8 q S a b
  · exact h9
  · rw [hq.f 46 7 (by decide), hq.f 31 8 (by decide)]
    exact fun m q => h10 m q
  · rw [hq.f 49 5 (by decide), hq.f 31 8 (by decide)]
    exact fun m q => h11 m q
theorem xw_goodCount (N : Nat) (hN : 5000 ≤ N) {g : zG} {s : zq_S} (h : zXI g s) :
    zw (mX3_goodCount N s) (fun v => v.1 = nI (zgL g.mu g.n (2 ^ g.n)).length ∧ zXI g v.2 ∧ zXG s v.2 ∧ zGV v.2 g.n g.mu ∧ zA v.2 41 = zA s 41) := by
  obtain ⟨o, ho⟩ := mX3_goodCount_eq N hN h.xm h.gd
  refine ⟨_, ho, rfl, (zXI_G3 h o).1, (zXI_G3 h o).2, zGV_G3 h.xm o, rfl⟩
theorem xw_goodAt (N : Nat) (hN : 5000 ≤ N) {g : zG} {s : zq_S} (h : zXI g s) {i S : Nat} (hi : (zgL g.mu g.n (2 ^ g.n))[i]? = some S) :
    zw (mX3_goodAt N (nI i) s) (fun v => v.1 = nI S ∧ zXI g v.2 ∧ zXG s v.2 ∧ zA v.2 41 = zA s 41) := by
  have h1 := (List.getElem?_eq_some_iff.mp hi).1
  have hl := zgL_len_le g.mu g.n (2 ^ g.n)
  have hp := zn_pow h.W.n
  have hne : nI i ≠ -1 := nI_nm1 (by omega)
  obtain ⟨s', e, q⟩ := mX3_goodAt_eq N hN h.xm h.gd (nI i) hne
  refine ⟨_, e, ?_, ?_⟩
  · unfold zat
    rw [if_neg hne, if_neg (nI_nneg (by omega)), nI_clamp (by omega), hi]
  · rcases q with rfl | ⟨o, rfl⟩
    · exact ⟨h, zfr_rfl, rfl⟩
    · exact ⟨(zXI_G3 h o).1, (zXI_G3 h o).2, rfl⟩
theorem zWt_fr (T : zSh) (S : Nat) (s : zq_S) : zXG s (zWt T S s) := by
  unfold zWt
  split
  · unfold zTr zrw
    refine ⟨fun _ _ _ => rfl, fun _ => rfl, fun k q => ?_, fun k q => ?_⟩
    · simp only [List.mem_cons, List.not_mem_nil, or_false] at q
      rw [zA_ne _ (show k ≠ zf false + 2 by show k ≠ 41; omega)]
      rfl
    · simp only [List.mem_cons, List.not_mem_nil, or_false] at q
      show zL (zsL s (zf false + 1) _) k = _
      rw [zL_ne _ (show k ≠ zf false + 1 by show k ≠ 40; omega)]
  · exact zfr_rfl
theorem zXI_Wt {g : zG} {s : zq_S} (h : zXI g s) {S : Nat} (hS : S < 1024) : zXI g (zWt g.T S s) := by
  have hq := zWt_fr g.T S s
  refine zXI_Q h (zXG_Q hq) ?_
  have hA : ∀ k, k ≠ 41 → zA (zWt g.T S s) k = zA s k := fun k hk => by
    unfold zWt
    split
    · unfold zTr zrw
      rw [zA_ne _ (show k ≠ zf false + 2 from hk)]
      rfl
    · rfl
  obtain ⟨⟨v, h1, h2, h3, h4, h5, h6⟩, h7, h8, h9, h10, h11⟩ := h.ca
  have hf : ∀ k j, zgf (zWt g.T S s) k j = zgf s k j := fun k j => zWt_F _ _ _ k j
  have hL : zL (zWt g.T S s) 45 = zL s 45 := hq.l 45 (by decide)
  refine ⟨⟨v, h1, ?_, ?_, ?_, ?_, ?_⟩, ?_, ?_, zWt_c h.W.W h.W.w40 h9 hS, ?_, ?_⟩
  · rw [hf]; exact h2
  · rw [hf]; exact h3
  · rw [hf]; exact h4
  · rw [hf]; exact h5
  · rw [hf]; exact h6
  · rw [hf, hf]; intro q; unfold zGD; rw [hf, hA 37 (by decide)]; exact h7 q
  · rw [hf, hf]; intro q; unfold zWV; rw [hL]; exact h8 q
  · rw [hf, hf]; intro m q; unfold zSV; rw [hf, hA 47 (by decide)]; exact h10 m q
  · rw [hf, hf]; intro m q; unfold zVV; rw [hf, hA 50 (by decide)]; exact h11 m q
theorem xw_with (N : Nat) (hN : 5000 ≤ N) {g : zG} {s : zq_S} (h : zXI g s) {S : Nat} (hS : S < 1024) :
    zw (mX9_with N (nI S) s) (fun v => zXI g v.2 ∧ zXG s v.2 ∧ zMd v.2 S ∧ ∀ R, zMd s R → zMd v.2 R) := by
  refine ⟨_, mX9_with_eq N hN h.W.W h.W.w40 h.xs h.r39 hS, zXI_Wt h hS, zWt_fr _ _ _, ?_, fun R hR => ?_⟩
  · unfold zMd
    have hr := zWt_row h.W.W h.W.w40 h.tc hS
    rw [show zA (zWt g.T S s) 41 S = nI (ztx g.T S).length from hr.1]
    exact nI_nm1 (by have := hr.2.1; omega)
  · unfold zMd zWt
    split
    · rename_i e
      unfold zTr zrw
      rw [show (41 : Nat) = zf false + 2 from rfl, zA_self]
      unfold upd
      split
      · have := ztx_len h.W.W h.W.w40 S
        exact nI_nm1 (by omega)
      · exact hR
    · exact hR
theorem zXI.f39 {g : zG} {s : zq_S} (h : zXI g s) : zgf s (zf false) 0 = nI (zfS false) := h.r39
theorem zXI.f51 {g : zG} {s : zq_S} (h : zXI g s) : zgf s (zf true) 0 = nI (zfS true) := h.c3.1
theorem zdS_fr (n : Nat) (w : Nat → Nat) (s : zq_S) : zXG s (zdS n w s) := by
  unfold zdS
  split
  · exact zfr_rfl
  · exact zfr_sL 55 _ (by decide)
theorem zXI_dS {g : zG} {s : zq_S} (h : zXI g s) (n : Nat) (w : Nat → Nat) : zXI g (zdS n w s) := by
  unfold zdS
  split
  · exact h
  · exact zXI_room h (zfr_sL 55 _ (by decide))
/-- lists as rows -/
theorem zgt_eq {l : List Nat} {i : Nat} (h : i < l.length) : zgt l i = l[i] := by unfold zgt; rw [List.getD_eq_getElem?_getD, List.getElem?_eq_getElem h]; rfl
theorem zl_eq {a b : List Nat} : (a.length = b.length ∧ ∀ i, i < a.length → zgt a i = zgt b i) ↔ a = b := by
  constructor
  · rintro ⟨h1, h2⟩
    refine List.ext_getElem h1 (fun i p q => ?_)
    have := h2 i p
    rw [zgt_eq p, zgt_eq q] at this
    exact this
  · rintro rfl
    exact ⟨rfl, fun _ _ => rfl⟩
theorem mX8_isAlike_l (N : Nat) (hN : 5000 ≤ N) {b c : Bool} {s : zq_S} (hF : zgf s (zf b) 0 = nI (zfS b)) (hG : zgf s (zf c) 0 = nI (zfS c)) {r t : Nat} {w u : List Nat}
    (hr : r < zfS b) (h : zRow b s r w.length (zgt w)) (ht : t < zfS c) (h2 : zRow c s t u.length (zgt u)) :
    mX8_isAlike N b c (nI r) (nI t) s = some (if w = u then 1 else 0, s) := by
  rw [mX8_isAlike_eq N hN hF hG hr h ht h2]
  congr 2
  exact zif_iff zl_eq
