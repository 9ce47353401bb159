/-! views -/
noncomputable def zhh (g : zG) (R : Nat) : Nat := zsc (ztx g.T R)
/-- the table holds the sets of acc -/
def zTb (g : zG) (acc : List Nat) (f : Nat → Int64) : Prop :=
  (∀ q, q < 2048 → f q = -1 ∨ ∃ R, R ∈ acc ∧ f q = lN R) ∧
  (∀ R, R ∈ acc → ∃ d, d < 2048 ∧ f ((zhh g R + d) % 2048) = lN R ∧ ∀ e, e < d → f ((zhh g R + e) % 2048) ≠ -1) ∧
  zcn (fun q => decide (f q ≠ -1)) 2048 ≤ acc.length
theorem zcn_pt {P Q : Nat → Bool} {p : Nat} : ∀ n, (∀ q, q ≠ p → Q q = P q) → zcn Q n ≤ zcn P n + 1 ∧ (n ≤ p → zcn Q n = zcn P n) := by
  intro n
  induction n with
  | zero => intro _; exact ⟨by simp [zcn], fun _ => rfl⟩
  | succ n ih =>
    intro h
    obtain ⟨a, b⟩ := ih h
    unfold zcn
    by_cases e : n = p
    · refine ⟨?_, fun q => by omega⟩
      rw [b (by omega)]
      split <;> split <;> omega
    · rw [h n e]
      refine ⟨by omega, fun q => by rw [b (by omega)]⟩
theorem zcn_all {P : Nat → Bool} : ∀ n, (∀ q, q < n → P q = true) → zcn P n = n := by
  intro n
  induction n with
  | zero => intro _; rfl
  | succ n ih =>
    intro h
    unfold zcn
    rw [ih (fun q hq => h q (by omega)), if_pos (h n (by omega))]
theorem zTb_free {g : zG} {acc : List Nat} {f : Nat → Int64} (h : zTb g acc f) (hl : acc.length < 2048) : ∃ q, q < 2048 ∧ f q = -1 := by
  apply Classical.byContradiction
  intro z
  have : zcn (fun q => decide (f q ≠ -1)) 2048 = 2048 := zcn_all 2048 (fun q hq => decide_eq_true (fun e => z ⟨q, hq, e⟩))
  have := h.2.2
  omega
theorem zTb_nil (g : zG) {f : Nat → Int64} (h : ∀ q, q < 2048 → f q = -1) : zTb g [] f := by
  refine ⟨fun q hq => Or.inl (h q hq), fun R hR => absurd hR (List.not_mem_nil), ?_⟩
  have : ∀ n, n ≤ 2048 → zcn (fun q => decide (f q ≠ -1)) n = 0 := by
    intro n
    induction n with
    | zero => intro _; rfl
    | succ n ih =>
      intro hn
      unfold zcn
      rw [ih (by omega), h n (by omega)]
      rfl
  rw [this 2048 (Nat.le_refl _)]
  exact Nat.zero_le _
theorem zlN_ne {R : Nat} (h : R < 2 ^ 63) : lN R ≠ -1 := by
  intro e
  have := congrArg Int64.toInt e
  rw [pk_lT h] at this
  have e2 : (-1 : Int64).toInt = -1 := rfl
  omega
theorem zTb_put {g : zG} {acc : List Nat} {f : Nat → Int64} (h : zTb g acc f) (hm : ∀ R, R ∈ acc → R < 1024) {S d : Nat} (hS : S < 1024) (hd : d < 2048) (hf : f ((zhh g S + d) % 2048) = -1) (hp : ∀ e, e < d → f ((zhh g S + e) % 2048) ≠ -1) : zTb g (acc ++ [S]) (vp_updL f ((zhh g S + d) % 2048) (lN S)) := by
  have hne := zlN_ne (R := S) (by omega)
  have up : ∀ q, f q ≠ -1 → vp_updL f ((zhh g S + d) % 2048) (lN S) q ≠ -1 := by
    intro q hq
    unfold vp_updL
    split
    · exact hne
    · exact hq
  refine ⟨fun q hq => ?_, fun R hR => ?_, ?_⟩
  · unfold vp_updL
    split
    · exact Or.inr ⟨S, List.mem_append_right _ (List.mem_singleton.mpr rfl), rfl⟩
    · rcases h.1 q hq with e | ⟨R, e1, e2⟩
      · exact Or.inl e
      · exact Or.inr ⟨R, List.mem_append_left _ e1, e2⟩
  · rcases List.mem_append.mp hR with q | q
    · obtain ⟨k, k1, k2, k3⟩ := h.2.1 R q
      refine ⟨k, k1, ?_, fun e he => up _ (k3 e he)⟩
      unfold vp_updL
      rw [if_neg]
      · exact k2
      · intro z
        rw [z, hf] at k2
        exact zlN_ne (by have := hm R q; omega) k2.symm
    · rw [List.mem_singleton.mp q]
      refine ⟨d, hd, ?_, fun e he => up _ (hp e he)⟩
      unfold vp_updL
      rw [if_pos rfl]
  · have := (zcn_pt (P := fun q => decide (f q ≠ -1)) (Q := fun q => decide (vp_updL f ((zhh g S + d) % 2048) (lN S) q ≠ -1)) (p := (zhh g S + d) % 2048) 2048 (fun q hq => by
      unfold vp_updL
      rw [if_neg hq])).1
    have := h.2.2
    rw [List.length_append, List.length_singleton]
    omega
theorem xw_slot (N : Nat) (hN : 5000 ≤ N) {g : zG} {s : zq_S} (h : zXI g s) {S : Nat} (hS : S < 1024) {acc : List Nat} (ha : ∀ R, R ∈ acc → R < 1024 ∧ zMd s R) (hl : acc.length < 2048) (hT : zTb g acc (zL s 1)) :
    zw (mX10_slotFor N (nI S) s) (fun v => ∃ q, q < 2048 ∧ v.1 = nI q ∧ zXI g v.2 ∧ zXG s v.2 ∧ zMd v.2 S ∧ (∀ R, zMd s R → zMd v.2 R) ∧
      ((zL s 1 q = -1 ∧ (∀ R, R ∈ acc → ztx g.T R ≠ ztx g.T S) ∧ ∃ d, d < 2048 ∧ q = (zhh g S + d) % 2048 ∧ ∀ e, e < d → zL s 1 ((zhh g S + e) % 2048) ≠ -1) ∨ (zL s 1 q ≠ -1 ∧ ∃ R, R ∈ acc ∧ ztx g.T R = ztx g.T S))) := by
  unfold mX10_slotFor
  refine zw_call (xw_with N hN h hS) (fun r t ⟨h1, h2, h3, h4⟩ => ?_)
  have hr := zMd_row h1 hS h3
  rw [mX8_scatter_eq N hN h1.f39 hS hr, zb2_some]
  dsimp only
  have eL : zL t 1 = zL s 1 := h2.l 1 (by decide)
  have hh : zsc (ztx g.T S) = zhh g S := rfl
  have hlt : zhh g S < 2048 := zsc_lt _
  rw [hh]
  refine zw_cnt 2048 (fun i v => v = (nI ((zhh g S + i) % 2048), nI i, t) ∧ ∀ e, e < i → ∃ R, R ∈ acc ∧ zL s 1 ((zhh g S + e) % 2048) = lN R ∧ ztx g.T R ≠ ztx g.T S) ?_ ?_ N 0 _ (by omega) (by omega) ⟨?_, fun e he => absurd he (Nat.not_lt_zero _)⟩
  · rintro self v ⟨rfl, hi⟩
    obtain ⟨q, q1, q2⟩ := zTb_free hT hl
    obtain ⟨R, r1, r2, _⟩ := hi ((q + 2048 - zhh g S) % 2048) (by omega)
    rw [show (zhh g S + (q + 2048 - zhh g S) % 2048) % 2048 = q by omega, q2] at r2
    exact absurd r2.symm (zlN_ne (by have := (ha R r1).1; omega))
  · rintro self i v hi ⟨rfl, hpre⟩ hself
    have hm : (zhh g S + i) % 2048 < 2048 := Nat.mod_lt _ (by decide)
    dsimp only [bX10_slotFor_21, jX10_slotFor_j58, zq_let]
    rw [if_neg (by rw [show (2048 : Int32) = nI 2048 from rfl, nI_leI (by omega) (by omega)]; omega), zck_nI (by omega) (by decide), zgl_nI _ _ (by omega), eL, zif_lgc]
    have hocc : ∀ e, e < i → zL s 1 ((zhh g S + e) % 2048) ≠ -1 := fun e he => by
      obtain ⟨R, r1, r2, _⟩ := hpre e he
      rw [r2]
      exact zlN_ne (by have := (ha R r1).1; omega)
    by_cases q : zL s 1 ((zhh g S + i) % 2048) = -1
    · rw [if_pos q]
      refine ⟨_, rfl, (zhh g S + i) % 2048, hm, rfl, h1, h2, h3, h4, Or.inl ⟨q, fun R hR e => ?_, i, hi, rfl, hocc⟩⟩
      obtain ⟨d, d1, d2, d3⟩ := hT.2.1 R hR
      have eh : zhh g R = zhh g S := by unfold zhh; rw [e]
      rw [eh] at d2 d3
      by_cases c1 : d < i
      · obtain ⟨R2, r1, r2, r3⟩ := hpre d c1
        rw [d2] at r2
        have b1 := (ha R hR).1
        have b2 := (ha R2 r1).1
        rw [pk_lEQ (by omega) (by omega)] at r2
        rw [← r2] at r3
        exact r3 e
      · by_cases c2 : d = i
        · rw [← c2, d2] at q
          exact zlN_ne (by have := (ha R hR).1; omega) q
        · exact d3 i (by omega) q
    · rw [if_neg q, zck_nI (by omega) (by decide)]
      rcases hT.1 _ hm with z | ⟨R, r1, r2⟩
      · exact absurd z q
      · obtain ⟨b1, b2⟩ := ha R r1
        rw [r2, lN_i, mX8_isAlike_l N hN h1.f39 h1.f39 hS hr b1 (zMd_row h1 b1 (h4 R b2)), zb2_some]
        dsimp only
        by_cases e : ztx g.T S = ztx g.T R
        · rw [if_pos e, if_neg (show ¬ (1 : Int32) = 0 by decide)]
          exact ⟨_, rfl, (zhh g S + i) % 2048, hm, rfl, h1, h2, h3, h4, Or.inr ⟨q, R, r1, e.symm⟩⟩
        · rw [if_neg e, if_pos rfl, nI_1, nI_1]
          have en : (if (2048 : Int32) ≤ nI ((zhh g S + i) % 2048 + 1) then (0 : Int32) else nI ((zhh g S + i) % 2048 + 1)) = nI ((zhh g S + (i + 1)) % 2048) := by
            by_cases c : (zhh g S + i) % 2048 + 1 = 2048
            · rw [c, if_pos (by decide), show (zhh g S + (i + 1)) % 2048 = 0 by omega]; rfl
            · rw [if_neg (by rw [show (2048 : Int32) = nI 2048 from rfl, nI_leI (by omega) (by omega)]; omega), show (zhh g S + (i + 1)) % 2048 = (zhh g S + i) % 2048 + 1 by omega]
          rw [en]
          refine hself _ ⟨rfl, fun e2 he2 => ?_⟩
          by_cases c : e2 = i
          · subst c; exact ⟨R, r1, r2, fun z => e z.symm⟩
          · exact hpre e2 (by omega)
  · rw [Nat.add_zero, Nat.mod_eq_of_lt hlt]; rfl
theorem zvS_mem (T : zSh) : ∀ (L acc : List Nat) (R : Nat), R ∈ L.foldl (zvS T) acc → R ∈ acc ∨ R ∈ L := by
  intro L
  induction L with
  | nil => exact fun acc R h => Or.inl h
  | cons S L ih =>
    intro acc R h
    rw [List.foldl_cons] at h
    rcases ih _ R h with q | q
    · unfold zvS at q
      split at q
      · exact Or.inl q
      · rcases List.mem_append.mp q with q | q
        · exact Or.inl q
        · rw [List.mem_singleton.mp q]; exact Or.inr List.mem_cons_self
    · exact Or.inr (List.mem_cons_of_mem _ q)
theorem zvS_len (T : zSh) : ∀ (L acc : List Nat), (L.foldl (zvS T) acc).length ≤ acc.length + L.length := by
  intro L
  induction L with
  | nil => intro acc; exact Nat.le_refl _
  | cons S L ih =>
    intro acc
    rw [List.foldl_cons]
    have := ih (zvS T acc S)
    have h2 : (zvS T acc S).length ≤ acc.length + 1 := by
      unfold zvS
      split
      · omega
      · rw [List.length_append]; exact Nat.le_refl _
    rw [List.length_cons]
    omega
theorem zvS_no {T : zSh} {acc : List Nat} {S : Nat} (h : ∀ R, R ∈ acc → ztx T R ≠ ztx T S) : zvS T acc S = acc ++ [S] := by
  unfold zvS
  rw [if_neg]
  intro z
  rw [List.any_eq_true] at z
  obtain ⟨R, h1, h2⟩ := z
  exact h R h1 (by simpa using h2)
theorem zvS_yes {T : zSh} {acc : List Nat} {S R : Nat} (h1 : R ∈ acc) (h : ztx T R = ztx T S) : zvS T acc S = acc := by
  unfold zvS
  rw [if_pos]
  rw [List.any_eq_true]
  exact ⟨R, h1, by simpa using h⟩
abbrev zXV (s t : zq_S) : Prop := zfr [(31, 7), (31, 9), (49, 4)] [37, 41, 50] [1, 40, 55] s t
/-- a change of the views' cells alone, in the middle -/
theorem zXI_views {g : zG} {s t : zq_S} (hm : g.md = true) (h : zXI g s) (hq : zfr [(49, 4)] [50] [1] s t) : zXI g t := by
  refine zXI_Q h (hq.mo (by decide) (by decide) (by decide)) ?_
  obtain ⟨⟨v, h1, h2, h3, h4, h5, h6⟩, h7, h8, h9, -, -⟩ := h.ca
  unfold zCa zGD zWV zTc zRow
  rw [hq.f 31 8 (by decide), hq.f 31 9 (by decide), hq.f 44 5 (by decide), hq.f 46 7 (by decide), hq.f 49 5 (by decide), hq.f 31 7 (by decide), hq.a 37 (by decide), hq.a 41 (by decide), hq.l 45 (by decide)]
  refine ⟨⟨v, h1, h2, h3, h4, h5, h6⟩, h7, h8, ?_, fun q => absurd (hm.symm.trans q) (by decide), fun q => absurd (hm.symm.trans q) (by decide)⟩
  intro S hS
  have := h9 S hS
  unfold zRow at this
  rw [show zL t (zf false + 1) = zL s (zf false + 1) from hq.l 40 (by decide), show zA t (zf false + 2) = zA s (zf false + 2) from hq.a 41 (by decide)]
  exact this
theorem xw_findAll (N : Nat) (hN : 5000 ≤ N) {g : zG} {s : zq_S} (hmd : g.md = true) (h : zXI g s) :
    zw (mX10_findAll N s) (fun v => zXI g v.2 ∧ zXV s v.2 ∧ zVV g v.2) := by
  have hl := zgL_len_le g.mu g.n (2 ^ g.n)
  have hp := zn_pow h.W.n
  unfold mX10_findAll
  dsimp only [zq_let]
  have f0 : zfr [(49, 4)] [50] [1] s (zpfl (zpf s 49 4 0) 1 4096 (-1)) := (zfr_pf 49 4 0 (by decide)).tr (zfr_sL 1 _ (by decide))
  have h0 := zXI_views hmd h f0
  refine zw_cnt (zgL g.mu g.n (2 ^ g.n)).length (fun j v => ∃ t o, v = (nI j, t) ∧ zXI g t ∧ zXV s t ∧ zgf t 49 4 = nI (((zgL g.mu g.n (2 ^ g.n)).take j).foldl (zvS g.T) []).length ∧ zA t 50 = zli (((zgL g.mu g.n (2 ^ g.n)).take j).foldl (zvS g.T) []) o ∧ zTb g (((zgL g.mu g.n (2 ^ g.n)).take j).foldl (zvS g.T) []) (zL t 1) ∧ ∀ R, R ∈ ((zgL g.mu g.n (2 ^ g.n)).take j).foldl (zvS g.T) [] → zMd t R) ?_ ?_ N 0 _ (by omega) (by omega) ⟨_, zA s 50, rfl, h0, f0.mo (by decide) (by decide) (by decide), rfl, ?_, ?_, fun R hR => absurd hR List.not_mem_nil⟩
  · rintro self v ⟨t, o, rfl, ht, hq, a1, a2, a3, a4⟩
    dsimp only [bX10_findAll_17]
    refine zw_call (xw_goodCount N hN ht) (fun r t2 ⟨k1, k2, k3, _, _⟩ => ?_)
    dsimp only at k1
    rw [k1, if_pos (nI_le (Nat.le_refl _) (by omega))]
    rw [List.take_length] at a1 a2
    refine ⟨_, rfl, k2, hq.tr (k3.mo (by decide) (by decide) (by decide)), ?_, o, ?_⟩
    · rw [k3.f 49 4 (by decide)]; exact a1
    · rw [k3.a 50 (by decide)]; exact a2
  · rintro self j v hj ⟨t, o, rfl, ht, hq, a1, a2, a3, a4⟩ hself
    obtain ⟨S, e, hS, hg⟩ := zgL_get hj
    have s1 := zlt_pow h.W.n hS
    have hlen := zvS_len g.T ((zgL g.mu g.n (2 ^ g.n)).take j) []
    rw [List.length_nil, List.length_take] at hlen
    have hmem : ∀ R, R ∈ ((zgL g.mu g.n (2 ^ g.n)).take j).foldl (zvS g.T) [] → R < 1024 := fun R hR => by
      rcases zvS_mem g.T _ _ R hR with q | q
      · exact absurd q List.not_mem_nil
      · have := (zgL_mem.mp (List.mem_of_mem_take q)).1
        omega
    have es := zfo_s e (zvS g.T) []
    dsimp only [bX10_findAll_17, jX10_findAll_j84, zq_let]
    refine zw_call (xw_goodCount N hN ht) (fun r t2 ⟨k1, k2, k3, _, k41⟩ => ?_)
    dsimp only at k1 k41
    rw [k1, if_neg (by rw [nI_leI (by omega) (by omega)]; omega)]
    refine zw_call (xw_goodAt N hN k2 e) (fun r t3 ⟨l1, l2, l3, l41⟩ => ?_)
    dsimp only at l1 l41
    subst l1
    have eL : zL t3 1 = zL t 1 := (k3.tr l3).l 1 (by decide)
    have hmd3 : ∀ R, zMd t R → zMd t3 R := fun R hR => by unfold zMd; rw [l41, k41]; exact hR
    refine zw_call (xw_slot N hN l2 s1 (acc := ((zgL g.mu g.n (2 ^ g.n)).take j).foldl (zvS g.T) []) (fun R hR => ⟨hmem R hR, hmd3 R (a4 R hR)⟩) (by omega) (by rw [eL]; exact a3)) (fun r t4 ⟨q, q1, q2, q3, q4, q5, q6, q7⟩ => ?_)
    dsimp only at q2
    subst q2
    have fr := (k3.tr l3).tr q4
    have fq : zXV s t4 := hq.tr (fr.mo (by decide) (by decide) (by decide))
    have eL4 : zL t4 1 = zL t 1 := fr.l 1 (by decide)
    rw [eL] at q7
    rw [zck_nI (by omega) (by decide), zgl_nI _ _ (by omega), eL4, zif_lgc, nI_1]
    rcases q7 with ⟨c1, c2, d, c3, c4, c5⟩ | ⟨c1, R, c2, c3⟩
    · have e1 : ((zgL g.mu g.n (2 ^ g.n)).take (j + 1)).foldl (zvS g.T) [] = ((zgL g.mu g.n (2 ^ g.n)).take j).foldl (zvS g.T) [] ++ [S] := by rw [es, zvS_no c2]
      rw [if_pos c1, zck_nI (by omega) (by decide), zpl_nI _ _ (by omega), nI_l (by omega), eL4, zgf_sL, fr.f 49 4 (by decide), a1, zck_nI (by omega) (by decide), zpa_nI _ _ (by omega), zA_sL, fr.a 50 (by decide), a2, zli_push, zgf_sA, zgf_sL, fr.f 49 4 (by decide), a1, nI_1]
      have f5 : zfr [(49, 4)] [50] [1] t4 (zpf (zsA (zsL t4 1 (vp_updL (zL t 1) q (lN S))) 50 (zli (((zgL g.mu g.n (2 ^ g.n)).take j).foldl (zvS g.T) [] ++ [S]) o)) 49 4 (nI ((((zgL g.mu g.n (2 ^ g.n)).take j).foldl (zvS g.T) []).length + 1))) :=
        ((zfr_sL 1 _ (by decide)).tr (zfr_sA 50 _ (by decide))).tr (zfr_pf 49 4 _ (by decide))
      refine hself _ ⟨_, o, rfl, zXI_views hmd q3 f5, fq.tr (f5.mo (by decide) (by decide) (by decide)), ?_, ?_, ?_, ?_⟩
      · rw [e1, List.length_append]; rfl
      · rw [e1]; rfl
      · rw [e1]
        show zTb g _ (vp_updL (zL t 1) q (lN S))
        rw [c4] at c1 ⊢
        exact zTb_put a3 hmem s1 c3 c1 c5
      · rw [e1]
        intro R hR
        have : zMd t4 R := by
          rcases List.mem_append.mp hR with z | z
          · exact q6 R (hmd3 R (a4 R z))
          · rw [List.mem_singleton.mp z]; exact q5
        unfold zMd at this ⊢
        rw [f5.a 41 (by decide)]
        exact this
    · have e1 : ((zgL g.mu g.n (2 ^ g.n)).take (j + 1)).foldl (zvS g.T) [] = ((zgL g.mu g.n (2 ^ g.n)).take j).foldl (zvS g.T) [] := by rw [es, zvS_yes c2 c3]
      rw [if_neg c1]
      refine hself _ ⟨t4, o, rfl, q3, fq, ?_, ?_, ?_, ?_⟩
      · rw [e1, fr.f 49 4 (by decide)]; exact a1
      · rw [e1, fr.a 50 (by decide)]; exact a2
      · rw [e1, eL4]; exact a3
      · rw [e1]
        exact fun R hR => q6 R (hmd3 R (a4 R hR))
  · rw [List.take_zero, List.foldl_nil, zli_nil]
    rfl
  · rw [List.take_zero, List.foldl_nil]
    refine zTb_nil g (fun q hq => ?_)
    rw [zpfl_eq, zL_self]
    exact if_pos (by omega)
