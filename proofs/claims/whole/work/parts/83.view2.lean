/-! view -/
theorem xw_number (N : Nat) (hN : 5000 ≤ N) {g : zG} {s : zq_S} (hmd : g.md = false) (h : zXI g s) :
    zw (mX10_number N s) (fun v => v.1 = nI (zvL g.T g.mu g.n).length ∧ zXI g v.2 ∧ zXQ s v.2 ∧ zVV g v.2) := by
  unfold mX10_number jX10_number_j29
  by_cases q : zgf s 49 5 = zgf s 31 8
  · rw [if_pos q]
    have hv := h.vv hmd q
    exact ⟨_, rfl, hv.1, h, zfr_rfl, hv⟩
  · rw [if_neg q]
    dsimp only [zq_let]
    have f1 : zfr [(49, 5)] [] [] s (zpf s 49 5 (zgf s 31 8)) := zfr_pf 49 5 _ (by decide)
    have h1 : zXI g.mid (zpf s 49 5 (zgf s 31 8)) := by
      refine zXI_Q (zXI_mid h) (f1.mo (by decide) (by decide) (by decide)) ?_
      obtain ⟨⟨v, h1, h2, h3, h4, h5, h6⟩, h7, h8, h9, -, -⟩ := h.ca
      refine ⟨⟨v, h1, h2, h3, h4, h5, ?_⟩, h7, h8, h9, (fun q => absurd (show true = false from q) (by decide)), (fun q => absurd (show true = false from q) (by decide))⟩
      show zvo v (zgf s 31 8)
      rw [h2]
      exact Or.inr ⟨v, Nat.le_refl _, rfl⟩
    refine zw_call (xw_findAll N hN (g := g.mid) rfl h1) (fun r t ⟨k1, k2, k3⟩ => ?_)
    have fq : zfr [(31, 7), (31, 9), (49, 4), (49, 5)] [37, 41, 50] [1, 40, 55] s t := (f1.mo (by decide) (by decide) (by decide)).tr (k2.mo (by decide) (by decide) (by decide))
    refine ⟨_, rfl, k3.1, zXI_unmid k1 ?_ (fun _ => k3), fq.mo (by decide) (by decide) (by decide), k3⟩
    intro z
    rw [fq.f 46 7 (by decide), fq.f 31 8 (by decide)] at z
    have := h.sv hmd z
    unfold zSV at this ⊢
    rw [fq.f 46 6 (by decide), fq.a 47 (by decide)]
    exact this
theorem zvL_len (g : zG) (hW : zGW g) : (zvL g.T g.mu g.n).length ≤ 1024 := by
  have h1 := zvS_len g.T (zgL g.mu g.n (2 ^ g.n)) []
  have h2 := zgL_len_le g.mu g.n (2 ^ g.n)
  have h3 := zn_pow hW.n
  rw [List.length_nil] at h1
  show ((zgL g.mu g.n (2 ^ g.n)).foldl (zvS g.T) []).length ≤ 1024
  omega
theorem xw_view (N : Nat) (hN : 5000 ≤ N) {g : zG} {s : zq_S} (hmd : g.md = false) (h : zXI g s) (p : Int32) :
    zw (mX11_view N p s) (fun v => v.1 = zat (zvL g.T g.mu g.n) p ∧ zXI g v.2 ∧ zSM s v.2) := by
  have hvl := zvL_len g h.W
  unfold mX11_view jX11_view_j23
  by_cases e : p = -1
  · rw [if_pos e]
    refine zw_call (xw_number N hN hmd h) (fun r t ⟨k1, k2, k3, k4⟩ => ?_)
    refine ⟨_, rfl, ?_, k2, zXQ_SM k3⟩
    dsimp only at k1 ⊢
    rw [k1, e]; rfl
  · rw [if_neg e]
    unfold mX10_leastSet jX10_leastSet_j12 jX10_leastSet_j22
    by_cases e2 : p < 0
    · rw [if_pos e2, zb2_some]
      refine ⟨_, rfl, ?_, h, zSM_rfl⟩
      unfold zat
      rw [if_neg e, if_pos e2]
    · rw [if_neg e2]
      obtain ⟨q, hq, rfl⟩ := nI_of e2
      rw [zw_b2, zw_b2]
      refine zw_mono (xw_number N hN hmd h) ?_
      rintro ⟨r, t⟩ ⟨k1, k2, k3, k4, o, k5⟩
      dsimp only at k1 k2 k3 k4 k5 ⊢
      rw [k1]
      by_cases e3 : nI q < nI (zvL g.T g.mu g.n).length
      · rw [if_pos e3]
        rw [nI_ltI hq (by omega)] at e3
        rw [zck_nI (by omega) (by decide), zw_some]
        refine ⟨_, rfl, ?_, k2, zXQ_SM k3⟩
        dsimp only
        have := List.getElem?_eq_getElem e3
        rw [zga_nI _ _ hq, k5, zli_get o this, zat_some hq this]
      · rw [if_neg e3, zw_some]
        rw [nI_ltI hq (by omega)] at e3
        refine ⟨_, rfl, (zat_none e (fun r hr hr2 => ?_)).symm, k2, zXQ_SM k3⟩
        rw [nI_eq hq hr2] at hr
        omega
theorem mw_view_in (N : Nat) (hN : 5000 ≤ N) {g : zG} {s : zq_S} (h : zMR g s) {acc : List Nat} (hl : acc.length ≤ 1024) (ha : ∀ i, i < acc.length → zA s 87 i = nI (zgt acc i)) (hm : ∀ R, R ∈ acc → R < 2 ^ g.n) {S : Nat} (hS : S < 2 ^ g.n) (good : Bool) (f1 : Int32) (k : Int32 × zq_S → Option (Int32 × zq_S)) :
    zq_loop (bX12_view_27 N f1 (nI acc.length) (nI S) k) N (zib good, 0, s) = k (zib (good && !acc.any (fun R => ztx g.T R == ztx g.T S)), s) := by
  have key : ∀ (d j M : Nat), j + d = acc.length → d < M → zq_loop (bX12_view_27 N f1 (nI acc.length) (nI S) k) M (zib (good && !(acc.take j).any (fun R => ztx g.T R == ztx g.T S)), nI j, s) = k (zib (good && !acc.any (fun R => ztx g.T R == ztx g.T S)), s) := by
    intro d
    induction d with
    | zero =>
      intro j M hj hM
      obtain ⟨M, rfl⟩ : ∃ M', M = M' + 1 := ⟨M - 1, by omega⟩
      have hj : j = acc.length := by omega
      subst hj
      rw [zq_loop_s]
      dsimp only [bX12_view_27]
      rw [if_pos (nI_le (Nat.le_refl _) (by omega)), List.take_length]
    | succ d ih =>
      intro j M hj hM
      obtain ⟨M, rfl⟩ : ∃ M', M = M' + 1 := ⟨M - 1, by omega⟩
      have hja : j < acc.length := by omega
      have ih2 := ih (j + 1) M (by omega) (by omega)
      rw [zq_loop_s]
      dsimp only [bX12_view_27, zq_let]
      rw [if_neg (by rw [nI_leI (by omega) (by omega)]; omega)]
      cases q : (good && !(acc.take j).any (fun R => ztx g.T R == ztx g.T S)) with
      | false =>
        rw [zib_f, if_pos rfl]
        have : (good && !acc.any (fun R => ztx g.T R == ztx g.T S)) = false := by
          rw [← List.take_append_drop j acc, List.any_append, Bool.not_or, ← Bool.and_assoc, q, Bool.false_and]
        rw [this]
        rfl
      | true =>
        have hR := hm _ (List.getElem_mem hja)
        rw [zib_t, if_neg (show ¬ (1 : Int32) = 0 by decide), zck_nI (by omega) (by decide), zga_nI _ _ (by omega), ha j hja, zgt_eq hja, mX12_areLike_r N hN h hR hS, zb2_some, nI_1]
        dsimp only
        rw [List.take_succ_eq_append_getElem hja, List.any_append, Bool.not_or, ← Bool.and_assoc, q, Bool.true_and] at ih2
        rw [← ih2]
        by_cases e : ztx g.T acc[j] = ztx g.T S
        · rw [if_pos e, if_neg (show ¬ (1 : Int32) = 0 by decide)]
          simp [e, zib]
        · rw [if_neg e, if_pos rfl]
          simp [e, zib]
  have := key acc.length 0 N (by omega) (by omega)
  rw [List.take_zero, List.any_nil, Bool.not_false, Bool.and_true] at this
  exact this
theorem mw_view (N : Nat) (hN : 5000 ≤ N) {g : zG} {s : zq_S} (h : zMR g s) (p : Int32) {k87 : Int32 × zq_S → Option (Int32 × zq_S)} {Q : Int32 × zq_S → Prop} (hk : ∀ t, zMZ s t → (∀ i, i < (zvL g.T g.mu g.n).length → zA t 87 i = nI (zgt (zvL g.T g.mu g.n) i)) → zw (k87 (nI (zvL g.T g.mu g.n).length, t)) Q) :
    zw (zq_loop (bX12_view_8 N p k87) N (0, 0, s)) Q := by
  have hW := h.i.W
  have hp := zn_pow hW.n
  have h0 : 0 < 2 ^ g.n := Nat.pow_pos (by decide)
  refine zw_cnt (2 ^ g.n) (fun j v => ∃ t, v = (nI ((zgL g.mu g.n j).foldl (zvS g.T) []).length, nI j, t) ∧ zMZ s t ∧ ∀ i, i < ((zgL g.mu g.n j).foldl (zvS g.T) []).length → zA t 87 i = nI (zgt ((zgL g.mu g.n j).foldl (zvS g.T) []) i)) ?_ ?_ N 0 _ (by omega) (by omega) ⟨s, rfl, zfr_rfl, fun i hi => absurd hi (Nat.not_lt_zero _)⟩
  · rintro self v ⟨t, rfl, hq, ha⟩
    have ht := zMR_Z h hq
    dsimp only [bX12_view_8]
    rw [mX12_all_eq N ht.i.mk hW.n, zb2_some]
    dsimp only
    rw [if_pos (nI_lt (by omega) (by omega))]
    exact hk t hq ha
  · rintro self j v hj ⟨t, rfl, hq, ha⟩ hself
    have ht := zMR_Z h hq
    have hlen := zvS_len g.T (zgL g.mu g.n j) []
    have hl2 := zgL_len_le g.mu g.n j
    rw [List.length_nil] at hlen
    have hmem : ∀ R, R ∈ (zgL g.mu g.n j).foldl (zvS g.T) [] → R < 2 ^ g.n := fun R hR => by
      rcases zvS_mem g.T _ _ R hR with q | q
      · exact absurd q List.not_mem_nil
      · have := (zgL_mem.mp q).1
        omega
    dsimp only [bX12_view_8, zq_let]
    rw [mX12_all_eq N ht.i.mk hW.n, zb2_some]
    dsimp only
    rw [if_neg (nI_nlt (by omega) (by omega)), zck_nI (by omega) (by decide), zga_nI _ _ (by omega), ht.good hj, mw_view_in N hN ht (by omega) ha hmem hj]
    dsimp only [jX12_view_j66, jX12_view_j81, zq_let]
    rw [nI_1, nI_1]
    have es := zgo_s g.mu g.n j (zvS g.T) []
    cases hg : zgd g.mu j g.n with
    | false =>
      rw [hg, if_neg (show ¬ false = true by decide)] at es
      rw [Bool.false_and, zib_f, if_pos rfl]
      refine hself _ ⟨t, ?_, hq, ?_⟩
      · rw [es]
      · rw [es]; exact ha
    | true =>
      rw [hg, if_pos rfl, zvS] at es
      rw [Bool.true_and]
      cases q : ((zgL g.mu g.n j).foldl (zvS g.T) []).any (fun R => ztx g.T R == ztx g.T j) with
      | true =>
        rw [q, if_pos rfl] at es
        rw [Bool.not_true, zib_f, if_pos rfl]
        refine hself _ ⟨t, ?_, hq, ?_⟩
        · rw [es]
        · rw [es]; exact ha
      | false =>
        rw [q, if_neg (show ¬ false = true by decide)] at es
        rw [Bool.not_false, zib_t, if_neg (show ¬ (1 : Int32) = 0 by decide), zck_nI (by omega) (by decide), zpa_nI _ _ (by omega)]
        refine hself _ ⟨zsA t 87 (upd (zA t 87) ((zgL g.mu g.n j).foldl (zvS g.T) []).length (nI j)), ?_, hq.tr (zfr_sA 87 _ (by decide)), ?_⟩
        · rw [es, List.length_append]; rfl
        · rw [es, List.length_append, List.length_singleton]
          intro i hi
          rw [zA_self]
          unfold upd
          by_cases c : i = ((zgL g.mu g.n j).foldl (zvS g.T) []).length
          · rw [if_pos c, c, zgt_eq (by rw [List.length_append]; exact Nat.lt_succ_self _), List.getElem_append_right (Nat.le_refl _)]
            simp
          · rw [if_neg c, ha i (by omega), zgt_eq (by omega), zgt_eq (by rw [List.length_append, List.length_singleton]; omega), List.getElem_append_left (by omega)]
theorem pub_view (N : Nat) (hN : 5000 ≤ N) {g : zG} (hW : zGW g) (hmd : g.md = false) (p : Int32) : zAg g g (mX11_view N p) (mX12_view N p) := by
  have hvl := zvL_len g hW
  refine ⟨zat (zvL g.T g.mu g.n) p, fun s h => xw_view N hN hmd h p, fun s h => ?_⟩
  unfold mX12_view
  refine zw_call (mw_findTexts N hN h) (fun r t ⟨k1, k2⟩ => ?_)
  refine mw_view N hN k1 p (fun t2 hq ha => ?_)
  have h2 := zMR_Z k1 hq
  have fr : zSX s t2 := zMQ_SX ((zMG_Q k2).tr (zMZ_Q hq))
  dsimp only
  unfold jX12_view_j119
  by_cases e : p = -1
  · rw [if_pos e]
    refine ⟨_, rfl, ?_, h2.i, fr⟩
    rw [e]; rfl
  · rw [if_neg e, mX12_in_eq, zb2_some]
    dsimp only
    rw [show (if (0 : Int64) ≤ Int32.toInt64 p ∧ Int32.toInt64 p ≤ Int32.toInt64 (nI (zvL g.T g.mu g.n).length - 1) then (1 : Int32) else 0) = if ¬ p < 0 ∧ ¬ nI (zvL g.T g.mu g.n).length ≤ p then 1 else 0 from zif_iff (zin_lt (by omega) p)]
    rcases zarg (c := (zvL g.T g.mu g.n).length) (by omega) p with z | ⟨x, hx, rfl, z⟩
    · rw [if_neg z, if_pos rfl]
      refine ⟨_, rfl, (zat_none e (fun r hr hr2 => ?_)).symm, h2.i, fr⟩
      apply Classical.byContradiction
      intro c
      apply z
      rw [hr]
      exact ⟨nI_nneg hr2, by rw [nI_leI (by omega) hr2]; omega⟩
    · rw [if_pos z, if_neg (show ¬ (1 : Int32) = 0 by decide), zck_nI (by omega) (by decide), zga_nI _ _ (by omega), ha x hx]
      refine ⟨_, rfl, ?_, h2.i, fr⟩
      rw [zat_some (by omega) (List.getElem?_eq_getElem hx), zgt_eq hx]
