/-! nearest -/
abbrev zMZ (s t : zq_S) : Prop := zfr [(57, 36)] [77, 82, 83, 87, 88, 89, 90] [94, 95, 97] s t
theorem zMZ_Q {s t : zq_S} (h : zMZ s t) : zMQ s t := h.mo (by decide) (by decide) (by decide)
theorem zMR_Z {g : zG} {s t : zq_S} (h : zMR g s) (hq : zMZ s t) : zMR g t := by
  refine ⟨zMI_Q h.i (zMZ_Q hq) ?_, by rw [hq.f 57 37 (by decide)]; exact h.2.1, by rw [hq.f 57 44 (by decide)]; exact h.2.2⟩
  have hc := h.i.cm
  unfold zCm zFD zMx at hc ⊢
  rw [hq.f 57 37 (by decide), hq.f 57 44 (by decide), hq.a 78 (by decide), hq.a 79 (by decide), hq.l 80 (by decide), hq.l 81 (by decide), hq.a 84 (by decide), hq.a 85 (by decide), hq.l 86 (by decide)]
  exact hc
/-- how far the text of S is from the words l -/
def zDs (g : zG) (l : List Nat) (S : Nat) : Nat := zdist l.length (zgt l) (ztx g.T S).length (zgt (ztx g.T S))
def zNr (g : zG) (l : List Nat) (a : Nat × Nat) (S : Nat) : Nat × Nat := if zDs g l S < a.2 then (S, zDs g l S) else a
theorem zDs_le {g : zG} (hW : zGW g) {l : List Nat} (hl : l.length ≤ 40) (S : Nat) : zDs g l S ≤ 80 := by
  unfold zDs zdist
  have := zD_le (zeq l.length (zgt l) (zgt (ztx g.T S))) l.length (ztx g.T S).length
  have := ztx_len hW.W hW.w40 S
  omega
theorem zNr_ok (g : zG) (l : List Nat) : ∀ (L : List Nat) (a : Nat × Nat), a.2 = zDs g l a.1 → (L.foldl (zNr g l) a).2 = zDs g l (L.foldl (zNr g l) a).1 ∧ ((L.foldl (zNr g l) a).1 = a.1 ∨ (L.foldl (zNr g l) a).1 ∈ L) := by
  intro L
  induction L with
  | nil => exact fun a h => ⟨h, Or.inl rfl⟩
  | cons S L ih =>
    intro a h
    rw [List.foldl_cons]
    have : (zNr g l a S).2 = zDs g l (zNr g l a S).1 ∧ ((zNr g l a S).1 = a.1 ∨ (zNr g l a S).1 = S) := by
      unfold zNr
      split
      · exact ⟨rfl, Or.inr rfl⟩
      · exact ⟨h, Or.inl rfl⟩
    obtain ⟨h1, h2⟩ := ih _ this.1
    refine ⟨h1, ?_⟩
    rcases h2 with h2 | h2
    · rw [h2]
      rcases this.2 with q | q
      · exact Or.inl q
      · rw [q]; exact Or.inr List.mem_cons_self
    · exact Or.inr (List.mem_cons_of_mem _ h2)
theorem zNr_stop (g : zG) (l : List Nat) : ∀ (L : List Nat) (a : Nat × Nat), a.2 = 0 → L.foldl (zNr g l) a = a := by
  intro L
  induction L with
  | nil => exact fun a _ => rfl
  | cons S L ih =>
    intro a h
    rw [List.foldl_cons]
    have : zNr g l a S = a := by unfold zNr; rw [if_neg (by omega)]
    rw [this]
    exact ih a h
def zNe (g : zG) (l : List Nat) : Nat × Nat := (zgL g.mu g.n (2 ^ g.n)).foldl (zNr g l) (0, zDs g l 0)
theorem zNe_ok {g : zG} (l : List Nat) : (zNe g l).1 < 2 ^ g.n ∧ (zNe g l).2 = zDs g l (zNe g l).1 := by
  obtain ⟨h1, h2⟩ := zNr_ok g l (zgL g.mu g.n (2 ^ g.n)) (0, zDs g l 0) rfl
  refine ⟨?_, h1⟩
  rcases h2 with h2 | h2
  · unfold zNe
    rw [h2]
    exact Nat.pow_pos (by decide)
  · exact (zgL_mem.mp h2).1
theorem xw_btw (N : Nat) (hN : 5000 ≤ N) {g : zG} {s : zq_S} (h : zXI g s) {c S : Nat} {l : List Nat} (hc : g.cp[c]? = some l) (hS : S < 1024) (hm : zMd s S) :
    zw (mX2_between N true false (nI c) (nI S) s) (fun v => v.1 = nI (zDs g l S) ∧ zXI g v.2 ∧ zXG s v.2) := by
  obtain ⟨c4, hr⟩ := h.cr hc
  exact ⟨_, mX2_between_eq N hN h.f51 h.f39 (show c < zfS true by show c < 5; omega) hr hS (zMd_row h hS hm), rfl, zXI_dS h _ _, zdS_fr _ _ _⟩
theorem zgL_0 (mu : Nat → Nat) (n : Nat) : (zgL mu n (2 ^ n))[0]? = some 0 ∧ 0 < (zgL mu n (2 ^ n)).length := by
  have h1 : (0 : Nat) ∈ zgL mu n (2 ^ n) := zgL_mem.mpr ⟨Nat.pow_pos (by decide), zgd_zero mu n⟩
  obtain ⟨i, hi, e⟩ := List.getElem_of_mem h1
  have e1 : (zgL mu n (2 ^ n))[i]? = some 0 := List.getElem?_eq_some_iff.mpr ⟨hi, e⟩
  have e0 := List.getElem?_eq_getElem (l := zgL mu n (2 ^ n)) (i := 0) (by omega)
  have := zgL_mono e0 e1 (Nat.zero_le _)
  refine ⟨?_, by omega⟩
  rw [e0]
  congr 1
  omega
theorem xw_nearestSet (N : Nat) (hN : 5000 ≤ N) {g : zG} {s : zq_S} (h : zXI g s) {c : Nat} {l : List Nat} (hc : g.cp[c]? = some l) :
    zw (mX1_nearestSet N (nI c) s) (fun v => v.1 = nI (zNe g l).1 ∧ zXI g v.2 ∧ zXG s v.2) := by
  have hl := zgL_len_le g.mu g.n (2 ^ g.n)
  have hp := zn_pow h.W.n
  obtain ⟨g0, g1⟩ := zgL_0 g.mu g.n
  have hD := zDs_le h.W (h.W.cp.2 l (List.mem_of_getElem? hc)).1
  unfold mX1_nearestSet
  refine zw_call (xw_with N hN h (S := 0) (by decide)) (fun r t ⟨h1, h2, h3, _⟩ => ?_)
  refine zw_call (xw_btw N hN h1 hc (S := 0) (by decide) h3) (fun r t2 ⟨k1, k2, k3⟩ => ?_)
  dsimp only at k1
  subst k1
  have nr : ∀ L : List Nat, (L.foldl (zNr g l) (0, zDs g l 0)).2 ≤ 80 := fun L => by
    rw [(zNr_ok g l L (0, zDs g l 0) rfl).1]; exact hD _
  refine zw_cnt (zgL g.mu g.n (2 ^ g.n)).length (fun j v => ∃ t', v = (nI (((zgL g.mu g.n (2 ^ g.n)).take j).foldl (zNr g l) (0, zDs g l 0)).1, nI (((zgL g.mu g.n (2 ^ g.n)).take j).foldl (zNr g l) (0, zDs g l 0)).2, nI j, t') ∧ zXI g t' ∧ zXG s t') ?_ ?_ N 1 _ (by omega) (by omega) ⟨t2, ?_, k2, h2.tr k3⟩
  · rintro self v ⟨t', rfl, ht, hq⟩
    dsimp only [bX1_nearestSet_27, jX1_nearestSet_j97]
    refine zw_call (xw_goodCount N hN ht) (fun r t3 ⟨l1, l2, l3, _, _⟩ => ?_)
    dsimp only at l1
    rw [l1, if_pos (nI_le (Nat.le_refl _) (by omega)), List.take_length]
    exact ⟨_, rfl, rfl, l2, hq.tr l3⟩
  · rintro self j v hj ⟨t', rfl, ht, hq⟩ hself
    obtain ⟨S, e, hS, hg⟩ := zgL_get hj
    have s1 := zlt_pow h.W.n hS
    have hD2 := nr ((zgL g.mu g.n (2 ^ g.n)).take j)
    have hDS := hD S
    dsimp only [bX1_nearestSet_27, jX1_nearestSet_j97, jX1_nearestSet_j91, zq_let]
    refine zw_call (xw_goodCount N hN ht) (fun r t3 ⟨l1, l2, l3, _, _⟩ => ?_)
    dsimp only at l1
    rw [l1, if_neg (by rw [nI_leI (by omega) (by omega)]; omega)]
    by_cases q : (((zgL g.mu g.n (2 ^ g.n)).take j).foldl (zNr g l) (0, zDs g l 0)).2 = 0
    · rw [q, if_pos (by decide)]
      refine ⟨_, rfl, ?_, l2, hq.tr l3⟩
      dsimp only
      have : zNe g l = ((zgL g.mu g.n (2 ^ g.n)).take j).foldl (zNr g l) (0, zDs g l 0) := by
        unfold zNe
        conv => lhs; rw [← List.take_append_drop j (zgL g.mu g.n (2 ^ g.n)), List.foldl_append]
        exact zNr_stop g l _ _ q
      rw [this]
    · rw [if_neg (by rw [show (0 : Int32) = nI 0 from rfl, nI_leI (by omega) (by omega)]; omega)]
      refine zw_call (xw_goodAt N hN l2 e) (fun r t4 ⟨m1, m2, m3, _⟩ => ?_)
      dsimp only at m1
      subst m1
      refine zw_call (xw_with N hN m2 s1) (fun r t5 ⟨n1, n2, n3, _⟩ => ?_)
      refine zw_call (xw_btw N hN n1 hc s1 n3) (fun r t6 ⟨o1, o2, o3⟩ => ?_)
      dsimp only at o1
      subst o1
      have fr := (((hq.tr l3).tr m3).tr n2).tr o3
      rw [nI_1]
      by_cases q2 : zDs g l S < (((zgL g.mu g.n (2 ^ g.n)).take j).foldl (zNr g l) (0, zDs g l 0)).2
      · rw [if_neg (by rw [nI_leI (by omega) (by omega)]; omega)]
        refine hself _ ⟨t6, ?_, o2, fr⟩
        rw [zfo_s e, zNr, if_pos q2]
      · rw [if_pos (by rw [nI_leI (by omega) (by omega)]; omega)]
        refine hself _ ⟨t6, ?_, o2, fr⟩
        rw [zfo_s e, zNr, if_neg q2]
  · rw [zfo_s g0 (zNr g l) (0, zDs g l 0), List.take_zero, List.foldl_nil, zNr, if_neg (Nat.lt_irrefl _)]
    rfl
def zmo (g : zG) (l : List Nat) (j : Nat) : Int32 × Int32 := if j = 0 then (-1, 0) else (nI ((zgL g.mu g.n j).foldl (zNr g l) (0, zDs g l 0)).1, nI ((zgL g.mu g.n j).foldl (zNr g l) (0, zDs g l 0)).2)
theorem zmo_0 (g : zG) (l : List Nat) : zmo g l 0 = (-1, 0) := rfl
theorem zmo_s (g : zG) (l : List Nat) {j : Nat} (h : j ≠ 0) : zmo g l j = (nI ((zgL g.mu g.n j).foldl (zNr g l) (0, zDs g l 0)).1, nI ((zgL g.mu g.n j).foldl (zNr g l) (0, zDs g l 0)).2) := if_neg h
theorem zgL_1 (mu : Nat → Nat) (n : Nat) : zgL mu n 1 = [0] := by
  rw [show 1 = 0 + 1 from rfl, zgL_s, zgd_zero]
  rfl
theorem mw_near (N : Nat) (hN : 5000 ≤ N) {g : zG} {s t : zq_S} (h : zMR g s) {c : Nat} {l : List Nat} (hc : g.cp[c]? = some l) (hq : zMZ s t) (hB : ∀ i, i < l.length → zA t 89 i = nI (zgt l i)) {p : Int32} (hp01 : p = 0 ∨ p = 1) :
    zw (zq_loop (bX12_nearest_73 N (nI c) p) N (-1, 0, 0, t)) (fun v => v.1 = (if p = 0 then nI (zNe g l).2 else nI (zNe g l).1) ∧ zMI g v.2 ∧ zMQ s v.2) := by
  have hW := h.i.W
  have hp := zn_pow hW.n
  have h0 : 0 < 2 ^ g.n := Nat.pow_pos (by decide)
  have hcl := hW.cp.2 l (List.mem_of_getElem? hc)
  have hc4 : c < 4 := by
    have := (List.getElem?_eq_some_iff.mp hc).1
    have := hW.cp.1
    omega
  have hD := zDs_le hW hcl.1
  have nr : ∀ L : List Nat, (L.foldl (zNr g l) (0, zDs g l 0)).2 ≤ 80 := fun L => by
    rw [(zNr_ok g l L (0, zDs g l 0) rfl).1]; exact hD _
  have nr2 : ∀ k, k ≤ 2 ^ g.n → ((zgL g.mu g.n k).foldl (zNr g l) (0, zDs g l 0)).1 < 1024 := fun k hk => by
    rcases (zNr_ok g l (zgL g.mu g.n k) (0, zDs g l 0) rfl).2 with q | q
    · rw [q]; exact (show (0 : Nat) < 1024 by decide)
    · have := (zgL_mem.mp q).1
      omega
  have hwl : ∀ S i, i < (ztx g.T S).length → zgt (ztx g.T S) i < 100 := fun S i hi => h.wl hi
  have hll : ∀ i, i < l.length → zgt l i < 100 := fun i hi => by rw [zgt_eq hi]; exact hcl.2 _ (List.getElem_mem hi)
  refine zw_cnt (2 ^ g.n) (fun j v => ∃ u, v = ((zmo g l j).1, (zmo g l j).2, nI j, u) ∧ zMZ s u ∧ ∀ i, i < l.length → zA u 89 i = nI (zgt l i)) ?_ ?_ N 0 _ (by omega) (by omega) ⟨t, rfl, hq, hB⟩
  · rintro self v ⟨u, rfl, hu, hb⟩
    have ru := zMR_Z h hu
    dsimp only [bX12_nearest_73, zq_let]
    rw [mX12_all_eq N ru.i.mk hW.n, zb2_some]
    dsimp only
    rw [if_pos (nI_lt (by omega) (by omega))]
    refine ⟨_, rfl, ?_, ru.i, zMZ_Q hu⟩
    rw [zmo_s g l (show 2 ^ g.n ≠ 0 by omega)]
    rfl
  · rintro self j v hj ⟨u, rfl, hu, hb⟩ hself
    have ru := zMR_Z h hu
    dsimp only [bX12_nearest_73, jX12_nearest_j158, zq_let]
    rw [mX12_all_eq N ru.i.mk hW.n, zb2_some]
    dsimp only
    rw [if_neg (nI_nlt (by omega) (by omega)), zck_nI (by omega) (by decide), zga_nI _ _ (by omega), ru.good hj, nI_1]
    cases hg : zgd g.mu j g.n with
    | false =>
      rw [zib_f, if_pos rfl]
      refine hself _ ⟨u, ?_, hu, hb⟩
      have hj0 : j ≠ 0 := by
        rintro rfl
        rw [zgd_zero] at hg
        cases hg
      rw [zmo_s g l hj0, zmo_s g l (show j + 1 ≠ 0 by omega), zgo_s, hg]
      rfl
    | true =>
      rw [zib_t, if_neg (show ¬ (1 : Int32) = 0 by decide), mX12_fill_a88_r N hN ru.mx hW hj, zb2_some]
      dsimp only
      have e92 : zA (zFl 88 (ztx g.T j) u) 92 c = nI l.length := by
        unfold zFl
        rw [zA_ne _ (by decide)]
        exact (ru.i.c3.2.2.2 c l hc).1
      rw [zck_nI hc4 (by decide), zga_nI _ _ (by omega), e92, mX12_distance_eq N hN (ru.ln j) hcl.1 (w := zgt (ztx g.T j)) (u := zgt l) ?_ ?_ (hwl j) hll, zb2_some]
      · dsimp only
        rw [zdist_sym]
        have hu2 : zMZ s (zsA (zFl 88 (ztx g.T j) u) 90 (zarr (l.length + 1) (fun m => (zD (zeq (ztx g.T j).length (zgt (ztx g.T j)) (zgt l)) (ztx g.T j).length m).toNat) (zA (zFl 88 (ztx g.T j) u) 90))) :=
          (hu.tr ((zFl_fr 88 (ztx g.T j) u).mo (by decide) (by decide) (by decide))).tr (zfr_sA 90 _ (by decide))
        refine hself _ ⟨_, ?_, hu2, fun i hi => ?_⟩
        · have hD2 := nr (zgL g.mu g.n j)
          have hDj := hD j
          have hDe : zdist l.length (zgt l) (ztx g.T j).length (zgt (ztx g.T j)) = zDs g l j := rfl
          rw [hDe]
          by_cases hj0 : j = 0
          · subst hj0
            rw [zmo_0, zmo_s g l (show 0 + 1 ≠ 0 by decide), show 0 + 1 = 1 from rfl, zgL_1, List.foldl_cons, List.foldl_nil, zNr, if_neg (Nat.lt_irrefl _)]
            rfl
          · rw [zmo_s g l hj0, zmo_s g l (show j + 1 ≠ 0 by omega), zgo_s, hg, if_pos rfl, zNr]
            dsimp only
            rw [if_neg (nI_nneg (by have := nr2 j (by omega); omega))]
            by_cases q2 : zDs g l j < ((zgL g.mu g.n j).foldl (zNr g l) (0, zDs g l 0)).2
            · have c1 : ¬ nI ((zgL g.mu g.n j).foldl (zNr g l) (0, zDs g l 0)).2 ≤ nI (zDs g l j) := by rw [nI_leI (by omega) (by omega)]; omega
              simp only [if_neg c1, if_pos q2]
              rfl
            · have c1 : nI ((zgL g.mu g.n j).foldl (zNr g l) (0, zDs g l 0)).2 ≤ nI (zDs g l j) := by rw [nI_leI (by omega) (by omega)]; omega
              simp only [if_pos c1, if_neg q2]
              rfl
        · rw [zA_ne _ (by decide)]
          unfold zFl
          rw [zA_ne _ (by decide)]
          exact hb i hi
      · intro i hi
        unfold zFl
        rw [zA_self, zarr_get _ _ hi]
      · intro i hi
        unfold zFl
        rw [zA_ne _ (by decide)]
        exact hb i hi
theorem mX12_in1 (N : Nat) (p : Int32) (s : zq_S) : mX12_in N (Int32.toInt64 p) 0 1 s = some (if ¬ p < 0 ∧ ¬ nI 2 ≤ p then 1 else 0, s) := by
  rw [mX12_in_eq]
  congr 2
  exact zif_iff (zin_c (c := 1) (by decide) p)
theorem zi_01 (p : Int32) : ((p = 0 ∨ p = 1) ∧ (¬ p < 0 ∧ ¬ nI 2 ≤ p)) ∨ (p ≠ 0 ∧ p ≠ 1 ∧ ¬ (¬ p < 0 ∧ ¬ nI 2 ≤ p)) := by
  rcases zarg (c := 2) (by decide) p with z | ⟨x, hx, rfl, z⟩
  · refine Or.inr ⟨?_, ?_, z⟩
    · rintro rfl; exact z (by decide)
    · rintro rfl; exact z (by decide)
  · refine Or.inl ⟨?_, z⟩
    have : x = 0 ∨ x = 1 := by omega
    rcases this with rfl | rfl
    · exact Or.inl rfl
    · exact Or.inr rfl
theorem pub_nearest (N : Nat) (hN : 5000 ≤ N) {g : zG} (hW : zGW g) (p q : Int32) : zAg g g (mX11_nearest N p q) (mX12_nearest N p q) := by
  rcases zcparg hW p with z | ⟨c, l, hc, hc4, rfl, z⟩
  · refine ⟨-1001, fun s h => ?_, fun s h => ?_⟩
    · unfold mX11_nearest
      rw [h.hc N, if_neg z, zb2_some]
      exact ⟨_, rfl, rfl, h, zSM_rfl⟩
    · unfold mX12_nearest
      rw [h.ic N, if_neg z, zb2_some]
      exact ⟨_, rfl, rfl, h, zSX_rfl⟩
  have hcl := hW.cp.2 l (List.mem_of_getElem? hc)
  rcases zi_01 q with ⟨e, y⟩ | ⟨e1, e2, y⟩
  · have hS := zNe_ok (g := g) l
    have s1 := zlt_pow hW.n hS.1
    refine ⟨if q = 0 then nI (zNe g l).2 else nI (zNe g l).1, fun s h => ?_, fun s h => ?_⟩
    · unfold mX11_nearest
      rw [h.hc N, if_pos z, zb2_some]
      dsimp only
      rw [if_neg (show ¬ (1 : Int32) = 0 by decide)]
      have key : zw (jX11_nearest_j28 N (nI c) q s) (fun v => v.1 = (if q = 0 then nI (zNe g l).2 else nI (zNe g l).1) ∧ zXI g v.2 ∧ zSM s v.2) := by
        unfold jX11_nearest_j28
        refine zw_call (xw_nearestSet N hN h hc) (fun r t ⟨k1, k2, k3⟩ => ?_)
        dsimp only at k1
        subst k1
        by_cases e0 : q = 1
        · rw [if_pos e0, e0, if_neg (show ¬ (1 : Int32) = 0 by decide)]
          exact ⟨_, rfl, rfl, k2, zXG_SM k3⟩
        · rw [if_neg e0, if_pos (e.resolve_right e0)]
          refine zw_call (xw_with N hN k2 s1) (fun r t5 ⟨n1, n2, n3, _⟩ => ?_)
          refine zw_call (xw_btw N hN n1 hc s1 n3) (fun r t6 ⟨o1, o2, o3⟩ => ?_)
          refine ⟨_, rfl, ?_, o2, zXG_SM ((k3.tr n2).tr o3)⟩
          dsimp only at o1 ⊢
          rw [o1, hS.2]
      rcases e with e | e
      · rw [if_pos e]; exact key
      · rw [if_neg (by rw [e]; decide), if_pos e]; exact key
    · unfold mX12_nearest
      rw [h.ic N, if_pos z, zb2_some]
      dsimp only
      rw [if_neg (show ¬ (1 : Int32) = 0 by decide), mX12_in1, if_pos y, zb2_some]
      dsimp only
      rw [if_neg (show ¬ (1 : Int32) = 0 by decide)]
      refine zw_call (mw_findTexts N hN h) (fun r t ⟨k1, k2⟩ => ?_)
      obtain ⟨c1, c2⟩ := k1.i.c3.2.2.2 c l hc
      refine zw_cnt l.length (fun j v => v = (nI j, zsA t 89 (zarr j (zgt l) (zA t 89)))) ?_ ?_ N 0 _ (by omega) (by omega) ?_
      · rintro self v rfl
        dsimp only [bX12_nearest_32]
        rw [zck_nI hc4 (by decide), zga_nI _ _ (by omega), zA_ne _ (by decide), c1, if_pos (nI_le (Nat.le_refl _) (by omega))]
        refine zw_mono (mw_near N hN k1 hc (zfr_sA 89 _ (by decide)) (fun i hi => by rw [zA_self, zarr_get _ _ hi]) e) ?_
        rintro v ⟨a, b, d⟩
        exact ⟨a, b, zMQ_SX ((zMG_Q k2).tr d)⟩
      · rintro self j v hj rfl hself
        dsimp only [bX12_nearest_32, zq_let]
        rw [zck_nI hc4 (by decide), zga_nI _ _ (by omega), zA_ne _ (by decide), c1, if_neg (by rw [nI_leI (by omega) (by omega)]; omega), zn_40, nI_add, zck_nI (by omega) (by decide), zck_nI (by omega) (by decide), zga_nI _ _ (by omega), zA_ne _ (by decide), c2 j hj, zpa_nI _ _ (by omega), zA_self, zarr_push, zsA_sA, nI_1]
        exact hself _ rfl
      · rw [zarr_0, zsA_same]; rfl
  · refine ⟨-1002, fun s h => ?_, fun s h => ?_⟩
    · unfold mX11_nearest
      rw [h.hc N, if_pos z, zb2_some]
      dsimp only
      rw [if_neg (show ¬ (1 : Int32) = 0 by decide), if_neg e1, if_neg e2]
      exact ⟨_, rfl, rfl, h, zSM_rfl⟩
    · unfold mX12_nearest
      rw [h.ic N, if_pos z, zb2_some]
      dsimp only
      rw [if_neg (show ¬ (1 : Int32) = 0 by decide), mX12_in1, if_neg y, zb2_some]
      exact ⟨_, rfl, rfl, h, zSX_rfl⟩
