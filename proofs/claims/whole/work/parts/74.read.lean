/-! reading texts: likeness, times, breaks, rows -/
/-- breaks at the first j pairs of places -/
def zbk (bs : Nat → Nat → Bool) (ws : List Nat) : Nat → Nat
  | 0 => 0
  | j + 1 => zbk bs ws j + (if bs (zgt ws j) (zgt ws (j + 1)) then 1 else 0)
def zbks (bs : Nat → Nat → Bool) (ws : List Nat) : Nat := zbk bs ws (ws.length - 1)
theorem zbk_le (bs : Nat → Nat → Bool) (ws : List Nat) : ∀ j, zbk bs ws j ≤ j := by
  intro j
  induction j with
  | zero => exact Nat.le_refl _
  | succ j ih => unfold zbk; split <;> omega
theorem zcn_0 {P : Nat → Bool} : ∀ n, zcn P n = 0 → ∀ q, q < n → P q = false := by
  intro n
  induction n with
  | zero => intro _ q hq; omega
  | succ n ih =>
    intro h q hq
    unfold zcn at h
    by_cases e : q = n
    · subst e
      cases z : P q with
      | false => rfl
      | true => rw [z] at h; simp at h
    · exact ih (by omega) q (by omega)
theorem znb_0 {g : zG} (h : zGW g) (h0 : g.nb = 0) {x y : Nat} (hx : x < 100) (hy : y < 100) : g.bs x y = false := by
  have := zcn_0 10000 (by rw [h.nb.2, h0]) (100 * x + y) (by omega)
  rw [show (100 * x + y) / 100 = x by omega, show (100 * x + y) % 100 = y by omega] at this
  exact this
section zMRs2
variable {g : zG} {s : zq_S}
theorem mX12_areLike_r (N : Nat) (hN : 5000 ≤ N) (h : zMR g s) {a b : Nat} (ha : a < 2 ^ g.n) (hb : b < 2 ^ g.n) : mX12_areLike N (nI a) (nI b) s = some (if ztx g.T a = ztx g.T b then 1 else 0, s) := by
  have h1 := h.p ha
  have h2 := h.p hb
  have hl := h.ln a
  have hm := h.ln b
  have hno : ztx g.T a ≠ ztx g.T b → jX12_areLike_j35 N (nI a) (nI b) s = some (if ztx g.T a = ztx g.T b then 1 else 0, s) := by
    intro e
    rw [if_neg e]
    unfold jX12_areLike_j35 jX12_areLike_j36
    obtain ⟨M, rfl⟩ : ∃ M', N = M' + 1 := ⟨N - 1, by omega⟩
    rw [zq_loop_s]
    dsimp only [bX12_areLike_40, jX12_areLike_j94]
    rw [zck_nI h1 (by decide), if_pos rfl, zb_0]
    split <;> rfl
  unfold mX12_areLike
  rw [zck_nI h1 (by decide), zck_nI h2 (by decide), zga_nI _ _ (by omega), zga_nI _ _ (by omega), h.sz ha, h.sz hb, zif_nI (by omega) (by omega)]
  by_cases q : (ztx g.T a).length = (ztx g.T b).length
  · rw [if_pos q, zck_nI h1 (by decide), zck_nI h2 (by decide), zgl_nI _ _ (by omega), zgl_nI _ _ (by omega), zif_lgc, (h.mx a ha).2.2, (h.mx b hb).2.2]
    by_cases q2 : zhs (ztx g.T a) = zhs (ztx g.T b)
    · rw [if_pos q2]
      unfold jX12_areLike_j36
      refine zw_of (zw_cnt (ztx g.T a).length (fun j v => v = ((if ∀ i, i < j → zgt (ztx g.T a) i = zgt (ztx g.T b) i then (1 : Int32) else 0), nI j, s)) ?_ ?_ N 0 _ (by omega) (by omega) ?_)
      · rintro self v rfl
        dsimp only [bX12_areLike_40, jX12_areLike_j94]
        rw [zck_nI h1 (by decide), zga_nI _ _ (by omega), h.sz ha, if_pos (nI_le (Nat.le_refl _) (by omega)), zb_if]
        refine ⟨_, rfl, ?_⟩
        congr 1
        exact zif_iff ⟨fun z => zl_eq.mp ⟨q, z⟩, fun z => (zl_eq.mpr z).2⟩
      · rintro self j v hj rfl hself
        dsimp only [bX12_areLike_40, jX12_areLike_j94, zq_let]
        rw [zck_nI h1 (by decide), zga_nI _ _ (by omega), h.sz ha, if_neg (by rw [nI_leI (by omega) (by omega)]; omega)]
        by_cases z : ∀ i, i < j → zgt (ztx g.T a) i = zgt (ztx g.T b) i
        · have w1 := h.wl hj
          have w2 := h.wl (S := b) (i := j) (by omega)
          rw [if_pos z, if_neg (by decide), zn_40, zn_40, nI_add, nI_add, zck_nI (by omega) (by decide), zck_nI (by omega) (by decide), zga_nI _ _ (by omega), zga_nI _ _ (by omega), h.wd ha hj, h.wd hb (by omega), nI_1, zif_nI (by omega) (by omega)]
          apply hself
          congr 1
          refine zif_iff ⟨fun y i hi => ?_, fun y => y j (by omega)⟩
          by_cases e : i = j
          · subst e; exact y
          · exact z i (by omega)
        · rw [if_neg z, if_pos rfl, zb_0]
          refine ⟨_, rfl, ?_⟩
          rw [if_neg]
          intro e
          exact z (fun i hi => (zl_eq.mpr e).2 i (by omega))
      · congr 1
    · rw [if_neg q2]
      exact hno (fun e => q2 (by rw [e]))
  · rw [if_neg q]
    exact hno (fun e => q (by rw [e]))
theorem mX12_isTime_r (N : Nat) (hN : 5000 ≤ N) (h : zMR g s) {c S : Nat} {l : List Nat} (hc : g.cp[c]? = some l) (hS : S < 2 ^ g.n) : mX12_isTime N (nI c) (nI S) s = some (if zgd g.mu S g.n = true ∧ ztx g.T S = l then 1 else 0, s) := by
  have h1 := h.p hS
  have hl := h.ln S
  have hc4 : c < 4 := by
    have := (List.getElem?_eq_some_iff.mp hc).1
    have := h.i.W.cp.1
    omega
  have hml := h.i.W.cp.2 l (List.mem_of_getElem? hc)
  obtain ⟨c1, c2⟩ := h.i.c3.2.2.2 c l hc
  have hno : ¬ (zgd g.mu S g.n = true ∧ ztx g.T S = l) → jX12_isTime_j28 N (nI c) (nI S) s = some (if zgd g.mu S g.n = true ∧ ztx g.T S = l then 1 else 0, s) := by
    intro e
    rw [if_neg e]
    unfold jX12_isTime_j28 jX12_isTime_j29
    obtain ⟨M, rfl⟩ : ∃ M', N = M' + 1 := ⟨N - 1, by omega⟩
    rw [zq_loop_s]
    dsimp only [bX12_isTime_33, jX12_isTime_j87]
    rw [zck_nI hc4 (by decide), if_pos rfl, zb_0]
    split <;> rfl
  unfold mX12_isTime
  rw [zck_nI h1 (by decide), zga_nI _ _ (by omega), h.good hS]
  cases hg : zgd g.mu S g.n with
  | false =>
    rw [hg] at hno
    rw [zib_f, if_pos rfl]
    exact hno (fun e => by cases e.1)
  | true =>
    rw [hg] at hno
    rw [zib_t, if_neg (by decide), zck_nI h1 (by decide), zck_nI hc4 (by decide), zga_nI _ _ (by omega), zga_nI _ _ (by omega), h.sz hS, c1, zif_nI (by omega) (by omega)]
    by_cases q : (ztx g.T S).length = l.length
    · rw [if_pos q]
      unfold jX12_isTime_j29
      refine zw_of (zw_cnt l.length (fun j v => v = ((if ∀ i, i < j → zgt (ztx g.T S) i = zgt l i then (1 : Int32) else 0), nI j, s)) ?_ ?_ N 0 _ (by omega) (by omega) ?_)
      · rintro self v rfl
        dsimp only [bX12_isTime_33, jX12_isTime_j87]
        rw [zck_nI hc4 (by decide), zga_nI _ _ (by omega), c1, if_pos (nI_le (Nat.le_refl _) (by omega)), zb_if]
        refine ⟨_, rfl, ?_⟩
        congr 1
        exact zif_iff ⟨fun z => ⟨rfl, zl_eq.mp ⟨q, fun i hi => z i (by omega)⟩⟩, fun z i hi => (zl_eq.mpr z.2).2 i (by omega)⟩
      · rintro self j v hj rfl hself
        dsimp only [bX12_isTime_33, jX12_isTime_j87, zq_let]
        rw [zck_nI hc4 (by decide), zga_nI _ _ (by omega), c1, if_neg (by rw [nI_leI (by omega) (by omega)]; omega)]
        by_cases z : ∀ i, i < j → zgt (ztx g.T S) i = zgt l i
        · have w1 := h.wl (S := S) (i := j) (by omega)
          have w2 : zgt l j < 100 := by rw [zgt_eq hj]; exact hml.2 _ (List.getElem_mem hj)
          rw [if_pos z, if_neg (by decide), zn_40, zn_40, nI_add, nI_add, zck_nI (by omega) (by decide), zck_nI (by omega) (by decide), zga_nI _ _ (by omega), zga_nI _ _ (by omega), h.wd hS (by omega), c2 j hj, nI_1, zif_nI (by omega) (by omega)]
          apply hself
          congr 1
          refine zif_iff ⟨fun y i hi => ?_, fun y => y j (by omega)⟩
          by_cases e : i = j
          · subst e; exact y
          · exact z i (by omega)
        · rw [if_neg z, if_pos rfl, zb_0]
          refine ⟨_, rfl, ?_⟩
          rw [if_neg]
          intro e
          exact z (fun i hi => (zl_eq.mpr e.2).2 i (by omega))
      · congr 1
    · rw [if_neg q]
      exact hno (fun e => q (by rw [e.2]))
theorem zn_100 (a : Nat) : 100 * nI a = nI (100 * a) := by rw [show (100 : Int32) = nI 100 from rfl, nI_mul]
theorem mX12_breaksOf_r (N : Nat) (hN : 5000 ≤ N) (h : zMR g s) {S : Nat} (hS : S < 2 ^ g.n) : mX12_breaksOf N (nI S) s = some (nI (zbks g.bs (ztx g.T S)), s) := by
  have h1 := h.p hS
  have hl := h.ln S
  unfold mX12_breaksOf
  rw [mX12_findTexts_r N hN h, zb2_some]
  dsimp only
  have e0 : ((0 : Int32), (1 : Int32), s) = (fun j => (nI (zbk g.bs (ztx g.T S) j), nI (j + 1), s)) 0 := rfl
  rw [e0]
  refine zq_up ((ztx g.T S).length - 1) (fun j => (nI (zbk g.bs (ztx g.T S) j), nI (j + 1), s)) (fun self => ?_) (fun self j hj => ?_) N 0 (by omega) (by omega)
  · dsimp only [bX12_breaksOf_8]
    rw [zck_nI h1 (by decide), zga_nI _ _ (by omega), h.sz hS, if_pos (nI_le (by omega) (by omega))]
    rfl
  · dsimp only [bX12_breaksOf_8, zq_let]
    have w1 := h.wl (S := S) (i := j) (by omega)
    have w2 := h.wl (S := S) (i := j + 1) (by omega)
    rw [zck_nI h1 (by decide), zga_nI _ _ (by omega), h.sz hS, if_neg (by rw [nI_leI (by omega) (by omega)]; omega), zn_40, nI_add, show 40 * S + (j + 1) = (40 * S + j) + 1 by omega, zn_m1, zck_nI (by omega) (by decide), zck_nI (by omega) (by decide), zga_nI _ _ (by omega), zga_nI _ _ (by omega), show 40 * S + j + 1 = 40 * S + (j + 1) by omega, h.wd hS (by omega), h.wd hS (by omega), zn_100, nI_add, zck_nI (by omega) (by decide), zga_nI _ _ (by omega), h.i.c4.2 _ _ w1 w2, nI_1]
    conv => rhs; unfold zbk
    congr 2
    cases g.bs (zgt (ztx g.T S) j) (zgt (ztx g.T S) (j + 1)) <;> simp [nI_1] <;> rfl
end zMRs2
/-- a row of the reference filled with words -/
def zFl (k : Nat) (ws : List Nat) (s : zq_S) : zq_S := zsA s k (zarr ws.length (zgt ws) (zA s k))
theorem zFl_fr (k : Nat) (ws : List Nat) (s : zq_S) : zfr [] [k] [] s (zFl k ws s) := zfr_sA k _ (List.mem_singleton.mpr rfl)
theorem mX12_fill_a88_r (N : Nat) (hN : 5000 ≤ N) {g : zG} {s : zq_S} {S : Nat} (h : zMx s g.T (2 ^ g.n)) (hW : zGW g) (hS : S < 2 ^ g.n) : mX12_fill_a88 N (nI S) s = some (nI (ztx g.T S).length, zFl 88 (ztx g.T S) s) := by
  have h1 := zlt_pow hW.n hS
  have hl := ztx_len hW.W hW.w40 S
  unfold mX12_fill_a88 zFl
  have e0 : ((0 : Int32), s) = (fun j => (nI j, zsA s 88 (zarr j (zgt (ztx g.T S)) (zA s 88)))) 0 := by
    show _ = (nI 0, zsA s 88 (zarr 0 _ _))
    rw [zarr_0, zsA_same]; rfl
  rw [e0]
  refine zq_up (ztx g.T S).length (fun j => (nI j, zsA s 88 (zarr j (zgt (ztx g.T S)) (zA s 88)))) (fun self => ?_) (fun self j hj => ?_) N 0 (by omega) (by omega)
  · dsimp only [bX12_fill_a88_2]
    rw [zck_nI h1 (by decide), zga_nI _ _ (by omega), zA_ne _ (by decide), (h S hS).1, if_pos (nI_le (Nat.le_refl _) (by omega)), zck_nI h1 (by decide)]
  · dsimp only [bX12_fill_a88_2, zq_let]
    rw [zck_nI h1 (by decide), zga_nI _ _ (by omega), zA_ne _ (by decide), (h S hS).1, if_neg (by rw [nI_leI (by omega) (by omega)]; omega), zn_40, nI_add, zck_nI (by omega) (by decide), zck_nI (by omega) (by decide), zga_nI _ _ (by omega), zA_ne _ (by decide), (h S hS).2.1 j hj, zpa_nI _ _ (by omega), zA_self, zarr_push, zsA_sA, nI_1]
theorem mX12_fill_a89_r (N : Nat) (hN : 5000 ≤ N) {g : zG} {s : zq_S} {S : Nat} (h : zMx s g.T (2 ^ g.n)) (hW : zGW g) (hS : S < 2 ^ g.n) : mX12_fill_a89 N (nI S) s = some (nI (ztx g.T S).length, zFl 89 (ztx g.T S) s) := by
  have h1 := zlt_pow hW.n hS
  have hl := ztx_len hW.W hW.w40 S
  unfold mX12_fill_a89 zFl
  have e0 : ((0 : Int32), s) = (fun j => (nI j, zsA s 89 (zarr j (zgt (ztx g.T S)) (zA s 89)))) 0 := by
    show _ = (nI 0, zsA s 89 (zarr 0 _ _))
    rw [zarr_0, zsA_same]; rfl
  rw [e0]
  refine zq_up (ztx g.T S).length (fun j => (nI j, zsA s 89 (zarr j (zgt (ztx g.T S)) (zA s 89)))) (fun self => ?_) (fun self j hj => ?_) N 0 (by omega) (by omega)
  · dsimp only [bX12_fill_a89_2]
    rw [zck_nI h1 (by decide), zga_nI _ _ (by omega), zA_ne _ (by decide), (h S hS).1, if_pos (nI_le (Nat.le_refl _) (by omega)), zck_nI h1 (by decide)]
  · dsimp only [bX12_fill_a89_2, zq_let]
    rw [zck_nI h1 (by decide), zga_nI _ _ (by omega), zA_ne _ (by decide), (h S hS).1, if_neg (by rw [nI_leI (by omega) (by omega)]; omega), zn_40, nI_add, zck_nI (by omega) (by decide), zck_nI (by omega) (by decide), zga_nI _ _ (by omega), zA_ne _ (by decide), (h S hS).2.1 j hj, zpa_nI _ _ (by omega), zA_self, zarr_push, zsA_sA, nI_1]
theorem mX12_fill_a91_r (N : Nat) (hN : 5000 ≤ N) {g : zG} {s : zq_S} {S : Nat} (h : zMx s g.T (2 ^ g.n)) (hW : zGW g) (hS : S < 2 ^ g.n) : mX12_fill_a91 N (nI S) s = some (nI (ztx g.T S).length, zFl 91 (ztx g.T S) s) := by
  have h1 := zlt_pow hW.n hS
  have hl := ztx_len hW.W hW.w40 S
  unfold mX12_fill_a91 zFl
  have e0 : ((0 : Int32), s) = (fun j => (nI j, zsA s 91 (zarr j (zgt (ztx g.T S)) (zA s 91)))) 0 := by
    show _ = (nI 0, zsA s 91 (zarr 0 _ _))
    rw [zarr_0, zsA_same]; rfl
  rw [e0]
  refine zq_up (ztx g.T S).length (fun j => (nI j, zsA s 91 (zarr j (zgt (ztx g.T S)) (zA s 91)))) (fun self => ?_) (fun self j hj => ?_) N 0 (by omega) (by omega)
  · dsimp only [bX12_fill_a91_2]
    rw [zck_nI h1 (by decide), zga_nI _ _ (by omega), zA_ne _ (by decide), (h S hS).1, if_pos (nI_le (Nat.le_refl _) (by omega)), zck_nI h1 (by decide)]
  · dsimp only [bX12_fill_a91_2, zq_let]
    rw [zck_nI h1 (by decide), zga_nI _ _ (by omega), zA_ne _ (by decide), (h S hS).1, if_neg (by rw [nI_leI (by omega) (by omega)]; omega), zn_40, nI_add, zck_nI (by omega) (by decide), zck_nI (by omega) (by decide), zga_nI _ _ (by omega), zA_ne _ (by decide), (h S hS).2.1 j hj, zpa_nI _ _ (by omega), zA_self, zarr_push, zsA_sA, nI_1]
