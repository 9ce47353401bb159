/-! the reference's inner calls, by the invariant -/
theorem zif_f {α : Type} (x y : α) : (if (if false = true then (1 : Int32) else 0) = 0 then x else y) = x := rfl
theorem zif_t {α : Type} (x y : α) : (if (if true = true then (1 : Int32) else 0) = 0 then x else y) = y := rfl
theorem zib_t : zib true = 1 := rfl
theorem zib_f : zib false = 0 := rfl
theorem zite {α : Type} {c d : Prop} [Decidable c] [Decidable d] (h : c ↔ d) (x y : α) : (if c then x else y) = if d then x else y := by
  by_cases hc : c
  · rw [if_pos hc, if_pos (h.mp hc)]
  · rw [if_neg hc, if_neg (fun q => hc (h.mpr q))]
theorem zif_nI {α : Type} {a b : Nat} (ha : a < 2 ^ 31) (hb : b < 2 ^ 31) (x y : α) : (if nI a = nI b then x else y) = if a = b then x else y := zite (nI_eq ha hb) x y
theorem zif_lgc {α : Type} (a b : Int64) (x y : α) : (if lg_cmp a b = 0 then x else y) = if a = b then x else y := zite (lgc_eq a b) x y
abbrev zMG (s t : zq_S) : Prop := zfr [(57, 37), (57, 44)] [78, 79, 84, 85] [80, 81, 86] s t
theorem zMG_Q {s t : zq_S} (h : zMG s t) : zMQ s t := h.mo (by decide) (by decide) (by decide)
/-- good sets and texts are worked out -/
def zMR (g : zG) (s : zq_S) : Prop := zMI g s ∧ zgf s 57 37 = 1 ∧ zgf s 57 44 = 1
theorem zMR.i {g : zG} {s : zq_S} (h : zMR g s) : zMI g s := h.1
theorem zMR.fd {g : zG} {s : zq_S} (h : zMR g s) : zFD s g.n g.mu := by
  rcases h.1.cm.1 with q | q
  · rw [h.2.1] at q; exact absurd q (by decide)
  · exact q.2
theorem zMR.mx {g : zG} {s : zq_S} (h : zMR g s) : zMx s g.T (2 ^ g.n) := by
  rcases h.1.cm.2 with q | q
  · rw [h.2.2] at q; exact absurd q (by decide)
  · exact q.2
theorem zM4_fr (s : zq_S) (a b : Nat → Int32) (c d : Nat → Int64) : zMG s (zpf (zM4 s a b c d) 57 37 1) := by
  refine ⟨fun k j q => ?_, fun _ => rfl, fun k q => ?_, fun k q => ?_⟩
  · simp only [List.mem_cons, Prod.mk.injEq, List.not_mem_nil, or_false] at q
    rw [zgf_pf, if_neg (by omega)]; rfl
  · simp only [List.mem_cons, List.not_mem_nil, or_false] at q
    rw [zA_pf, zM4_A _ _ _ _ _ (by omega) (by omega)]
  · simp only [List.mem_cons, List.not_mem_nil, or_false] at q
    show zL (zsL (zsL _ 80 c) 81 d) k = _
    rw [zL_ne _ (by omega), zL_ne _ (by omega)]; rfl
theorem mw_find (N : Nat) (hN : 5000 ≤ N) {g : zG} {s : zq_S} (h : zMI g s) :
    zw (mX12_find N s) (fun v => zMI g v.2 ∧ zMG s v.2 ∧ zgf v.2 57 37 = 1 ∧ zgf v.2 57 44 = zgf s 57 44 ∧ zFD v.2 g.n g.mu) := by
  obtain ⟨a, b, c, d, e, hF⟩ := mX12_find_eq N hN h.W.n h.mk h.mu h.W.mu h.cm.1
  have hq := zM4_fr s a b c d
  refine ⟨_, e, zMI_Q h (zMG_Q hq) ⟨Or.inr ⟨rfl, hF⟩, ?_⟩, hq, rfl, rfl, hF⟩
  exact h.cm.2
theorem mX12_find_r (N : Nat) {s : zq_S} (h : zgf s 57 37 = 1) : mX12_find N s = some ((), s) := by
  unfold mX12_find
  rw [h, if_neg (by decide)]
theorem zMt_fr (S : Nat) (ws : List Nat) (s : zq_S) : zfr [] [84, 85] [86] s (zMt S ws s) := by
  refine ⟨fun _ _ _ => rfl, fun _ => rfl, fun k q => ?_, fun k q => ?_⟩
  · simp only [List.mem_cons, List.not_mem_nil, or_false] at q
    exact zMt_A _ _ _ (by omega) (by omega)
  · simp only [List.mem_cons, List.not_mem_nil, or_false] at q
    exact zMt_L _ _ _ (by omega)
theorem zMS_fr {s t : zq_S} {T : zSh} (h : zMS s T) (hq : zfr [] [84, 85] [86] s t) : zMS t T := by
  obtain ⟨hf, hb, ha, hl⟩ := hq
  unfold zMS at h ⊢
  simp (disch := decide) only [hf, ha, hl] at h ⊢
  exact h
theorem mw_texts_end (N : Nat) (hN : 5000 ≤ N) {g : zG} {s t : zq_S} (h : zMI g s) (hq : zfr [] [84, 85] [86] s t) (hx : zMx t g.T (2 ^ g.n)) :
    zw (jX12_findTexts_j28 N t) (fun v => zMR g v.2 ∧ zMG s v.2) := by
  have hq1 : zMG s (zpf t 57 44 1) := (zfr.mo hq (by decide) (by decide) (by decide)).tr (zfr_pf 57 44 1 (by decide))
  have h1 : zMI g (zpf t 57 44 1) := by
    refine zMI_Q h (zMG_Q hq1) ⟨?_, Or.inr ⟨rfl, hx⟩⟩
    have e := h.cm.1
    have e1 : zgf (zpf t 57 44 1) 57 37 = zgf s 57 37 := hq.f 57 37 (by decide)
    rw [e1]
    rcases e with e | ⟨e, e2⟩
    · exact Or.inl e
    · refine Or.inr ⟨e, ?_⟩
      unfold zFD at e2 ⊢
      have a1 : zA (zpf t 57 44 1) 78 = zA s 78 := hq.a 78 (by decide)
      have a2 : zA (zpf t 57 44 1) 79 = zA s 79 := hq.a 79 (by decide)
      have a3 : zL (zpf t 57 44 1) 80 = zL s 80 := hq.l 80 (by decide)
      have a4 : zL (zpf t 57 44 1) 81 = zL s 81 := hq.l 81 (by decide)
      rw [a1, a2, a3, a4]
      exact e2
  unfold jX12_findTexts_j28
  rw [zw_let]
  refine zw_call (mw_find N hN h1) (fun r t2 ⟨k1, k2, k3, k4, k5⟩ => ?_)
  exact ⟨_, rfl, ⟨k1, k3, k4⟩, hq1.tr k2⟩
theorem mw_findTexts (N : Nat) (hN : 5000 ≤ N) {g : zG} {s : zq_S} (h : zMI g s) :
    zw (mX12_findTexts N s) (fun v => zMR g v.2 ∧ zMG s v.2) := by
  have hp := zn_pow h.W.n
  have h0 : 0 < 2 ^ g.n := Nat.pow_pos (by decide)
  unfold mX12_findTexts
  rcases h.cm.2 with q | ⟨q, hx⟩
  · refine zw_cnt (2 ^ g.n) (fun j v => ∃ t, v = (nI j, t) ∧ zfr [] [84, 85] [86] s t ∧ zMx t g.T j) ?_ ?_ N 0 _ (by omega) (by omega) ⟨s, rfl, zfr_rfl, fun S hS => absurd hS (Nat.not_lt_zero _)⟩
    · rintro self v ⟨t, rfl, hq, hx⟩
      dsimp only [bX12_findTexts_2]
      rw [mX12_all_eq N (by rw [hq.f 57 6 (by decide)]; exact h.mk) h.W.n, zb2_some]
      dsimp only
      rw [if_pos (nI_lt (by omega) (by omega))]
      exact mw_texts_end N hN h hq hx
    · rintro self j v hj ⟨t, rfl, hq, hx⟩ hself
      dsimp only [bX12_findTexts_2]
      rw [mX12_all_eq N (by rw [hq.f 57 6 (by decide)]; exact h.mk) h.W.n, zb2_some]
      dsimp only
      rw [if_neg (nI_nlt (by omega) (by omega)), hq.f 57 44 (by decide), q, if_pos rfl, mX12_writeText_eq N hN h.W.W h.W.R h.W.w40 (zMS_fr h.ms hq) (by omega), zb2_some]
      dsimp only [zq_let]
      rw [nI_1]
      exact hself _ ⟨_, rfl, hq.tr (zMt_fr _ _ _), zMx_s h.W.W h.W.w40 hx⟩
  · obtain ⟨M, rfl⟩ : ∃ M', N = M' + 1 := ⟨N - 1, by omega⟩
    rw [zq_loop_s]
    dsimp only [bX12_findTexts_2]
    rw [mX12_all_eq _ h.mk h.W.n, zb2_some]
    dsimp only
    rw [if_neg (nI_nneg (by omega)), q, if_neg (by decide)]
    exact mw_texts_end (M + 1) hN h zfr_rfl hx
theorem mX12_findTexts_r (N : Nat) (hN : 5000 ≤ N) {g : zG} {s : zq_S} (h : zMR g s) : mX12_findTexts N s = some ((), s) := by
  have h0 : 0 < 2 ^ g.n := Nat.pow_pos (by decide)
  have hp := zn_pow h.i.W.n
  unfold mX12_findTexts
  obtain ⟨M, rfl⟩ : ∃ M', N = M' + 1 := ⟨N - 1, by omega⟩
  rw [zq_loop_s]
  dsimp only [bX12_findTexts_2, jX12_findTexts_j28, zq_let]
  rw [mX12_all_eq _ h.i.mk h.i.W.n, zb2_some]
  dsimp only
  rw [if_neg (nI_nneg (by omega)), h.2.2, if_neg (by decide)]
  have e : zpf s 57 44 1 = s := by
    have := zpf_same s 57 44
    rw [h.2.2] at this
    exact this
  rw [e, mX12_find_r _ h.2.1, zb2_some]
-- numbers within bounds
theorem zin_lt {n : Nat} (hn : n < 2 ^ 30) (m : Int32) : ((0 : Int64) ≤ Int32.toInt64 m ∧ Int32.toInt64 m ≤ Int32.toInt64 (nI n - 1)) ↔ (¬ m < 0 ∧ ¬ nI n ≤ m) := by
  simp only [Int64.le_iff_toInt_le, Int32.toInt_toInt64, Int32.lt_iff_toInt_lt, Int32.le_iff_toInt_le, nI_toInt (show n < 2 ^ 31 by omega), Int32.toInt_zero]
  have e : (nI n - 1).toInt = (n : Int) - 1 := pk_sub_toInt (a := n) (b := 1) (by omega) (by omega)
  rw [e]
  have e0 : (0 : Int64).toInt = 0 := rfl
  rw [e0]
  omega
theorem zin_c {c : Nat} (hc : c < 2 ^ 30) (m : Int32) : ((0 : Int64) ≤ Int32.toInt64 m ∧ Int32.toInt64 m ≤ lN c) ↔ (¬ m < 0 ∧ ¬ nI (c + 1) ≤ m) := by
  simp only [Int64.le_iff_toInt_le, Int32.toInt_toInt64, Int32.lt_iff_toInt_lt, Int32.le_iff_toInt_le, nI_toInt (show c + 1 < 2 ^ 31 by omega), Int32.toInt_zero, pk_lT (show c < 2 ^ 63 by omega)]
  have e0 : (0 : Int64).toInt = 0 := rfl
  rw [e0]
  omega
theorem zarg {c : Nat} (hc : c < 2 ^ 31) (p : Int32) : ¬ (¬ p < 0 ∧ ¬ nI c ≤ p) ∨ ∃ x, x < c ∧ p = nI x ∧ ¬ p < 0 ∧ ¬ nI c ≤ p := by
  by_cases h : ¬ p < 0 ∧ ¬ nI c ≤ p
  · refine Or.inr ?_
    obtain ⟨x, hx, rfl⟩ := nI_of h.1
    have := h.2
    rw [nI_leI (by omega) hx] at this
    exact ⟨x, by omega, rfl, h⟩
  · exact Or.inl h
theorem zargS {n : Nat} (hn : n ≤ 10) (p : Int32) : ¬ (¬ p < 0 ∧ p ≤ nI (2 ^ n - 1)) ∨ ∃ x, x < 2 ^ n ∧ p = nI x ∧ (¬ p < 0 ∧ p ≤ nI (2 ^ n - 1)) := by
  have hp := zn_pow hn
  have h0 : 0 < 2 ^ n := Nat.pow_pos (by decide)
  by_cases h : ¬ p < 0 ∧ p ≤ nI (2 ^ n - 1)
  · obtain ⟨S, h1, h2⟩ := nI_of2 (nI_toInt (by omega)) h.1 h.2
    exact Or.inr ⟨S, by omega, h2, h⟩
  · exact Or.inl h
-- reading, where all is worked out
section zMRs
variable {g : zG} {s : zq_S}
theorem zMR.sz (h : zMR g s) {S : Nat} (hS : S < 2 ^ g.n) : zA s 84 S = nI (ztx g.T S).length := (h.mx S hS).1
theorem zMR.wd (h : zMR g s) {S i : Nat} (hS : S < 2 ^ g.n) (hi : i < (ztx g.T S).length) : zA s 85 (40 * S + i) = nI (zgt (ztx g.T S) i) := (h.mx S hS).2.1 i hi
theorem zMR.good (h : zMR g s) {S : Nat} (hS : S < 2 ^ g.n) : zA s 78 S = zib (zgd g.mu S g.n) := h.fd.1 S hS
theorem zMR.nx (h : zMR g s) {S : Nat} (hS : S < 2 ^ g.n) : zA s 79 S = nI (znx g.mu S g.n) := h.fd.2.1 S hS
theorem zMR.ln (h : zMR g s) (S : Nat) : (ztx g.T S).length ≤ 40 := ztx_len h.i.W.W h.i.W.w40 S
theorem zMR.wl (h : zMR g s) {S i : Nat} (hi : i < (ztx g.T S).length) : zgt (ztx g.T S) i < 100 := by
  rw [zgt_eq hi]
  exact ztx_wd h.i.W.w40 S _ (List.getElem_mem hi)
theorem zMR.p (h : zMR g s) {S : Nat} (hS : S < 2 ^ g.n) : S < 1024 := zlt_pow h.i.W.n hS
theorem mX12_wordAt_r (N : Nat) (h : zMR g s) {S : Nat} (hS : S < 2 ^ g.n) (p : Int32) : mX12_wordAt N (nI S) p s = some (zwr (ztx g.T S) p, s) := by
  have h1 := h.p hS
  have hl := h.ln S
  unfold mX12_wordAt zwr jX12_wordAt_j47
  by_cases q : p = -1
  · rw [if_pos q, if_pos q, zck_nI h1 (by decide), zga_nI _ _ (by omega), h.sz hS]
  · rw [if_neg q, if_neg q, zck_nI h1 (by decide), mX12_in_eq, zb2_some, zga_nI _ _ (by omega), h.sz hS]
    dsimp only
    rw [show (if (0 : Int64) ≤ Int32.toInt64 p ∧ Int32.toInt64 p ≤ Int32.toInt64 (nI (ztx g.T S).length - 1) then (1 : Int32) else 0) = if ¬ p < 0 ∧ ¬ nI (ztx g.T S).length ≤ p then 1 else 0 from zif_iff (zin_lt (by omega) p)]
    rcases zarg (c := (ztx g.T S).length) (by omega) p with z | ⟨x, hx, rfl, z⟩
    · rw [if_neg z, if_pos rfl]
      by_cases q1 : p < 0
      · rw [if_pos q1]
      · rw [if_neg q1, if_neg]
        intro q2
        apply z
        refine ⟨q1, ?_⟩
        rw [Int32.lt_iff_toInt_lt] at q2
        rw [Int32.le_iff_toInt_le]
        omega
    · rw [if_pos z, if_neg (by decide), if_neg z.1, zn_40, nI_add, zck_nI (by omega) (by decide), zga_nI _ _ (by omega), h.wd hS hx, if_pos (by rw [nI_ltI (by omega) (by omega)]; exact hx), nI_clamp (by omega)]
theorem mX12_stands_r (N : Nat) (hN : 5000 ≤ N) (h : zMR g s) {S x : Nat} (hS : S < 2 ^ g.n) (hx : x < 100) : mX12_stands N (nI S) (nI x) s = some (if x ∈ ztx g.T S then 1 else 0, s) := by
  have h1 := h.p hS
  have hl := h.ln S
  unfold mX12_stands
  have e0 : ((0 : Int32), (0 : Int32), s) = (fun j => ((if x ∈ (ztx g.T S).take j then (1 : Int32) else 0), nI j, s)) 0 := by
    show _ = ((if x ∈ (ztx g.T S).take 0 then (1 : Int32) else 0), nI 0, s)
    rw [List.take_zero, if_neg (by simp)]; rfl
  rw [e0]
  refine zq_up (ztx g.T S).length (fun j => ((if x ∈ (ztx g.T S).take j then (1 : Int32) else 0), nI j, s)) (fun self => ?_) (fun self j hj => ?_) N 0 (by omega) (by omega)
  · dsimp only [bX12_stands_5]
    rw [zck_nI h1 (by decide), zga_nI _ _ (by omega), h.sz hS, if_pos (nI_le (Nat.le_refl _) (by omega)), zb_if, List.take_length]
  · dsimp only [bX12_stands_5, jX12_stands_j36, jX12_stands_j41, zq_let]
    have hw := h.wl hj
    rw [zck_nI h1 (by decide), zga_nI _ _ (by omega), h.sz hS, if_neg (by rw [nI_leI (by omega) (by omega)]; omega), zn_40, nI_add, zck_nI (by omega) (by decide), zga_nI _ _ (by omega), h.wd hS hj, nI_1]
    have e : (ztx g.T S).take (j + 1) = (ztx g.T S).take j ++ [zgt (ztx g.T S) j] := by rw [zgt_eq hj, List.take_succ_eq_append_getElem hj]
    rw [e]
    by_cases q : x ∈ (ztx g.T S).take j
    · rw [if_pos q, if_neg (by decide), if_pos (List.mem_append_left _ q)]
    · rw [if_neg q, if_pos rfl, zif_nI (by omega) (by omega)]
      by_cases q2 : zgt (ztx g.T S) j = x
      · rw [if_pos q2, if_pos (List.mem_append_right _ (by rw [q2]; exact List.mem_singleton.mpr rfl))]
      · rw [if_neg q2, if_neg]
        intro z
        rcases List.mem_append.mp z with z | z
        · exact q z
        · exact q2 (List.mem_singleton.mp z).symm
end zMRs
