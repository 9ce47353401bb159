/-! write, see, copy, drop, bar -/
theorem zgt_last (l : List Nat) (x : Nat) : zgt (l ++ [x]) l.length = x := by unfold zgt; simp [List.getD]
theorem zgt_left {l : List Nat} {k : Nat} (r : List Nat) (h : k < l.length) : zgt (l ++ r) k = zgt l k := by
  unfold zgt
  simp [List.getD, List.getElem?_append_left h]
def zG.setD (g : zG) (D : (List Nat × List (List Nat)) × ((Nat → Nat → Bool) × Nat) × (List Nat × Int32)) : zG := (g.1, g.2.1, D.1, D.2.1, D.2.2, g.2.2.2.2.2)
abbrev zXD (s t : zq_S) : Prop := zfr [(56, 5), (42, 1), (26, 1), (0, 12)] [53, 27] [52, 43] s t
abbrev zMD (s t : zq_S) : Prop := zfr [(57, 52), (57, 54), (57, 59), (57, 16), (57, 17)] [91, 92, 93, 96, 70] [] s t
theorem zXI_set {g : zG} {s t : zq_S} (h : zXI g s) (hq : zXD s t) {D : (List Nat × List (List Nat)) × ((Nat → Nat → Bool) × Nat) × (List Nat × Int32)} (hW : zGW (g.setD D)) (h3 : zX3 D.1.1 D.1.2 t) (h4 : zX4 D.2.1.1 D.2.1.2 t) (h5 : zX5 D.2.2.1 D.2.2.2 t) : zXI (g.setD D) t ∧ zSM s t := by
  obtain ⟨h0, h1, h2, -, -, -, hc⟩ := h
  refine ⟨⟨hW, ?_, ?_, h3, h4, h5, ?_⟩, ?_⟩
  · obtain ⟨hf, hb, ha, hl⟩ := hq
    unfold zX1 zXS at h1 ⊢
    cases q : zgb s 0 with
    | false =>
      simp only [q, hb] at h1 ⊢
      simp (disch := decide) only [hf, ha, hl] at h1 ⊢
      exact h1
    | true =>
      simp only [q, hb] at h1 ⊢
      simp (disch := decide) only [hf, ha, hl] at h1 ⊢
      exact h1
  · obtain ⟨hf, hb, ha, hl⟩ := hq
    unfold zX2 at h2 ⊢
    simp (disch := decide) only [hf, ha, hl] at h2 ⊢
    exact h2
  · obtain ⟨hf, hb, ha, hl⟩ := hq
    unfold zCa zGD zWV zTc zRow zSV zVV at hc ⊢
    simp (disch := decide) only [hf, ha, hl] at hc ⊢
    exact hc
  · refine ⟨fun k j hk => hq.f k j ?_, fun k hk => hq.a k ?_, fun k hk => hq.l k ?_⟩
    · intro q; simp only [List.mem_cons, Prod.mk.injEq, List.not_mem_nil, or_false] at q; omega
    · intro q; simp only [List.mem_cons, List.not_mem_nil, or_false] at q; omega
    · intro q; simp only [List.mem_cons, List.not_mem_nil, or_false] at q; omega
theorem zMI_set {g : zG} {s t : zq_S} (h : zMI g s) (hq : zMD s t) {D : (List Nat × List (List Nat)) × ((Nat → Nat → Bool) × Nat) × (List Nat × Int32)} (hW : zGW (g.setD D)) (h3 : zM3 D.1.1 D.1.2 t) (h4 : zM4' D.2.1.1 D.2.1.2 t) (h5 : zM5 D.2.2.1 D.2.2.2 t) : zMI (g.setD D) t ∧ zSX s t := by
  obtain ⟨h0, h1, h2, -, -, -, hc⟩ := h
  refine ⟨⟨hW, ?_, ?_, h3, h4, h5, ?_⟩, ?_⟩
  · obtain ⟨hf, hb, ha, hl⟩ := hq
    unfold zM1 zMS at h1 ⊢
    simp (disch := decide) only [hf, ha, hl] at h1 ⊢
    exact h1
  · obtain ⟨hf, hb, ha, hl⟩ := hq
    unfold zM2 at h2 ⊢
    simp (disch := decide) only [hf, ha, hl] at h2 ⊢
    exact h2
  · obtain ⟨hf, hb, ha, hl⟩ := hq
    unfold zCm zFD zMx at hc ⊢
    simp (disch := decide) only [hf, ha, hl] at hc ⊢
    exact hc
  · refine ⟨fun k j hk => hq.f k j ?_, hq.b, fun k hk => hq.a k ?_, fun k hk => hq.l k ?_⟩
    · intro q; simp only [List.mem_cons, Prod.mk.injEq, List.not_mem_nil, or_false] at q; omega
    · intro q; simp only [List.mem_cons, List.not_mem_nil, or_false] at q; omega
    · intro q; simp at q
theorem zTr_same {c : Bool} {s : zq_S} {S : Nat} {ws : List Nat} (h : zRow c s S ws.length (zgt ws)) : zTr c S ws s = s := by
  have hk := h.2.1
  have hw := h.2.2.1
  have key := (zRw_ext h.2.2.2 (zpq_rw ws.length hk (fun k hk' => by have := hw k hk'; omega)) hk (fun i hi => by have := hw i hi; omega) (fun i hi => by have := hw i hi; omega)).mpr (fun _ _ => rfl)
  unfold zTr zrw
  refine zs_ext (fun _ _ => rfl) (fun _ => rfl) (fun a => ?_) (fun a => ?_)
  · rw [zA_sA]
    by_cases q : a = zf c + 2
    · rw [if_pos q, q]
      exact zupd_self _ _ _ h.1
    · rw [if_neg q]; rfl
  · rw [zL_sA, zL_sL]
    by_cases q : a = zf c + 1
    · rw [if_pos q, q]
      funext m
      unfold zrs
      by_cases d : 5 * S ≤ m ∧ m < 5 * S + 5
      · rw [if_pos d, ← key (m - 5 * S) (by omega), show 5 * S + (m - 5 * S) = m by omega]
      · rw [if_neg d]
    · rw [if_neg q]
theorem zTr_fr (c : Bool) (S : Nat) (ws : List Nat) (s : zq_S) : zfr [] [zf c + 2] [zf c + 1] s (zTr c S ws s) := by
  unfold zTr zrw
  exact (zfr_sL (zf c + 1) _ (List.mem_singleton.mpr rfl)).tr (zfr_sA (zf c + 2) _ (List.mem_singleton.mpr rfl))
theorem zTr_other {c : Bool} {s : zq_S} {S R n : Nat} {ws : List Nat} {w : Nat → Nat} (hne : R ≠ S) (h : zRow c s R n w) : zRow c (zTr c S ws s) R n w := zrw_other hne h
theorem mX8_take_eq (N : Nat) {b c : Bool} {s : zq_S} (hF : zgf s (zf b) 0 = nI (zfS b)) (hG : zgf s (zf c) 0 = nI (zfS c)) {r t : Nat} {ws : List Nat} (hr : r < zfS b) (ht : t < zfS c) (h : zRow c s t ws.length (zgt ws)) :
    mX8_take N b c (nI r) (nI t) s = some ((), zTr b r ws s) := by
  have hk := h.2.1
  have hw := h.2.2.1
  have b1 := zfS_le b
  have c1 := zfS_le c
  have hP := zfP_eq b
  have hQ := zfP_eq c
  have key := (zRw_ext h.2.2.2 (zpq_rw ws.length hk (fun k hk' => by have := hw k hk'; omega)) hk (fun i hi => by have := hw i hi; omega) (fun i hi => by have := hw i hi; omega)).mpr (fun _ _ => rfl)
  unfold mX8_take jX8_take_j50
  rw [if_neg (nI_nneg (by omega)), hF, if_neg (by rw [nI_leI (by omega) (by omega)]; omega), mX8_isMade_row N hG ht h, zb2_some]
  dsimp only [zq_let]
  rw [if_neg (show ¬ (1 : Int32) = 0 by decide), zn_mul5, zn_mul5]
  unfold zq_cc
  have e5 : (5 : Int32).toNatClampNeg = 5 := rfl
  rw [nI_clamp (by omega), nI_clamp (by omega), e5, if_pos ⟨nI_nneg (by omega), nI_nneg (by omega), by decide, by omega, by omega⟩, zck_nI ht (by omega), zck_nI hr (by omega), zga_nI _ _ (by omega), zpa_nI _ _ (by omega)]
  unfold zpcl
  rw [nI_clamp (by omega), nI_clamp (by omega), e5]
  congr 2
  unfold zTr zrw
  refine zs_ext (fun _ _ => rfl) (fun _ => rfl) (fun a => ?_) (fun a => ?_)
  · rw [zA_sA, zA_sA, zA_sL, zA_sL, h.1]
    split
    · rfl
    · rfl
  · rw [zL_sA, zL_sA, zL_sL, zL_sL]
    by_cases q : a = zf b + 1
    · rw [if_pos q, if_pos q]
      funext m
      unfold va_cpy zrs
      by_cases d : 5 * r ≤ m ∧ m < 5 * r + 5
      · rw [if_pos d, if_pos d]
        exact key (m - 5 * r) (by omega)
      · rw [if_neg d, if_neg d]; rfl
    · rw [if_neg q, if_neg q]
theorem zrow_words {ws : List Nat} (hl : ws.length ≤ 40) (hw : ∀ x, x ∈ ws → x < 100) {k : Nat} (hk : k < ws.length) : zgt ws k < 100 := by
  rw [zgt_eq hk]
  exact hw _ (List.getElem_mem hk)
theorem step_write (N : Nat) (hN : 5000 ≤ N) {k : Nat} {g : zG} (hk : zOk k g) (p : Int32) : zStep k g (mX11_write N p) (mX12_write N p) := by
  obtain ⟨hW, hmd, hvc⟩ := id hk
  have hd := hW.dr
  rcases zarg (c := 100) (by decide) p with z | ⟨x, hx, rfl, z⟩
  · refine zStep_q hk (zAg_2 ⟨-1002, fun s h => ?_, fun s h => ?_⟩)
    · unfold mX11_write
      rw [mX11_isWord_out N z, zb2_some]
      exact ⟨_, rfl, rfl, h, zSM_rfl⟩
    · unfold mX12_write
      rw [mX12_in99, if_neg z, zb2_some]
      exact ⟨_, rfl, rfl, h, zSX_rfl⟩
  by_cases hl : g.dr.length = 40
  · refine zStep_q hk (zAg_2 ⟨-1004, fun s h => ?_, fun s h => ?_⟩)
    · unfold mX11_write
      rw [mX11_isWord_in N hx, zb2_some]
      dsimp only
      rw [if_neg (show ¬ (1 : Int32) = 0 by decide), show (4 : Int32) = nI 4 from rfl, mX8_sizeOf_row N h.f51 (show 4 < zfS true by decide) h.c3.2.1, zb2_some]
      dsimp only
      rw [hl, if_neg (by decide)]
      exact ⟨_, rfl, rfl, h, zSM_rfl⟩
    · unfold mX12_write
      rw [mX12_in99, if_pos z, zb2_some]
      dsimp only
      rw [if_neg (show ¬ (1 : Int32) = 0 by decide), h.c3.1, hl, if_pos (by rfl)]
      exact ⟨_, rfl, rfl, h, zSX_rfl⟩
  · have hW' : zGW (g.setD ((g.dr ++ [x], g.cp), (g.bs, g.nb), (g.hd, g.fp))) := by
      obtain ⟨h1, h2, h3, h4, h5, h6, h7, h8⟩ := hW
      refine ⟨h1, h2, h3, ⟨?_, ?_⟩, h5, h6, h7, h8⟩
      · show (g.dr ++ [x]).length ≤ 40
        rw [List.length_append, List.length_singleton]; omega
      · intro y hy
        rcases List.mem_append.mp (show y ∈ g.dr ++ [x] from hy) with q | q
        · exact hd.2 y q
        · rw [List.mem_singleton.mp q]; exact hx
    refine ⟨_, ⟨hW', hmd, show g.vc ≤ k + 1 by omega⟩, zAg_2 ⟨nI (g.dr.length + 1), fun s h => ?_, fun s h => ?_⟩⟩
    · unfold mX11_write
      rw [mX11_isWord_in N hx, zb2_some]
      dsimp only
      have e0 := zTr_same h.c3.2.1
      have e1 := zTr_put N (s := s) h.f51 (S := 4) (x := x) (ws := g.dr) (show 4 < zfS true by decide) (by omega)
      rw [e0] at e1
      have f1 := zTr_fr true 4 (g.dr ++ [x]) s
      have hr : zRow true (zTr true 4 (g.dr ++ [x]) s) 4 (g.dr ++ [x]).length (zgt (g.dr ++ [x])) := zTr_row hW'.dr.1 hW'.dr.2
      rw [if_neg (show ¬ (1 : Int32) = 0 by decide), show (4 : Int32) = nI 4 from rfl, mX8_sizeOf_row N h.f51 (show 4 < zfS true by decide) h.c3.2.1, zb2_some]
      dsimp only
      rw [if_pos (by rw [show (40 : Int32) = nI 40 from rfl, nI_ltI (by omega) (by omega)]; omega), e1, zb2_some]
      dsimp only
      rw [mX8_sizeOf_row N (b := true) (by rw [f1.f _ _ (by simp)]; exact h.f51) (show 4 < zfS true by decide) hr, zb2_some]
      refine ⟨_, rfl, by rw [List.length_append]; rfl, zXI_set h (f1.mo (by simp) (by decide) (by decide)) hW' ?_ ?_ ?_⟩
      · refine ⟨by rw [f1.f 51 0 (by simp)]; exact h.c3.1, hr, by rw [f1.f 56 5 (by simp)]; exact h.c3.2.2.1, fun c l hc => ?_⟩
        exact zTr_other (by have := (h.cr hc).1; omega) (h.c3.2.2.2 c l hc)
      · exact h.c4
      · exact h.c5
    · unfold mX12_write
      rw [mX12_in99, if_pos z, zb2_some]
      dsimp only [zq_let]
      rw [if_neg (show ¬ (1 : Int32) = 0 by decide), h.c3.1, if_neg (by rw [show (40 : Int32) = nI 40 from rfl, nI_eq (by omega) (by decide)]; exact hl), zck_nI (by omega) (by decide), zpa_nI _ _ (by omega), zgf_sA, h.c3.1, nI_1]
      refine ⟨_, rfl, rfl, zMI_set h ((zfr_sA 91 _ (by decide)).tr (zfr_pf 57 52 _ (by decide))) hW' ⟨?_, fun i hi => ?_, h.c3.2.2.1, h.c3.2.2.2⟩ h.c4 h.c5⟩
      · show nI (g.dr.length + 1) = nI (g.dr ++ [x]).length
        rw [List.length_append]; rfl
      · rw [zA_pf, zA_self]
        dsimp only at hi ⊢
        rw [List.length_append, List.length_singleton] at hi
        unfold upd
        by_cases c : i = g.dr.length
        · rw [if_pos c, c, zgt_last]
        · rw [if_neg c, h.c3.2.1 i (by omega), zgt_left _ (by omega)]
theorem step_see (N : Nat) (hN : 5000 ≤ N) {k : Nat} {g : zG} (hk : zOk k g) (p : Int32) : zStep k g (mX11_see N p) (mX12_see N p) := by
  obtain ⟨hW, hmd, hvc⟩ := id hk
  rcases zargS hW.n p with z | ⟨S, hS, rfl, z⟩
  · refine zStep_q hk (zAg_2 ⟨-1001, fun s h => ?_, fun s h => ?_⟩)
    · unfold mX11_see
      rw [h.rf0 N hN z, zb2_some]
      exact ⟨_, rfl, rfl, h, zSM_rfl⟩
    · unfold mX12_see
      rw [h.ar N, if_neg z, zb2_some]
      exact ⟨_, rfl, rfl, h, zSX_rfl⟩
  have h1 := zlt_pow hW.n hS
  cases hg : zgd g.mu S g.n with
  | false =>
    refine zStep_q hk (zAg_2 ⟨-1003, fun s h => ?_, fun s h => ?_⟩)
    · unfold mX11_see
      rw [h.rf N hN hS, hg, zb2_some]
      exact ⟨_, rfl, rfl, h, zSM_rfl⟩
    · unfold mX12_see
      rw [h.ar N, if_pos z, zb2_some]
      dsimp only
      rw [if_neg (by decide)]
      refine zw_call (mw_findTexts N hN h) (fun r t ⟨k1, k2⟩ => ?_)
      rw [zck_nI h1 (by decide), zga_nI _ _ (by omega), k1.good hS, hg]
      exact ⟨_, rfl, rfl, k1.i, zMG_SX k2⟩
  | true =>
    have hl := ztx_len hW.W hW.w40 S
    have hwd := ztx_wd hW.w40 S
    have hW' : zGW (g.setD ((ztx g.T S, g.cp), (g.bs, g.nb), (g.hd, g.fp))) := by
      obtain ⟨h1, h2, h3, h4, h5, h6, h7, h8⟩ := hW
      exact ⟨h1, h2, h3, ⟨hl, hwd⟩, h5, h6, h7, h8⟩
    refine ⟨_, ⟨hW', hmd, show g.vc ≤ k + 1 by omega⟩, zAg_2 ⟨nI (ztx g.T S).length, fun s h => ?_, fun s h => ?_⟩⟩
    · unfold mX11_see
      rw [h.rf N hN hS, hg, zb2_some]
      dsimp only
      rw [if_pos rfl, if_pos rfl]
      refine zw_call (xw_with N hN h h1) (fun r t ⟨k1, k2, k3, _⟩ => ?_)
      dsimp only at k1 k2 k3
      have f1 := zTr_fr true 4 (ztx g.T S) t
      have hr : zRow true (zTr true 4 (ztx g.T S) t) 4 (ztx g.T S).length (zgt (ztx g.T S)) := zTr_row hl hwd
      rw [show (4 : Int32) = nI 4 from rfl, mX8_take_eq N k1.f51 k1.f39 (show 4 < zfS true by decide) h1 (zMd_row k1 h1 k3), zb2_some]
      dsimp only
      rw [mX8_sizeOf_row N (b := true) (by rw [f1.f _ _ (by simp)]; exact k1.f51) (show 4 < zfS true by decide) hr, zb2_some]
      have := zXI_set k1 (f1.mo (by simp) (by decide) (by decide)) hW' ⟨by rw [f1.f 51 0 (by simp)]; exact k1.c3.1, hr, by rw [f1.f 56 5 (by simp)]; exact k1.c3.2.2.1, fun c l hc => zTr_other (by have := (k1.cr hc).1; omega) (k1.c3.2.2.2 c l hc)⟩ k1.c4 k1.c5
      have sm := zXG_SM k2
      exact ⟨_, rfl, rfl, this.1, ⟨fun k j hk => (this.2.1 k j hk).trans (sm.1 k j hk), fun k hk => (this.2.2.1 k hk).trans (sm.2.1 k hk), fun k hk => (this.2.2.2 k hk).trans (sm.2.2 k hk)⟩⟩
    · unfold mX12_see
      rw [h.ar N, if_pos z, zb2_some]
      dsimp only
      rw [if_neg (by decide)]
      refine zw_call (mw_findTexts N hN h) (fun r t ⟨k1, k2⟩ => ?_)
      dsimp only at k1 k2
      rw [zck_nI h1 (by decide), zga_nI _ _ (by omega), k1.good hS, hg, zib_t, if_neg (show ¬ (1 : Int32) = 0 by decide), mX12_fill_a91_r N hN k1.mx hW hS, zb2_some]
      dsimp only [zq_let]
      have f1 := zFl_fr 91 (ztx g.T S) t
      have := zMI_set k1.i ((f1.mo (by decide) (by decide) (by decide)).tr (zfr_pf 57 52 (nI (ztx g.T S).length) (by decide))) hW' ⟨rfl, fun i hi => by
        rw [zA_pf]
        unfold zFl
        rw [zA_self, zarr_get _ _ hi], k1.i.c3.2.2.1, k1.i.c3.2.2.2⟩ k1.i.c4 k1.i.c5
      have sx := zMG_SX k2
      exact ⟨_, rfl, rfl, this.1, ⟨fun k j hk => (this.2.1 k j hk).trans (sx.1 k j hk), fun i => (this.2.2.1 i).trans (sx.2.1 i), fun k hk => (this.2.2.2.1 k hk).trans (sx.2.2.1 k hk), fun k hk => (this.2.2.2.2 k hk).trans (sx.2.2.2 k hk)⟩⟩
