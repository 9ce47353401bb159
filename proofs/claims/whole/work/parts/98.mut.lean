/-! calls that change the state: ink, earlier, write, see, copy, drop, bar -/
/-- a state of the law's loop, at most k calls behind the start -/
def zOk (k : Nat) (g : zG) : Prop := zGW g ∧ g.md = false ∧ g.vc ≤ k
/-- one call -/
def zStep {α : Type} (k : Nat) (g : zG) (cx cm : zq_S → Option (α × zq_S)) : Prop := ∃ g', zOk (k + 1) g' ∧ zAg2 g g' cx cm
theorem zStep_q {α : Type} {k : Nat} {g : zG} {cx cm : zq_S → Option (α × zq_S)} (hk : zOk k g) (h : zAg2 g g cx cm) : zStep k g cx cm := ⟨g, ⟨hk.1, hk.2.1, by have := hk.2.2; omega⟩, h⟩
def zG.setK (g : zG) (K : (Nat → Nat) × (Nat → Nat → Bool)) : zG := (g.1, K, g.2.2.1, g.2.2.2.1, g.2.2.2.2.1, (g.vc + 1, false))
theorem zGW_setK {g : zG} (hW : zGW g) {K : (Nat → Nat) × (Nat → Nat → Bool)} (hi : ∀ m, m < g.n → K.1 m < 4) (hc : zcy (zmu g.n g.S.ba K.1 K.2) g.n = false) (hv : g.vc < 1000) : zGW (g.setK K) := by
  obtain ⟨h1, _, _, h4, h5, h6, h7, _⟩ := hW
  exact ⟨h1, hi, hc, h4, h5, h6, h7, show g.vc + 1 ≤ 1000 by omega⟩
theorem zXI_setK {g : zG} {s t : zq_S} (h : zXI g s) {K : (Nat → Nat) × (Nat → Nat → Bool)} (hW : zGW (g.setK K)) (hq : zfr [(31, 8)] [32, 33, 34, 35, 36] [] s t) (hv : zgf t 31 8 = zgf s 31 8 + 1) (h2 : zX2 (g.setK K) t) : zXI (g.setK K) t := by
  obtain ⟨h0, h1, -, h4, h5, h6, ⟨v, c1, c2, c3, c4, c5, c6⟩, c7, c8, c9, c10, c11⟩ := h
  obtain ⟨hf, hb, ha, hl⟩ := hq
  have hv2 : zgf t 31 8 = nI (v + 1) := by rw [hv, c2, nI_1]
  have hvc := h0.vc
  have old : ∀ x, zvo v x → x ≠ nI (v + 1) ∧ zvo (v + 1) x := by
    rintro x (rfl | ⟨w, hw, rfl⟩)
    · exact ⟨fun z => nI_nm1 (by omega) z.symm, Or.inl rfl⟩
    · refine ⟨?_, Or.inr ⟨w, by omega, rfl⟩⟩
      rw [Ne, nI_eq (by omega) (by omega)]
      omega
  refine ⟨hW, ?_, h2, ?_, ?_, ?_, ⟨v + 1, show v + 1 ≤ g.vc + 1 by omega, hv2, ?_, ?_, ?_, ?_⟩, ?_, ?_, ?_, ?_, ?_⟩
  · unfold zX1 zXS at h1 ⊢
    cases q : zgb s 0 with
    | false =>
      simp only [q, hb] at h1 ⊢
      simp (disch := decide) only [hf, ha, hl] at h1 ⊢
      exact h1
    | true =>
      simp only [q, hb] at h1 ⊢
      simp (disch := decide) only [hf, ha, hl] at h1 ⊢
      exact h1
  · unfold zX3 zRow at h4 ⊢
    simp (disch := decide) only [hf, ha, hl] at h4 ⊢
    exact h4
  · unfold zX4 at h5 ⊢
    simp (disch := decide) only [hf, ha, hl] at h5 ⊢
    exact h5
  · unfold zX5 at h6 ⊢
    simp (disch := decide) only [hf, ha, hl] at h6 ⊢
    exact h6
  · rw [hf 31 9 (by decide)]; exact (old _ c3).2
  · rw [hf 44 5 (by decide)]; exact (old _ c4).2
  · rw [hf 46 7 (by decide)]; exact (old _ c5).2
  · rw [hf 49 5 (by decide)]; exact (old _ c6).2
  · rw [hf 31 9 (by decide), hv2]; exact fun z => absurd z (old _ c3).1
  · rw [hf 44 5 (by decide), hv2]; exact fun z => absurd z (old _ c4).1
  · unfold zTc zRow at c9 ⊢
    simp (disch := decide) only [hf, ha, hl] at c9 ⊢
    exact c9
  · rw [hf 46 7 (by decide), hv2]; exact fun _ z => absurd z (old _ c5).1
  · rw [hf 49 5 (by decide), hv2]; exact fun _ z => absurd z (old _ c6).1
/-- settle, where rows 32 and 33 hold K -/
theorem xw_settle (N : Nat) (hN : 5000 ≤ N) {g : zG} {s : zq_S} (h : zXI g s) {u : zq_S} (hu : zfr [] [32, 33] [] s u) {K : (Nat → Nat) × (Nat → Nat → Bool)} (hi : ∀ m, m < g.n → zA u 32 m = nI (K.1 m) ∧ K.1 m < 4) {em : Nat → Nat} (he : ∀ a, a < 4 → zA u 33 a = nI (em a)) (hr : zer em K.2) (hv : g.vc < 1000) :
    (zcy (zmu g.n g.S.ba K.1 K.2) g.n = true ∧ ∃ f, mX3_settle N u = some (0, zsA u 36 f)) ∨
    (zcy (zmu g.n g.S.ba K.1 K.2) g.n = false ∧ zw (mX3_settle N u) (fun v => v.1 = 1 ∧ zXI (g.setK K) v.2 ∧ zSM s v.2)) := by
  have hW := h.W
  have hz := zs_or (zgb s 0)
  have p3 : zgb u 3 = zgb s 0 := by rw [hu.b]; exact h.p3
  have mk : zgf u (zs (zgb s 0)) 7 = nI g.n := by rw [hu.f _ _ (by simp)]; exact h.mk0
  have ba : ∀ m, m < g.n → zA u (zs (zgb s 0) + 6) m = nI (g.S.ba m) := fun m hm => by
    rw [hu.a _ (by intro q; simp only [List.mem_cons, List.not_mem_nil, or_false] at q; omega)]
    exact h.2.1.2.2.2.2.2.2.1 m hm
  obtain ⟨f, o, e⟩ := mX3_settle_eq N hN hW.n p3 mk ba hW.ba hi he hr
  cases q : zcy (zmu g.n g.S.ba K.1 K.2) g.n with
  | true =>
    rw [q, if_pos rfl] at e
    exact Or.inl ⟨rfl, f, e⟩
  | false =>
    rw [q, if_neg (by decide)] at e
    refine Or.inr ⟨rfl, _, e, rfl, ?_⟩
    have hq : zfr [(31, 8)] [32, 33, 34, 35, 36] [] s (zpf (zsA (zsA (zsA u 36 f) 34 (zarr g.n (zmu g.n g.S.ba K.1 K.2) (zA u 34))) 35 (zarr g.n (fun q => zbh (zmu g.n g.S.ba K.1 K.2) q g.n) o)) 31 8 (zgf u 31 8 + 1)) :=
      ((((hu.mo (by decide) (by decide) (by decide)).tr (zfr_sA 36 _ (by decide))).tr (zfr_sA 34 _ (by decide))).tr (zfr_sA 35 _ (by decide))).tr (zfr_pf 31 8 _ (by decide))
    refine ⟨zXI_setK h (zGW_setK hW (fun m hm => (hi m hm).2) q hv) hq ?_ ⟨?_, ⟨em, ?_, hr⟩, ?_, ?_⟩, ?_⟩
    · show zgf u 31 8 + 1 = _
      rw [hu.f 31 8 (by decide)]
    · exact fun m hm => (hi m hm).1
    · exact he
    · intro m hm
      rw [zA_pf, zA_ne _ (by decide), zA_self, zarr_get _ _ (show m < g.n from hm)]
      rfl
    · intro m hm
      rw [zA_pf, zA_self, zarr_get _ _ (show m < g.n from hm)]
      rfl
    · refine ⟨fun k j hk => hq.f k j ?_, fun k hk => hq.a k ?_, fun k hk => hq.l k ?_⟩
      · intro q; simp only [List.mem_cons, Prod.mk.injEq, List.not_mem_nil, or_false] at q; omega
      · intro q; simp only [List.mem_cons, List.not_mem_nil, or_false] at q; omega
      · intro q; simp at q
/-- findMust, where rows 63 and 69 hold K -/
theorem mw_must (N : Nat) (hN : 5000 ≤ N) {g : zG} {s : zq_S} (h : zMI g s) {u : zq_S} (hu : zfr [(57, 37)] [63, 65, 69] [] s u) {K : (Nat → Nat) × (Nat → Nat → Bool)} (hi : ∀ m, m < g.n → zA u 63 m = nI (K.1 m) ∧ K.1 m < 4) (he : ∀ a b, a < 4 → b < 4 → zA u 69 (4 * a + b) = if K.2 a b then 1 else 0) :
    zw (mX12_findMust N u) (fun v => v.1 = (if zcy (zmu g.n g.S.ba K.1 K.2) g.n then 0 else 1) ∧ zfr [(57, 37)] [63, 65, 69] [] s v.2 ∧ zfr [(57, 37)] [65] [] u v.2 ∧ ∀ g', g'.S = g.S → g'.ik = K.1 → g'.er = K.2 → g'.dr = g.dr → g'.cp = g.cp → g'.bs = g.bs → g'.nb = g.nb → g'.hd = g.hd → g'.fp = g.fp → zGW g' → zMI g' v.2) := by
  have hW := h.W
  have e := mX12_findMust_eq N hN hW.n (s := u) (ba := g.S.ba) (ik := K.1) (er := K.2) (by rw [hu.f 57 6 (by decide)]; exact h.mk) (fun m hm => by rw [hu.a 64 (by decide)]; exact h.2.1.2.2.2.1 m hm) hW.ba hi he
  have f2 : zfr [(57, 37)] [65] [] u (zpf (zsA u 65 (zarr g.n (zmu g.n g.S.ba K.1 K.2) (zA u 65))) 57 37 0) := (zfr_sA 65 _ (by decide)).tr (zfr_pf 57 37 _ (by decide))
  have hq : zfr [(57, 37)] [63, 65, 69] [] s (zpf (zsA u 65 (zarr g.n (zmu g.n g.S.ba K.1 K.2) (zA u 65))) 57 37 0) := hu.tr (f2.mo (by decide) (by decide) (by decide))
  refine ⟨_, e, rfl, hq, f2, fun g' eS ei ee e1 e2 e3 e4 e5 e6 hW' => ?_⟩
  obtain ⟨-, h1, -, h4, h5, h6, h7, h8⟩ := h
  obtain ⟨hf, hb, ha, hl⟩ := hq
  have en : g'.n = g.n := by unfold zG.n; rw [eS]
  have eT : g'.T = g.T := by unfold zG.T; rw [eS]
  have em : g'.mu = zmu g.n g.S.ba K.1 K.2 := by unfold zG.mu; rw [en, eS, ei, ee]
  refine ⟨hW', ?_, ⟨?_, ?_, ?_⟩, ?_, ?_, ?_, Or.inl rfl, ?_⟩
  · rw [eS]
    unfold zM1 zMS at h1 ⊢
    simp (disch := decide) only [hf, ha, hl] at h1 ⊢
    exact h1
  · rw [en, ei]
    exact fun m hm => (hi m hm).1
  · rw [ee]
    exact he
  · rw [en, em]
    intro m hm
    rw [zA_pf, zA_self, zarr_get _ _ hm]
  · rw [e1, e2]
    unfold zM3 at h4 ⊢
    simp (disch := decide) only [hf, ha, hl] at h4 ⊢
    exact h4
  · rw [e3, e4]
    unfold zM4' at h5 ⊢
    simp (disch := decide) only [hf, ha, hl] at h5 ⊢
    exact h5
  · rw [e5, e6]
    unfold zM5 at h6 ⊢
    simp (disch := decide) only [hf, ha, hl] at h6 ⊢
    exact h6
  · rw [en, eT]
    unfold zMx at h8 ⊢
    simp (disch := decide) only [hf, ha, hl] at h8 ⊢
    exact h8
theorem zfr_SX {s t : zq_S} (hq : zfr [(57, 37)] [63, 65, 69] [] s t) : zSX s t := by
  refine ⟨fun k j hk => hq.f k j ?_, hq.b, fun k hk => hq.a k ?_, fun k hk => hq.l k ?_⟩
  · intro q; simp only [List.mem_cons, Prod.mk.injEq, List.not_mem_nil, or_false] at q; omega
  · intro q; simp only [List.mem_cons, List.not_mem_nil, or_false] at q; omega
  · intro q; simp at q
theorem mX11_isInk_eq (N : Nat) (p : Int32) (s : zq_S) : mX11_isInk N p s = some (if ¬ p < 0 ∧ ¬ nI 4 ≤ p then 1 else 0, s) := by
  dsimp only [mX11_isInk, zq_let]
  by_cases q : p < 0
  · rw [if_pos q, if_neg (fun z => z.1 q), zb_0]
  · rw [if_neg q]
    by_cases q2 : (4 : Int32) ≤ p
    · rw [if_pos q2, if_neg (fun z => z.2 q2), zb_0]
    · rw [if_neg q2, if_pos ⟨q, q2⟩, zb_1]
theorem mX12_isInk_eq (N : Nat) (p : Int32) (s : zq_S) : mX12_isInk N p s = some (if ¬ p < 0 ∧ ¬ nI 4 ≤ p then 1 else 0, s) := by
  unfold mX12_isInk
  rw [mX12_in_eq, zb2_some]
  dsimp only
  rw [zb_if]
  congr 2
  exact zif_iff (zin_c (c := 3) (by decide) p)
theorem zXI_36 {g : zG} {s : zq_S} (h : zXI g s) (f : Nat → Int32) : zXI g (zsA s 36 f) := zXI_room h (zfr_sA 36 _ (by decide))
theorem step_ink (N : Nat) (hN : 5000 ≤ N) {k : Nat} (hk9 : k < 900) {g : zG} (hk : zOk k g) (p q : Int32) : zStep k g (mX11_ink N p q) (mX12_ink N p q) := by
  obtain ⟨hW, hmd, hvc⟩ := id hk
  have hn := hW.n
  rcases zarg (c := g.n) (by omega) p with z | ⟨m, hm, rfl, z⟩
  · refine zStep_q hk (zAg_2 ⟨-1001, fun s h => ?_, fun s h => ?_⟩)
    · unfold mX11_ink
      rw [h.hm N, if_neg z, zb2_some]
      exact ⟨_, rfl, rfl, h, zSM_rfl⟩
    · unfold mX12_ink
      rw [h.im N, if_neg z, zb2_some]
      exact ⟨_, rfl, rfl, h, zSX_rfl⟩
  rcases zarg (c := 4) (by decide) q with y | ⟨i, hi, rfl, y⟩
  · refine zStep_q hk (zAg_2 ⟨-1001, fun s h => ?_, fun s h => ?_⟩)
    · unfold mX11_ink
      rw [h.hm N, if_pos z, zb2_some]
      dsimp only
      rw [if_neg (show ¬ (1 : Int32) = 0 by decide), mX11_isInk_eq, if_neg y, zb2_some]
      exact ⟨_, rfl, rfl, h, zSM_rfl⟩
    · unfold mX12_ink
      rw [h.im N, if_pos z, zb2_some]
      dsimp only
      rw [if_neg (show ¬ (1 : Int32) = 0 by decide), mX12_isInk_eq, if_neg y, zb2_some]
      exact ⟨_, rfl, rfl, h, zSX_rfl⟩
  -- the new inks
  have hK : ∀ n, n < g.n → zfu g.ik m i n < 4 := fun n h => by
    unfold zfu
    split
    · exact hi
    · exact hW.ik n h
  have ku : ∀ (o : Nat → Int32), (∀ n, n < g.n → o n = nI (g.ik n)) → ∀ n, n < g.n → upd o m (nI i) n = nI (zfu g.ik m i n) := by
    intro o ho n h
    unfold upd zfu
    by_cases c : n = m
    · rw [if_pos c, if_pos c]
    · rw [if_neg c, if_neg c]; exact ho n h
  cases hc : zcy (zmu g.n g.S.ba (zfu g.ik m i) g.er) g.n with
  | true =>
    refine zStep_q hk (zAg_2 ⟨-1003, fun s h => ?_, fun s h => ?_⟩)
    · unfold mX11_ink
      rw [h.hm N, if_pos z, zb2_some]
      dsimp only
      rw [if_neg (show ¬ (1 : Int32) = 0 by decide), mX11_isInk_eq, if_pos y, zb2_some]
      dsimp only [zq_let]
      rw [if_neg (show ¬ (1 : Int32) = 0 by decide), zck_nI (by omega) (by decide), zck_nI (by omega) (by decide), zga_nI _ _ (by omega), h.ik m hm, zpa_nI _ _ (by omega)]
      obtain ⟨em, he, hr⟩ := h.2.2.1.2.1
      rcases xw_settle N hN h (u := zsA s 32 (upd (zA s 32) m (nI i))) (zfr_sA 32 _ (by decide)) (K := (zfu g.ik m i, g.er)) (fun n hn' => ⟨by rw [zA_self]; exact ku _ h.ik n hn', hK n hn'⟩) he hr (by omega) with ⟨_, f, e⟩ | ⟨c, _⟩
      · rw [e, zb2_some]
        dsimp only
        rw [if_pos rfl, zck_nI (by omega) (by decide), zpa_nI _ _ (by omega), zA_ne _ (by decide), zA_self, zupd_upd]
        have e2 : zsA (zsA (zsA s 32 (upd (zA s 32) m (nI i))) 36 f) 32 (upd (zA s 32) m (nI (g.ik m))) = zsA s 36 f := by
          rw [zupd_self (zA s 32) m _ (h.ik m hm)]
          refine zs_ext (fun _ _ => rfl) (fun _ => rfl) (fun a => ?_) (fun _ => rfl)
          simp only [zA_sA]
          by_cases c : a = 32
          · rw [if_pos c, if_neg (by omega), c]
          · rw [if_neg c, if_neg c]
        rw [e2]
        refine ⟨_, rfl, rfl, zXI_36 h f, ?_⟩
        exact ⟨fun _ _ _ => rfl, fun a ha => zA_ne _ (by omega) _, fun _ _ => rfl⟩
      · rw [show zcy (zmu g.n g.S.ba (zfu g.ik m i, g.er).1 (zfu g.ik m i, g.er).2) g.n = true from hc] at c
        cases c
    · unfold mX12_ink
      rw [h.im N, if_pos z, zb2_some]
      dsimp only
      rw [if_neg (show ¬ (1 : Int32) = 0 by decide), mX12_isInk_eq, if_pos y, zb2_some]
      dsimp only [zq_let]
      rw [if_neg (show ¬ (1 : Int32) = 0 by decide), zck_nI (by omega) (by decide), zck_nI (by omega) (by decide), zga_nI _ _ (by omega), h.ik m hm, zpa_nI _ _ (by omega)]
      refine zw_call (mw_must N hN h (u := zsA s 63 (upd (zA s 63) m (nI i))) (zfr_sA 63 _ (by decide)) (K := (zfu g.ik m i, g.er)) (fun n hn' => ⟨by rw [zA_self]; exact ku _ h.ik n hn', hK n hn'⟩) h.2.2.1.2.1) (fun r t ⟨k1, k2, k3, k4⟩ => ?_)
      dsimp only at k1 k2 k3
      rw [k1, show zcy (zmu g.n g.S.ba (zfu g.ik m i) g.er) g.n = true from hc, if_pos rfl, if_pos rfl, zck_nI (by omega) (by decide), zpa_nI _ _ (by omega), k3.a 63 (by decide), zA_self, zupd_upd, zupd_self (zA s 63) m _ (h.ik m hm)]
      refine zw_call (mw_must N hN h (u := zsA t 63 (zA s 63)) (k2.tr (zfr_sA 63 _ (by decide))) (K := (g.ik, g.er)) (fun n hn' => ⟨by rw [zA_self]; exact h.ik n hn', hW.ik n hn'⟩) (by rw [zA_ne _ (by decide), k3.a 69 (by decide), zA_ne _ (by decide)]; exact h.2.2.1.2.1)) (fun r2 t2 ⟨l1, l2, l3, l4⟩ => ?_)
      dsimp only at l1 l2 l4
      rw [l1, show zcy (zmu g.n g.S.ba g.ik g.er) g.n = false from hW.cy]
      exact ⟨_, rfl, rfl, l4 g rfl rfl rfl rfl rfl rfl rfl rfl rfl hW, zfr_SX l2⟩
  | false =>
    have hW' : zGW (g.setK (zfu g.ik m i, g.er)) := zGW_setK hW hK hc (by omega)
    refine ⟨g.setK (zfu g.ik m i, g.er), ⟨hW', rfl, show g.vc + 1 ≤ k + 1 by omega⟩, zAg_2 ⟨nI (g.ik m), fun s h => ?_, fun s h => ?_⟩⟩
    · unfold mX11_ink
      rw [h.hm N, if_pos z, zb2_some]
      dsimp only
      rw [if_neg (show ¬ (1 : Int32) = 0 by decide), mX11_isInk_eq, if_pos y, zb2_some]
      dsimp only [zq_let]
      rw [if_neg (show ¬ (1 : Int32) = 0 by decide), zck_nI (by omega) (by decide), zck_nI (by omega) (by decide), zga_nI _ _ (by omega), h.ik m hm, zpa_nI _ _ (by omega)]
      obtain ⟨em, he, hr⟩ := h.2.2.1.2.1
      rcases xw_settle N hN h (u := zsA s 32 (upd (zA s 32) m (nI i))) (zfr_sA 32 _ (by decide)) (K := (zfu g.ik m i, g.er)) (fun n hn' => ⟨by rw [zA_self]; exact ku _ h.ik n hn', hK n hn'⟩) he hr (by omega) with ⟨c, _⟩ | ⟨_, c⟩
      · rw [show zcy (zmu g.n g.S.ba (zfu g.ik m i, g.er).1 (zfu g.ik m i, g.er).2) g.n = false from hc] at c
        cases c
      · refine zw_call c (fun r t ⟨k1, k2, k3⟩ => ?_)
        dsimp only at k1 k2 k3
        rw [k1, if_neg (show ¬ (1 : Int32) = 0 by decide)]
        exact ⟨_, rfl, rfl, k2, k3⟩
    · unfold mX12_ink
      rw [h.im N, if_pos z, zb2_some]
      dsimp only
      rw [if_neg (show ¬ (1 : Int32) = 0 by decide), mX12_isInk_eq, if_pos y, zb2_some]
      dsimp only [zq_let]
      rw [if_neg (show ¬ (1 : Int32) = 0 by decide), zck_nI (by omega) (by decide), zck_nI (by omega) (by decide), zga_nI _ _ (by omega), h.ik m hm, zpa_nI _ _ (by omega)]
      refine zw_call (mw_must N hN h (u := zsA s 63 (upd (zA s 63) m (nI i))) (zfr_sA 63 _ (by decide)) (K := (zfu g.ik m i, g.er)) (fun n hn' => ⟨by rw [zA_self]; exact ku _ h.ik n hn', hK n hn'⟩) h.2.2.1.2.1) (fun r t ⟨k1, k2, k3, k4⟩ => ?_)
      dsimp only at k1 k2 k3 k4
      rw [k1, show zcy (zmu g.n g.S.ba (zfu g.ik m i) g.er) g.n = false from hc, if_neg (show ¬ false = true by decide), if_neg (show ¬ (1 : Int32) = 0 by decide)]
      exact ⟨_, rfl, rfl, k4 (g.setK (zfu g.ik m i, g.er)) rfl rfl rfl rfl rfl rfl rfl rfl rfl hW', zfr_SX k2⟩
