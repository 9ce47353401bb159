/-! sessions: the reference's tables and answers -/
theorem mw_sess_i (N : Nat) (hN : 5000 ≤ N) {g : zG} {s : zq_S} (h : zMF g s) {S : Nat} (hS : S < 2 ^ g.n) (hT : ∀ m, m < g.n → zed g.n g.mu S m = true → zST g (S ||| 2 ^ m) s) {k : zq_S → Option (Unit × zq_S)} {Q : Unit × zq_S → Prop}
    (hk : ∀ t, zMF g t → zMQ s t → (zgd g.mu S g.n = true → zST g S t) → (∀ T, T ≠ S → zST g T s → zST g T t) → zw (k t) Q) :
    zw (zq_loop (bX12_findSessions_15 N (nI S) k) N (0, s)) Q := by
  have hW := h.i.W
  have hn := hW.n
  have hp := zn_pow hn
  have h0 : 0 < 2 ^ g.n := Nat.pow_pos (by decide)
  have hbS := zbr_le hW true S
  refine zw_cnt 4 (fun i v => ∃ t, v = (nI i, t) ∧ zMF g t ∧ zMQ s t ∧ (zgd g.mu S g.n = true → ∀ j, j < i → zPr2 t (4 * S + j) (zPb g S j)) ∧ (∀ T, T ≠ S → zST g T s → zST g T t)) ?_ ?_ N 0 _ (by omega) (by omega) ⟨s, rfl, h, zfr_rfl, fun _ j hj => absurd hj (Nat.not_lt_zero _), fun _ _ z => z⟩
  · rintro self v ⟨t, rfl, ht, hq, ha, hb⟩
    dsimp only [bX12_findSessions_15]
    rw [if_pos (by decide)]
    exact hk t ht hq ha hb
  · rintro self i v hi ⟨t, rfl, ht, hq, ha, hb⟩ hself
    have hT' : ∀ m, m < g.n → zed g.n g.mu S m = true → zST g (S ||| 2 ^ m) t := fun m hm he => hb _ (by have := zed_gt S m he; omega) (hT m hm he)
    -- the start of a place, then the marks
    have fin : ∀ t2 : zq_S, zMF g t2 → zMG (zsA t 82 (upd (zA t 82) (4 * S + i) (nI (if S = 2 ^ g.n - 1 then 0 else 1000000)))) t2 → ∀ x, x = (if S = 2 ^ g.n - 1 then (if g.n = 0 then 0 else zbr g true S) else 0) → ∀ k, (∀ t, k t = jX12_findSessions_j290 N (nI S) k self (nI i) t ∨ True) → zw (zq_ck (nI (4 * S + i)) 4096 (zq_loop (bX12_findSessions_80 N (nI S) (nI i) (nI (4 * S + i)) (fun e24 => self (nI i + 1, e24))) N (0, zpa t2 83 (nI (4 * S + i)) (nI x)))) Q := by
      intro t2 h2 f2 x ex _ _
      rw [zck_nI (by omega) (by decide), zpa_nI _ _ (by omega)]
      have f3 : zMZ t2 (zsA t2 83 (upd (zA t2 83) (4 * S + i) (nI x))) := zfr_sA 83 _ (by decide)
      have h3 := zMF_Z h2 f3
      have f1 : zMQ t (zsA t 82 (upd (zA t 82) (4 * S + i) (nI (if S = 2 ^ g.n - 1 then 0 else 1000000)))) := zfr_sA 82 _ (by decide)
      have keep : ∀ a p, a ≠ 4 * S + i → zPr2 t a p → zPr2 (zsA t2 83 (upd (zA t2 83) (4 * S + i) (nI x))) a p := by
        intro a p hne hap
        refine ⟨?_, ?_⟩
        · rw [zA_ne _ (by decide), f2.a 82 (by decide), zA_self]
          exact (if_neg hne).trans hap.1
        · rw [zA_self, f2.a 83 (by decide), zA_ne _ (by decide)]
          exact (if_neg hne).trans hap.2
      have st : zPr2 (zsA t2 83 (upd (zA t2 83) (4 * S + i) (nI x))) (4 * S + i) (if S = 2 ^ g.n - 1 then (0, if g.n = 0 then 0 else zbr g true S) else (1000000, 0)) := by
        refine ⟨?_, ?_⟩
        · rw [zA_ne _ (by decide), f2.a 82 (by decide), zA_self]
          refine (if_pos rfl).trans ?_
          split <;> rfl
        · rw [zA_self]
          refine (if_pos rfl).trans ?_
          rw [ex]
          split <;> rfl
      have fq3 : zMQ s (zsA t2 83 (upd (zA t2 83) (4 * S + i) (nI x))) := ((hq.tr f1).tr (zMG_Q f2)).tr (zMZ_Q f3)
      cases hg : zgd g.mu S g.n with
      | true =>
        refine mw_sess_in N hN h3 hS hi hg (fun m hm he j hj => keep _ _ (by have := zed_gt S m he; omega) (hT' m hm he j hj)) st (fun t4 h4 f4 p4 k4 => ?_)
        rw [nI_1]
        refine hself _ ⟨t4, rfl, h4, fq3.tr f4, fun _ j hj => ?_, fun T hne hTs j hj => ?_⟩
        · by_cases c : j = i
          · rw [c]; exact p4
          · exact k4 _ _ (by omega) (keep _ _ (by omega) (ha hg j (by omega)))
        · exact k4 _ _ (by omega) (keep _ _ (by omega) (hb T hne hTs j hj))
      | false =>
        obtain ⟨M, rfl⟩ : ∃ M', N = M' + 1 := ⟨N - 1, by omega⟩
        rw [zq_loop_s]
        dsimp only [bX12_findSessions_80]
        rw [zck_nI (by omega) (by decide), zga_nI _ _ (by omega), h3.good hS, hg, zib_f, if_pos rfl, ite_self, nI_1]
        refine hself _ ⟨_, rfl, h3, fq3, fun z => absurd (hg.symm.trans z) (by decide), fun T hne hTs j hj => ?_⟩
        exact keep _ _ (by omega) (hb T hne hTs j hj)
    dsimp only [bX12_findSessions_15, jX12_findSessions_j75, jX12_findSessions_j76, jX12_findSessions_j290, zq_let]
    rw [if_neg (by rw [show (4 : Int32) = nI 4 from rfl, nI_leI (by omega) (by omega)]; omega), mX12_all_eq N ht.i.mk hn, zb2_some, zn_4m]
    dsimp only
    have ef : (if nI S = nI (2 ^ g.n - 1) then (0 : Int32) else 1000000) = nI (if S = 2 ^ g.n - 1 then 0 else 1000000) := by
      rw [zif_nI (by omega) (by omega)]
      split <;> rfl
    have f1 : zMZ t (zsA t 82 (upd (zA t 82) (4 * S + i) (nI (if S = 2 ^ g.n - 1 then 0 else 1000000)))) := zfr_sA 82 _ (by decide)
    have h1 := zMF_Z ht f1
    rw [ef, zck_nI (by omega) (by decide), zpa_nI _ _ (by omega), mX12_all_eq N h1.i.mk hn, zb2_some]
    dsimp only
    rw [zif_nI (by omega) (by omega), h1.i.mk]
    by_cases c : S = 2 ^ g.n - 1
    · rw [if_pos c]
      by_cases c0 : g.n = 0
      · rw [if_pos (by rw [c0]; decide)]
        exact fin _ h1 zfr_rfl 0 (by rw [if_pos c, if_pos c0]) (fun _ => none) (fun _ => Or.inr trivial)
      · rw [if_neg (by rw [show (0 : Int32) = nI 0 from rfl, nI_leI (by omega) (by omega)]; omega)]
        refine zw_call (mw_breaksOf N hN h1 hS) (fun r t2 ⟨k1, k2, k3⟩ => ?_)
        dsimp only at k1 k2 k3
        subst k1
        exact fin t2 k2 k3 _ (by rw [if_pos c, if_neg c0]; rfl) (fun _ => none) (fun _ => Or.inr trivial)
    · rw [if_neg c]
      exact fin _ h1 zfr_rfl 0 (by rw [if_neg c]) (fun _ => none) (fun _ => Or.inr trivial)
theorem mw_findSessions (N : Nat) (hN : 5000 ≤ N) {g : zG} {s : zq_S} (h : zMI g s) :
    zw (mX12_findSessions N s) (fun v => zMF g v.2 ∧ zMQ s v.2 ∧ ∀ T, T < 2 ^ g.n → zgd g.mu T g.n = true → zST g T v.2) := by
  have hW := h.W
  have hn := hW.n
  have hp := zn_pow hn
  have h0 : 0 < 2 ^ g.n := Nat.pow_pos (by decide)
  unfold mX12_findSessions
  refine zw_call (mw_find N hN h) (fun r t0 ⟨k1, k2, k3, k4, k5⟩ => ?_)
  dsimp only at k1 k2 k3
  rw [mX12_all_eq N k1.mk hn, zb2_some]
  dsimp only
  refine zw_cnt (2 ^ g.n) (fun d v => ∃ t, v = ((if d < 2 ^ g.n then nI (2 ^ g.n - 1 - d) else -1), t) ∧ zMF g t ∧ zMQ s t ∧ ∀ T, 2 ^ g.n ≤ T + d → T < 2 ^ g.n → zgd g.mu T g.n = true → zST g T t) ?_ ?_ N 0 _ (by omega) (by omega) ⟨t0, by rw [if_pos h0]; rfl, ⟨k1, k3⟩, zMG_Q k2, fun T h1 h2 => by omega⟩
  · rintro self v ⟨t, rfl, ht, hq, hT⟩
    dsimp only [bX12_findSessions_9]
    rw [if_neg (Nat.lt_irrefl _), if_pos (by decide)]
    exact ⟨_, rfl, ht, hq, fun T h1 h2 => hT T (by omega) h1 h2⟩
  · rintro self d v hd ⟨t, rfl, ht, hq, hT⟩ hself
    dsimp only [bX12_findSessions_9, zq_let]
    rw [if_pos hd, if_neg (nI_nneg (by omega))]
    refine mw_sess_i N hN ht (show 2 ^ g.n - 1 - d < 2 ^ g.n by omega) (fun m hm he => hT _ (by have := zed_gt _ m he; omega) (zor_lt (by omega) hm) (zgd_next he)) (fun t2 h2 f2 p2 k2 => ?_)
    have e2 : nI (2 ^ g.n - 1 - d) + -1 = if d + 1 < 2 ^ g.n then nI (2 ^ g.n - 1 - (d + 1)) else -1 := by
      by_cases q : d + 1 < 2 ^ g.n
      · rw [if_pos q, show 2 ^ g.n - 1 - d = (2 ^ g.n - 1 - (d + 1)) + 1 by omega, pk_m1]
      · rw [if_neg q, show 2 ^ g.n - 1 - d = 0 by omega]; rfl
    rw [e2]
    refine hself _ ⟨t2, rfl, h2, hq.tr f2, fun T h3 h4 h5 => ?_⟩
    by_cases c : T = 2 ^ g.n - 1 - d
    · rw [c] at h5 ⊢
      exact p2 h5
    · exact k2 T c (hT T (by omega) h4 h5)
theorem zPb_few (g : zG) {S : Nat} (hS : S < 2 ^ g.n) (i : Nat) : (zPb g S i).1 = (zP g.n g.mu g.ik (fun _ => 0) S i).1 := zP_br g.mu g.ik (zbr g true) (2 ^ g.n) S i hS (by omega)
theorem mw_fewest (N : Nat) (hN : 5000 ≤ N) {g : zG} {s : zq_S} (h : zMI g s) :
    zw (mX12_fewest N s) (fun v => v.1 = nI (zP g.n g.mu g.ik (fun _ => 0) 0 0).1 ∧ zMI g v.2 ∧ zMQ s v.2) := by
  have hW := h.W
  have hn := hW.n
  have h0 : 0 < 2 ^ g.n := Nat.pow_pos (by decide)
  unfold mX12_fewest jX12_fewest_j21
  refine zw_call (mw_findSessions N hN h) (fun r t ⟨k1, k2, k3⟩ => ?_)
  dsimp only at k1 k2 k3
  rw [k1.i.mk]
  by_cases c : g.n = 0
  · rw [if_pos (by rw [c]; rfl)]
    refine ⟨_, rfl, ?_, k1.i, k2⟩
    rw [zP_rec _ _ _ h0, if_pos (by rw [c])]
    rfl
  · rw [if_neg (by rw [show (0 : Int32) = nI 0 from rfl, nI_eq (by omega) (by decide)]; exact c), show (0 : Int32) = nI 0 from rfl, zck_nI (by decide) (by decide), zga_nI _ _ (by decide)]
    have := (k3 0 h0 (zgd_zero _ _) 0 (by decide)).1
    refine ⟨_, rfl, ?_, k1.i, k2⟩
    dsimp only
    rw [show 4 * 0 + 0 = 0 from rfl] at this
    rw [this, zPb_few g h0]
theorem pub_least (N : Nat) (hN : 5000 ≤ N) {g : zG} (hW : zGW g) : zAg g g (mX11_least N) (mX12_least N) := by
  have hn := hW.n
  have h0 : 0 < 2 ^ g.n := Nat.pow_pos (by decide)
  refine ⟨nI (zP g.n g.mu g.ik (zbr g true) 0 0).2, fun s h => xw_least N hN h, fun s h => ?_⟩
  unfold mX12_least jX12_least_j21
  refine zw_call (mw_findSessions N hN h) (fun r t ⟨k1, k2, k3⟩ => ?_)
  dsimp only at k1 k2 k3
  rw [k1.i.mk]
  by_cases c : g.n = 0
  · rw [if_pos (by rw [c]; rfl)]
    refine ⟨_, rfl, ?_, k1.i, zMQ_SX k2⟩
    rw [zP_rec _ _ _ h0, if_pos (by rw [c]), if_pos c]
    rfl
  · rw [if_neg (by rw [show (0 : Int32) = nI 0 from rfl, nI_eq (by omega) (by decide)]; exact c), show (0 : Int32) = nI 0 from rfl, zck_nI (by decide) (by decide), zga_nI _ _ (by decide)]
    have := (k3 0 h0 (zgd_zero _ _) 0 (by decide)).2
    rw [show 4 * 0 + 0 = 0 from rfl] at this
    exact ⟨_, rfl, this, k1.i, zMQ_SX k2⟩
theorem mw_sess_m (N : Nat) (hN : 5000 ≤ N) {g : zG} {s : zq_S} (h : zMF g s) (hT : ∀ T, T < 2 ^ g.n → zgd g.mu T g.n = true → zST g T s) {S i : Nat} (hS : S < 2 ^ g.n) (hi : i < 4) (hg : zgd g.mu S g.n = true) (hf : S ≠ 2 ^ g.n - 1) (f1 f5 : Int32) (k : Int32 × zq_S → Option (Int32 × zq_S)) :
    zq_loop (bX12_session_49 N f1 (nI S) (nI i) f5 k) N (-1, nI g.n - 1, s) = k (nI (zfmk g.n g.mu g.ik S i g.n), s) := by
  have hW := h.i.W
  have hn := hW.n
  have hp := zn_pow hn
  have hx := znx_lt (n := g.n) g.mu S g.n (Nat.le_refl _)
  have s1 := zlt_pow hn hS
  have hb : ∀ S : Nat, (fun _ : Nat => 0) S ≤ 40 := fun _ => Nat.zero_le _
  have hsm := zP_small hW hb g.ik i hS hg
  obtain ⟨q1, q2, q3⟩ := zfmk_n hW i hS hg hf
  have hn0 : g.n ≠ 0 := by omega
  have e0 : ((-1 : Int32), nI g.n - 1, s) = (fun d => ((if zfmk g.n g.mu g.ik S i d = g.n then (-1 : Int32) else nI (zfmk g.n g.mu g.ik S i d)), (if d < g.n then nI (g.n - 1 - d) else -1), s)) 0 := by
    show _ = ((if g.n = g.n then (-1 : Int32) else _), (if 0 < g.n then nI (g.n - 1 - 0) else -1), s)
    rw [if_pos rfl, if_pos (by omega), show g.n = (g.n - 1) + 1 by omega, zn_m1]
    rfl
  rw [e0]
  refine Eq.trans (zq_up g.n (fun d => ((if zfmk g.n g.mu g.ik S i d = g.n then (-1 : Int32) else nI (zfmk g.n g.mu g.ik S i d)), (if d < g.n then nI (g.n - 1 - d) else -1), s)) (r := k ((if zfmk g.n g.mu g.ik S i g.n = g.n then (-1 : Int32) else nI (zfmk g.n g.mu g.ik S i g.n)), s)) (fun self => ?_) (fun self d hd => ?_) N 0 (by omega) (by omega)) ?_
  · dsimp only [bX12_session_49]
    rw [if_neg (Nat.lt_irrefl _), if_pos (by decide)]
  · have hm : g.n - 1 - d < g.n := by omega
    have hik := hW.ik _ hm
    have e2 : nI (g.n - 1 - d) + -1 = if d + 1 < g.n then nI (g.n - 1 - (d + 1)) else -1 := by
      by_cases q : d + 1 < g.n
      · rw [if_pos q, show g.n - 1 - d = (g.n - 1 - (d + 1)) + 1 by omega, pk_m1]
      · rw [if_neg q, show g.n - 1 - d = 0 by omega]; rfl
    have eb : (znx g.mu S g.n).testBit (g.n - 1 - d) = zed g.n g.mu S (g.n - 1 - d) := by unfold zed; rw [hg, Bool.true_and]
    -- what comes of t0 = 1 iff the mark goes on in the ink
    have fin : ∀ on : Bool, (on = true ↔ (S ≠ 0 ∧ g.ik (g.n - 1 - d) = i)) → jX12_session_j74 N f1 (nI S) (nI i) f5 k self (if zfmk g.n g.mu g.ik S i d = g.n then (-1 : Int32) else nI (zfmk g.n g.mu g.ik S i d)) (nI (g.n - 1 - d)) (if on then 1 else 0) s = self ((if zfmk g.n g.mu g.ik S i (d + 1) = g.n then (-1 : Int32) else nI (zfmk g.n g.mu g.ik S i (d + 1))), (if d + 1 < g.n then nI (g.n - 1 - (d + 1)) else -1), s) := by
      intro on hon
      dsimp only [jX12_session_j74, jX12_session_j139, jX12_session_j140, zq_let]
      rw [zck_nI s1 (by decide), zga_nI _ _ (by omega), h.nx hS, mX12_has_eq N (by omega) (by omega), zb2_some, eb, e2]
      dsimp only
      cases q : zed g.n g.mu S (g.n - 1 - d) with
      | false =>
        rw [zif_f, if_pos rfl, (zfmk_s g S i d).2 (fun z => absurd (q.symm.trans z.1) (by decide))]
      | true =>
        have ho := zor_lt hS hm
        have hst := (hT _ ho (zgd_next q) _ hik).1
        have hst2 := (hT S hS hg i hi).1
        rw [zPb_few g ho] at hst
        rw [zPb_few g hS] at hst2
        have hs2 := zP_small hW hb g.ik (g.ik (g.n - 1 - d)) ho (zgd_next q)
        have ex : (if (if on then (1 : Int32) else 0) = 0 then (1 : Int32) else 0) = nI (if on then 0 else 1) := by cases on <;> rfl
        rw [zif_t, zck_nI (by omega) (by decide), zga_nI _ _ (by omega), h.i.ik _ hm, zn_shl (by omega), zn_or, zn_4m, zck_nI (by omega) (by decide), zn_4m, zck_nI (by omega) (by decide), zga_nI _ _ (by omega), zga_nI _ _ (by omega), hst, hst2, ex, nI_add, zif_nI (by split <;> omega) (by omega)]
        have ec : (zcd g.ik (fun _ => 0) (zP g.n g.mu g.ik (fun _ => 0)) S i (g.n - 1 - d)).1 = (zP g.n g.mu g.ik (fun _ => 0) (S ||| 2 ^ (g.n - 1 - d)) (g.ik (g.n - 1 - d))).1 + (if on then 0 else 1) := by
          unfold zcd
          dsimp only
          congr 1
          by_cases z : S ≠ 0 ∧ g.ik (g.n - 1 - d) = i
          · rw [if_pos z, if_pos (hon.mpr z)]
          · rw [if_neg z, if_neg (fun y => z (hon.mp y))]
        by_cases c : (zP g.n g.mu g.ik (fun _ => 0) (S ||| 2 ^ (g.n - 1 - d)) (g.ik (g.n - 1 - d))).1 + (if on then 0 else 1) = (zP g.n g.mu g.ik (fun _ => 0) S i).1
        · rw [if_pos c, if_neg (show ¬ (1 : Int32) = 0 by decide), (zfmk_s g S i d).1 ⟨q, by rw [ec]; exact c⟩, if_neg (show ¬ g.n - 1 - d = g.n by omega)]
        · rw [if_neg c, if_pos rfl, (zfmk_s g S i d).2 (fun z => c (by rw [← ec]; exact z.2))]
    dsimp only [bX12_session_49, jX12_session_j73]
    rw [if_pos hd, if_neg (nI_nneg (by omega))]
    by_cases z0 : S = 0
    · rw [if_pos (by rw [z0]; decide)]
      exact fin false ⟨fun z => (by cases z), fun z => absurd z0 z.1⟩
    · rw [if_neg (by rw [show (0 : Int32) = nI 0 from rfl, nI_leI (by omega) (by omega)]; omega), zck_nI (by omega) (by decide), zga_nI _ _ (by omega), h.i.ik _ hm, zif_nI (by omega) (by omega)]
      by_cases z1 : g.ik (g.n - 1 - d) = i
      · rw [if_pos z1]
        exact fin true ⟨fun _ => ⟨z0, z1⟩, fun _ => rfl⟩
      · rw [if_neg z1]
        exact fin false ⟨fun z => (by cases z), fun z => absurd z.2 z1⟩
  · rw [if_neg (by omega)]
theorem pub_session (N : Nat) (hN : 5000 ≤ N) {g : zG} (hW : zGW g) (hmd : g.md = false) (p : Int32) : zAg g g (mX11_session N p) (mX12_session N p) := by
  have hn := hW.n
  refine ⟨zSe g p, fun s h => xw_session N hN hmd h p, fun s h => ?_⟩
  unfold mX12_session zSe
  rw [mX12_in_eq, h.mk, zb2_some]
  dsimp only
  rw [show (if (0 : Int64) ≤ Int32.toInt64 p ∧ Int32.toInt64 p ≤ Int32.toInt64 (nI g.n - 1) then (1 : Int32) else 0) = if ¬ p < 0 ∧ ¬ nI g.n ≤ p then 1 else 0 from zif_iff (zin_lt (by omega) p)]
  rcases zarg (c := g.n) (by omega) p with z | ⟨x, hx, rfl, z⟩
  · rw [if_neg z, if_neg z, if_pos rfl]
    exact ⟨_, rfl, rfl, h, zSX_rfl⟩
  · rw [if_pos z, if_pos z, if_neg (show ¬ (1 : Int32) = 0 by decide), nI_clamp (by omega)]
    refine zw_call (mw_findSessions N hN h) (fun r t ⟨k1, k2, k3⟩ => ?_)
    dsimp only at k1 k2 k3
    have e0 : ((0 : Int32), (0 : Int32), (-1 : Int32), (0 : Int32), t) = (fun k => (nI (zfst g.n g.mu g.ik k).1, nI (zfst g.n g.mu g.ik k).2, (if k = 0 then -1 else nI (zfsm g.n g.mu g.ik (k - 1))), nI k, t)) 0 := rfl
    rw [e0, zq_up (x + 1) (fun k => (nI (zfst g.n g.mu g.ik k).1, nI (zfst g.n g.mu g.ik k).2, (if k = 0 then -1 else nI (zfsm g.n g.mu g.ik (k - 1))), nI k, t)) (r := some (nI (zfsm g.n g.mu g.ik x), t)) (fun self => ?_) (fun self k hk => ?_) N 0 (by omega) (by omega)]
    · exact ⟨_, rfl, rfl, k1.i, zMQ_SX k2⟩
    · dsimp only [bX12_session_32]
      rw [if_pos (nI_lt (by omega) (by omega)), if_neg (by omega), Nat.add_sub_cancel]
    · obtain ⟨s1, s2, s3, s4⟩ := zfst_ok hW k (by omega)
      obtain ⟨s5, s6⟩ := zfst_nf hW (show k < g.n by omega)
      obtain ⟨m1, m2, _⟩ := zfmk_n hW (zfst g.n g.mu g.ik k).2 s1 s2 s5
      dsimp only [bX12_session_32, zq_let]
      rw [if_neg (nI_nlt (by omega) (by omega)), k1.i.mk, mw_sess_m N hN k1 k3 s1 s4 s2 s5]
      dsimp only
      rw [zck_nI (by omega) (by decide), zga_nI _ _ (by omega), k1.i.ik _ m1, zn_shl (by omega), zn_or, nI_1]
      rfl
