/-! holds, when: the reference's tables, and both answers -/
theorem zcp_get {g : zG} {c : Nat} (hc : c < g.cp.length) : g.cp[c]? = some (g.cp.getD c []) := by
  rw [List.getElem?_eq_getElem hc, List.getD_eq_getElem?_getD, List.getElem?_eq_getElem hc]; rfl
theorem mX12_isTime_t (N : Nat) (hN : 5000 ≤ N) {g : zG} {s : zq_S} (h : zMR g s) {c S : Nat} (hc : c < g.cp.length) (hS : S < 2 ^ g.n) : mX12_isTime N (nI c) (nI S) s = some (if ztm g c S then 1 else 0, s) := by
  rw [mX12_isTime_r N hN h (zcp_get hc) hS]
  congr 2
  refine zif_iff ?_
  unfold ztm
  rw [Bool.and_eq_true, decide_eq_true_eq]
theorem zsb_le {P S : Nat} (h : zsb P S = true) : P ≤ S := by
  unfold zsb at h
  rw [beq_iff_eq] at h
  rw [← h]
  exact Nat.and_le_right
theorem zsi_more (F : Nat → Int64) {a : Nat} : ∀ k, a ≤ k → (∀ P, a ≤ P → P < k → F P = 0) → zsi 0 F k = zsi 0 F a := by
  intro k
  induction k with
  | zero => intro h _; rw [show a = 0 by omega]
  | succ k ih =>
    intro h hF
    by_cases e : a = k + 1
    · rw [e]
    · rw [zsi, hF k (by omega) (by omega), Int64.add_zero]
      exact ih (by omega) (fun P h1 h2 => hF P h1 (by omega))
theorem zsum_up {n S : Nat} (hS : S < 2 ^ n) (F : Nat → Int64) : zsi 0 (fun P => if zsb P S then F P else 0) (S + 1) = zsr n (fun P => zsb P S) F := by
  unfold zsr
  refine (zsi_more _ (2 ^ n) (by omega) (fun P h1 _ => ?_)).symm
  rw [if_neg]
  intro z
  have := zsb_le z
  omega
theorem zn_10c (c : Nat) (S : Nat) : 1024 * nI c + nI S = nI (1024 * c + S) := by rw [show (1024 : Int32) = nI 1024 from rfl, nI_mul, nI_add]
theorem mw_rows_in (N : Nat) (hN : 5000 ≤ N) {g : zG} {s : zq_S} (h : zMR g s) {c S : Nat} (hc : c < g.cp.length) (hS : S < 2 ^ g.n) (h94 : ∀ c' P, c' + 1 = c → P < 2 ^ g.n → zL s 94 (1024 * c' + P) = zuT g c' P) (k : Int64 × zq_S → Option (Unit × zq_S)) :
    zq_loop (bX12_findRows_46 N (nI c) (nI S) k) N ((if (if ztm g c S then (1 : Int32) else 0) = 0 then (0 : Int64) else if nI c = 0 then 1 else 0), 0, s) = k (zuT g c S, s) := by
  have hp := zn_pow h.i.W.n
  have h4 := h.i.W.cp.1
  unfold zuT
  cases q : ztm g c S with
  | false =>
    rw [zif_f, if_neg (by decide)]
    obtain ⟨M, rfl⟩ : ∃ M', N = M' + 1 := ⟨N - 1, by omega⟩
    rw [zq_loop_s]
    dsimp only [bX12_findRows_46]
    rw [if_neg (nI_nneg (by omega))]
    by_cases z : nI c ≤ 0
    · rw [if_pos z]
    · rw [if_neg z, mX12_isTime_t _ hN h hc hS, q, zb2_some]
      dsimp only
      rw [zif_f]
  | true =>
    rw [zif_t, if_pos rfl]
    rcases Nat.eq_zero_or_pos c with z | z
    · subst z
      rw [if_pos (by rfl)]
      obtain ⟨M, rfl⟩ : ∃ M', N = M' + 1 := ⟨N - 1, by omega⟩
      rw [zq_loop_s]
      dsimp only [bX12_findRows_46]
      rw [if_neg (nI_nneg (by omega)), if_pos (by decide)]
      rfl
    · obtain ⟨c', rfl⟩ : ∃ c', c = c' + 1 := ⟨c - 1, by omega⟩
      rw [if_neg (by rw [show (0 : Int32) = nI 0 from rfl, nI_eq (by omega) (by decide)]; omega)]
      have e0 : ((0 : Int64), (0 : Int32), s) = (fun j => (zsi 0 (fun P => if zsb P S then zuT g c' P else 0) j, nI j, s)) 0 := rfl
      rw [e0]
      refine Eq.trans (zq_up (S + 1) (fun j => (zsi 0 (fun P => if zsb P S then zuT g c' P else 0) j, nI j, s)) (r := k (zsi 0 (fun P => if zsb P S then zuT g c' P else 0) (S + 1), s)) (fun self => ?_) (fun self j hj => ?_) N 0 (by omega) (by omega)) ?_
      · dsimp only [bX12_findRows_46]
        rw [if_pos (nI_lt (by omega) (by omega))]
      · dsimp only [bX12_findRows_46, jX12_findRows_j94, zq_let]
        rw [if_neg (nI_nlt (by omega) (by omega)), if_neg (by rw [show (0 : Int32) = nI 0 from rfl, nI_leI (by omega) (by omega)]; omega), mX12_isTime_t N hN h hc hS, q, zb2_some]
        dsimp only
        rw [zif_t, zn_m1, zn_10c, zck_nI (by omega) (by decide), zgl_nI _ _ (by omega), h94 c' j rfl (by omega), nI_1, zite (zn_sub (a := j) (b := S) (by omega))]
        cases z2 : zsb j S with
        | true => rw [if_pos rfl, zsi, z2, if_pos rfl]
        | false => rw [if_neg (by decide), zsi, z2, if_neg (by decide)]
      · rw [zsum_up hS]
        rfl
theorem mw_up (N : Nat) (hN : 5000 ≤ N) {g : zG} {s : zq_S} (h : zMR g s) {k127 : zq_S → Option (Unit × zq_S)} {Q : Unit × zq_S → Prop}
    (hk : ∀ t, zMZ s t → (∀ c S, c < g.cp.length → S < 2 ^ g.n → zL t 94 (1024 * c + S) = zuT g c S) → zw (k127 t) Q) :
    zw (zq_loop (bX12_findRows_6 N k127) N (0, s)) Q := by
  have hp := zn_pow h.i.W.n
  have h0 : 0 < 2 ^ g.n := Nat.pow_pos (by decide)
  have h4 := h.i.W.cp.1
  refine zw_cnt g.cp.length (fun c v => ∃ t, v = (nI c, t) ∧ zMZ s t ∧ ∀ c' S, c' < c → S < 2 ^ g.n → zL t 94 (1024 * c' + S) = zuT g c' S) ?_ ?_ N 0 _ (by omega) (by omega) ⟨s, rfl, zfr_rfl, fun c' S hc => absurd hc (Nat.not_lt_zero _)⟩
  · rintro self v ⟨t, rfl, hq, ht⟩
    have r := zMR_Z h hq
    dsimp only [bX12_findRows_6]
    rw [r.i.c3.2.2.1, if_pos (nI_le (Nat.le_refl _) (by omega))]
    exact hk t hq ht
  · rintro self c v hc ⟨t, rfl, hq, ht⟩ hself
    have r := zMR_Z h hq
    dsimp only [bX12_findRows_6, zq_let]
    rw [r.i.c3.2.2.1, if_neg (by rw [nI_leI (by omega) (by omega)]; omega)]
    refine zw_cnt (2 ^ g.n) (fun S v => ∃ t, v = (nI S, t) ∧ zMZ s t ∧ (∀ c' S, c' < c → S < 2 ^ g.n → zL t 94 (1024 * c' + S) = zuT g c' S) ∧ ∀ S', S' < S → zL t 94 (1024 * c + S') = zuT g c S') ?_ ?_ N 0 _ (by omega) (by omega) ⟨t, rfl, hq, ht, fun S' hc => absurd hc (Nat.not_lt_zero _)⟩
    · rintro self2 v ⟨t2, rfl, hq2, ht2, ht3⟩
      have r2 := zMR_Z h hq2
      dsimp only [bX12_findRows_16]
      rw [mX12_all_eq N r2.i.mk r2.i.W.n, zb2_some]
      dsimp only
      rw [if_pos (nI_lt (by omega) (by omega)), nI_1]
      refine hself _ ⟨t2, rfl, hq2, fun c' S h1 h2 => ?_⟩
      by_cases e : c' = c
      · subst e; exact ht3 S h2
      · exact ht2 c' S (by omega) h2
    · rintro self2 S v hS ⟨t2, rfl, hq2, ht2, ht3⟩ hself2
      have r2 := zMR_Z h hq2
      dsimp only [bX12_findRows_16, zq_let]
      rw [mX12_all_eq N r2.i.mk r2.i.W.n, zb2_some]
      dsimp only
      rw [if_neg (nI_nlt (by omega) (by omega)), mX12_isTime_t N hN r2 hc hS, zb2_some]
      dsimp only
      rw [mw_rows_in N hN r2 hc hS (fun c' P h1 h2 => ht2 c' P (by omega) h2)]
      dsimp only [jX12_findRows_j102, zq_let]
      rw [zn_10c, zck_nI (by omega) (by decide), zpl_nI _ _ (by omega), nI_1]
      refine hself2 _ ⟨_, rfl, hq2.tr (zfr_sL 94 _ (by decide)), fun c' P h1 h2 => ?_, fun P h1 => ?_⟩
      · rw [zL_self]
        unfold vp_updL
        rw [if_neg (by omega)]
        exact ht2 c' P h1 h2
      · rw [zL_self]
        unfold vp_updL
        by_cases e : P = S
        · rw [if_pos (by omega), e]
        · rw [if_neg (by omega)]
          exact ht3 P (by omega)
theorem mw_rows_in2 (N : Nat) (hN : 5000 ≤ N) {g : zG} {s : zq_S} (h : zMR g s) {c S : Nat} (hc : c < g.cp.length) (hS : S < 2 ^ g.n) (h95 : ∀ P, c + 1 < g.cp.length → P < 2 ^ g.n → zL s 95 (1024 * (c + 1) + P) = zdT g (g.cp.length - 1 - (c + 1)) P) (k : Int64 × zq_S → Option (Unit × zq_S)) :
    zq_loop (bX12_findRows_176 N (nI c) (nI S) k) N ((if (if ztm g c S then (1 : Int32) else 0) = 0 then (0 : Int64) else if nI c = zgf s 57 54 - 1 then 1 else 0), nI S, s) = k (zdT g (g.cp.length - 1 - c) S, s) := by
  have hp := zn_pow h.i.W.n
  have h4 := h.i.W.cp.1
  have e1 : nI g.cp.length - 1 = nI (g.cp.length - 1) := by
    rw [show g.cp.length = (g.cp.length - 1) + 1 by omega, zn_m1]
    rfl
  have ec : g.cp.length - 1 - (g.cp.length - 1 - c) = c := by omega
  rw [h.i.c3.2.2.1, e1]
  unfold zdT
  rw [ec]
  cases q : ztm g c S with
  | false =>
    rw [zif_f, if_neg (by decide)]
    obtain ⟨M, rfl⟩ : ∃ M', N = M' + 1 := ⟨N - 1, by omega⟩
    rw [zq_loop_s]
    dsimp only [bX12_findRows_176]
    rw [mX12_all_eq _ h.i.mk h.i.W.n, zb2_some]
    dsimp only
    rw [if_neg (nI_nlt (by omega) (by omega)), mX12_isTime_t _ hN h hc hS, q, zb2_some]
    dsimp only
    rw [zif_f, ite_self]
  | true =>
    rw [zif_t, if_pos rfl]
    by_cases z : c = g.cp.length - 1
    · rw [if_pos (by rw [z])]
      obtain ⟨M, rfl⟩ : ∃ M', N = M' + 1 := ⟨N - 1, by omega⟩
      rw [zq_loop_s]
      dsimp only [bX12_findRows_176]
      rw [mX12_all_eq _ h.i.mk h.i.W.n, zb2_some]
      dsimp only
      rw [if_neg (nI_nlt (by omega) (by omega)), h.i.c3.2.2.1, e1, if_pos (nI_le (by omega) (by omega)), show g.cp.length - 1 - c = 0 by omega]
      rfl
    · rw [if_neg (by rw [nI_eq (by omega) (by omega)]; exact z)]
      obtain ⟨d, hd⟩ : ∃ d, g.cp.length - 1 - c = d + 1 := ⟨g.cp.length - 1 - c - 1, by omega⟩
      have hd2 : g.cp.length - 1 - (c + 1) = d := by omega
      rw [hd]
      have hz : zsi 0 (fun P => if zsb S P then zdT g d P else 0) S = 0 := zsi_zero _ _ (fun P hP => by
        rw [if_neg]
        intro y
        have := zsb_le y
        omega)
      have e0 : ((0 : Int64), nI S, s) = (fun j => (zsi 0 (fun P => if zsb S P then zdT g d P else 0) (S + j), nI (S + j), s)) 0 := by
        show _ = (zsi 0 (fun P => if zsb S P then zdT g d P else 0) S, nI S, s)
        rw [hz]
      rw [e0]
      refine Eq.trans (zq_up (2 ^ g.n - S) (fun j => (zsi 0 (fun P => if zsb S P then zdT g d P else 0) (S + j), nI (S + j), s)) (r := k (zsi 0 (fun P => if zsb S P then zdT g d P else 0) (2 ^ g.n), s)) (fun self => ?_) (fun self j hj => ?_) N 0 (by omega) (by omega)) ?_
      · dsimp only [bX12_findRows_176]
        rw [mX12_all_eq _ h.i.mk h.i.W.n, zb2_some]
        dsimp only
        rw [if_pos (nI_lt (by omega) (by omega)), show S + (2 ^ g.n - S) = 2 ^ g.n by omega]
      · dsimp only [bX12_findRows_176, jX12_findRows_j233, zq_let]
        rw [mX12_all_eq _ h.i.mk h.i.W.n, zb2_some]
        dsimp only
        rw [if_neg (nI_nlt (by omega) (by omega)), h.i.c3.2.2.1, e1, if_neg (by rw [nI_leI (by omega) (by omega)]; omega), mX12_isTime_t N hN h hc hS, q, zb2_some]
        dsimp only
        have h95' := h95 (S + j) (by omega) (by omega)
        rw [hd2] at h95'
        rw [zif_t, nI_1, zn_10c, zck_nI (by omega) (by decide), zgl_nI _ _ (by omega), h95', nI_1, zite (zn_sub (a := S) (b := S + j) (by omega)), show S + (j + 1) = (S + j) + 1 by omega]
        cases z2 : zsb S (S + j) with
        | true => rw [if_pos rfl, zsi, z2, if_pos rfl]
        | false => rw [if_neg (by decide), zsi, z2, if_neg (by decide)]
      · rfl
theorem mw_dn (N : Nat) (hN : 5000 ≤ N) {g : zG} {s : zq_S} (h : zMR g s) (hU : ∀ c S, c < g.cp.length → S < 2 ^ g.n → zL s 94 (1024 * c + S) = zuT g c S) :
    zw (zq_loop (bX12_findRows_134 N) N (nI g.cp.length + -1, s)) (fun v => zMZ s v.2 ∧ (∀ c S, c < g.cp.length → S < 2 ^ g.n → zL v.2 94 (1024 * c + S) = zuT g c S) ∧ ∀ c S, c < g.cp.length → S < 2 ^ g.n → zL v.2 95 (1024 * c + S) = zdT g (g.cp.length - 1 - c) S) := by
  have hp := zn_pow h.i.W.n
  have h0 : 0 < 2 ^ g.n := Nat.pow_pos (by decide)
  have h4 := h.i.W.cp.1
  refine zw_cnt g.cp.length (fun d v => ∃ t, v = (nI (g.cp.length - d) + -1, t) ∧ zMZ s t ∧ zL t 94 = zL s 94 ∧ ∀ c S, c < g.cp.length → g.cp.length ≤ c + d → S < 2 ^ g.n → zL t 95 (1024 * c + S) = zdT g (g.cp.length - 1 - c) S) ?_ ?_ N 0 _ (by omega) (by omega) ⟨s, rfl, zfr_rfl, rfl, fun c S h1 h2 => by omega⟩
  · rintro self v ⟨t, rfl, hq, e94, ht⟩
    dsimp only [bX12_findRows_134]
    rw [Nat.sub_self, if_pos (by decide)]
    refine ⟨_, rfl, hq, fun c S h1 h2 => ?_, fun c S h1 h2 => ht c S h1 (by omega) h2⟩
    dsimp only
    rw [e94]
    exact hU c S h1 h2
  · rintro self d v hd ⟨t, rfl, hq, e94, ht⟩ hself
    have e3 : nI (g.cp.length - d) + -1 = nI (g.cp.length - 1 - d) := by
      rw [show g.cp.length - d = (g.cp.length - 1 - d) + 1 by omega, pk_m1]
    dsimp only [bX12_findRows_134, zq_let]
    rw [e3, if_neg (nI_nneg (by omega))]
    refine zw_cnt (2 ^ g.n) (fun S v => ∃ t, v = (nI S, t) ∧ zMZ s t ∧ zL t 94 = zL s 94 ∧ (∀ c S, c < g.cp.length → g.cp.length ≤ c + d → S < 2 ^ g.n → zL t 95 (1024 * c + S) = zdT g (g.cp.length - 1 - c) S) ∧ ∀ S', S' < S → zL t 95 (1024 * (g.cp.length - 1 - d) + S') = zdT g d S') ?_ ?_ N 0 _ (by omega) (by omega) ⟨t, rfl, hq, e94, ht, fun S' hc => absurd hc (Nat.not_lt_zero _)⟩
    · rintro self2 v ⟨t2, rfl, hq2, e942, ht2, ht3⟩
      have r2 := zMR_Z h hq2
      dsimp only [bX12_findRows_140]
      rw [mX12_all_eq N r2.i.mk r2.i.W.n, zb2_some]
      dsimp only
      rw [if_pos (nI_lt (by omega) (by omega))]
      refine hself _ ⟨t2, ?_, hq2, e942, fun c S h1 h2 h3 => ?_⟩
      · rw [show g.cp.length - (d + 1) = g.cp.length - 1 - d by omega]
      · by_cases e : c + d = g.cp.length - 1
        · rw [show c = g.cp.length - 1 - d by omega, ht3 S h3, show g.cp.length - 1 - (g.cp.length - 1 - d) = d by omega]
        · exact ht2 c S h1 (by omega) h3
    · rintro self2 S v hS ⟨t2, rfl, hq2, e942, ht2, ht3⟩ hself2
      have r2 := zMR_Z h hq2
      dsimp only [bX12_findRows_140, zq_let]
      rw [mX12_all_eq N r2.i.mk r2.i.W.n, zb2_some]
      dsimp only
      rw [if_neg (nI_nlt (by omega) (by omega)), mX12_isTime_t N hN r2 (show g.cp.length - 1 - d < g.cp.length by omega) hS, zb2_some]
      dsimp only
      rw [mw_rows_in2 N hN r2 (show g.cp.length - 1 - d < g.cp.length by omega) hS (fun P h1 h2 => ht2 _ P h1 (by omega) h2), show g.cp.length - 1 - (g.cp.length - 1 - d) = d by omega]
      dsimp only [jX12_findRows_j241, zq_let]
      rw [zn_10c, zck_nI (by omega) (by decide), zpl_nI _ _ (by omega), nI_1]
      refine hself2 _ ⟨_, rfl, hq2.tr (zfr_sL 95 _ (by decide)), ?_, fun c' P h1 h2 h3 => ?_, fun P h1 => ?_⟩
      · rw [zL_ne _ (by decide)]; exact e942
      · rw [zL_self]
        unfold vp_updL
        rw [if_neg (by omega)]
        exact ht2 c' P h1 h2 h3
      · rw [zL_self]
        unfold vp_updL
        by_cases e : P = S
        · rw [if_pos (by omega), e]
        · rw [if_neg (by omega)]
          exact ht3 P (by omega)
theorem mw_findRows (N : Nat) (hN : 5000 ≤ N) {g : zG} {s : zq_S} (h : zMI g s) :
    zw (mX12_findRows N s) (fun v => zMR g v.2 ∧ zMQ s v.2 ∧ (∀ c S, c < g.cp.length → S < 2 ^ g.n → zL v.2 94 (1024 * c + S) = zuT g c S) ∧ ∀ c S, c < g.cp.length → S < 2 ^ g.n → zL v.2 95 (1024 * c + S) = zdT g (g.cp.length - 1 - c) S) := by
  unfold mX12_findRows
  refine zw_call (mw_findTexts N hN h) (fun r t ⟨k1, k2⟩ => ?_)
  refine mw_up N hN k1 (fun t2 hq ht => ?_)
  have r2 := zMR_Z k1 hq
  dsimp only [zq_let]
  have e : zgf t2 57 54 - 1 = nI g.cp.length + -1 := by
    rw [r2.i.c3.2.2.1, Int32.sub_eq_add_neg]
  rw [e]
  refine zw_mono (mw_dn N hN r2 ht) ?_
  rintro ⟨u, t3⟩ ⟨l1, l2, l3⟩
  exact ⟨zMR_Z r2 l1, ((zMG_Q k2).tr (zMZ_Q hq)).tr (zMZ_Q l1), l2, l3⟩
theorem pub_holds (N : Nat) (hN : 5000 ≤ N) {g : zG} (hW : zGW g) : zAg g g (mX11_holds N) (mX12_holds N) := by
  have hp := zn_pow hW.n
  have h0 : 0 < 2 ^ g.n := Nat.pow_pos (by decide)
  have h4 := hW.cp.1
  refine ⟨if g.cp.length = 0 then 1 else zsi 0 (zuT g (g.cp.length - 1)) (2 ^ g.n), fun s h => ?_, fun s h => ?_⟩
  · unfold mX11_holds
    refine zw_call (xw_rows N hN h) (fun r t ⟨k1, k2, k3⟩ => ?_)
    exact ⟨_, rfl, k1, k2, zXQ_SM (zXR_Q k3)⟩
  · unfold mX12_holds
    refine zw_call (mw_findRows N hN h) (fun r t ⟨k1, k2, k3, k4⟩ => ?_)
    dsimp only [zq_let] at k1 k2 k3 k4 ⊢
    rw [k1.i.c3.2.2.1]
    by_cases q : g.cp.length = 0
    · rw [if_pos q, q, if_pos (by rfl)]
      obtain ⟨M, rfl⟩ : ∃ M', N = M' + 1 := ⟨N - 1, by omega⟩
      rw [zq_loop_s]
      dsimp only [bX12_holds_19, jX12_holds_j49]
      rw [mX12_all_eq _ k1.i.mk hW.n, zb2_some]
      dsimp only
      rw [if_neg (nI_nneg (by omega)), k1.i.c3.2.2.1, q, if_pos (by decide)]
      exact ⟨_, rfl, rfl, k1.i, zMQ_SX k2⟩
    · rw [if_neg q, if_neg (by rw [show (0 : Int32) = nI 0 from rfl, nI_eq (by omega) (by decide)]; exact q)]
      have e0 : ((0 : Int64), (0 : Int32), t) = (fun j => (zsi 0 (zdT g (g.cp.length - 1)) j, nI j, t)) 0 := rfl
      rw [e0, zq_up (2 ^ g.n) (fun j => (zsi 0 (zdT g (g.cp.length - 1)) j, nI j, t)) (r := some (zsi 0 (zdT g (g.cp.length - 1)) (2 ^ g.n), t)) (fun self => ?_) (fun self j hj => ?_) N 0 (by omega) (by omega)]
      · exact ⟨_, rfl, (zrows_all g (by omega)).symm, k1.i, zMQ_SX k2⟩
      · dsimp only [bX12_holds_19, jX12_holds_j49]
        rw [mX12_all_eq _ k1.i.mk hW.n, zb2_some]
        dsimp only
        rw [if_pos (nI_lt (by omega) (by omega))]
      · dsimp only [bX12_holds_19, jX12_holds_j49, zq_let]
        rw [mX12_all_eq _ k1.i.mk hW.n, zb2_some]
        dsimp only
        have := k4 0 j (by omega) hj
        rw [Nat.mul_zero, Nat.zero_add, Nat.sub_zero] at this
        rw [if_neg (nI_nlt (by omega) (by omega)), k1.i.c3.2.2.1, if_neg (by rw [show (0 : Int32) = nI 0 from rfl, nI_leI (by omega) (by omega)]; omega), zck_nI (by omega) (by decide), zgl_nI _ _ (by omega), this, nI_1]
        rfl
