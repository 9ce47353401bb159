/-! sessions: the reference -/
def zMF (g : zG) (s : zq_S) : Prop := zMI g s ∧ zgf s 57 37 = 1
theorem zMF.i {g : zG} {s : zq_S} (h : zMF g s) : zMI g s := h.1
theorem zMF.fd {g : zG} {s : zq_S} (h : zMF g s) : zFD s g.n g.mu := by
  rcases h.1.cm.1 with q | q
  · rw [h.2] at q; exact absurd q (by decide)
  · exact q.2
theorem zMF.good {g : zG} {s : zq_S} (h : zMF g s) {S : Nat} (hS : S < 2 ^ g.n) : zA s 78 S = zib (zgd g.mu S g.n) := h.fd.1 S hS
theorem zMF.nx {g : zG} {s : zq_S} (h : zMF g s) {S : Nat} (hS : S < 2 ^ g.n) : zA s 79 S = nI (znx g.mu S g.n) := h.fd.2.1 S hS
theorem zMF_Z {g : zG} {s t : zq_S} (h : zMF g s) (hq : zMZ s t) : zMF g t := by
  refine ⟨zMI_Q h.i (zMZ_Q hq) ?_, by rw [hq.f 57 37 (by decide)]; exact h.2⟩
  have hc := h.i.cm
  unfold zCm zFD zMx at hc ⊢
  rw [hq.f 57 37 (by decide), hq.f 57 44 (by decide), hq.a 78 (by decide), hq.a 79 (by decide), hq.l 80 (by decide), hq.l 81 (by decide), hq.a 84 (by decide), hq.a 85 (by decide), hq.l 86 (by decide)]
  exact hc
theorem mw_breaksOf (N : Nat) (hN : 5000 ≤ N) {g : zG} {s : zq_S} (h : zMF g s) {S : Nat} (hS : S < 2 ^ g.n) :
    zw (mX12_breaksOf N (nI S) s) (fun v => v.1 = nI (zbks g.bs (ztx g.T S)) ∧ zMF g v.2 ∧ zMG s v.2) := by
  unfold mX12_breaksOf
  rw [zw_b2]
  refine zw_mono (mw_findTexts N hN h.i) ?_
  rintro ⟨r2, t2⟩ ⟨l1, l2⟩
  have e2 := mX12_breaksOf_r N hN l1 hS
  unfold mX12_breaksOf at e2
  rw [mX12_findTexts_r N hN l1, zb2_some] at e2
  dsimp only at e2 l1 l2 ⊢
  rw [e2, zw_some]
  exact ⟨rfl, ⟨l1.1, l1.2.1⟩, l2⟩
/-- the pair at place a -/
def zPr2 (s : zq_S) (a : Nat) (p : Nat × Nat) : Prop := zA s 82 a = nI p.1 ∧ zA s 83 a = nI p.2
def zPs (s : zq_S) (a : Nat) (p : Nat × Nat) : zq_S := zsA (zsA s 82 (upd (zA s 82) a (nI p.1))) 83 (upd (zA s 83) a (nI p.2))
theorem zPs_fr (s : zq_S) (a : Nat) (p : Nat × Nat) : zMZ s (zPs s a p) := (zfr_sA 82 _ (by decide)).tr (zfr_sA 83 _ (by decide))
theorem zPs_82 (s : zq_S) (a : Nat) (p : Nat × Nat) : zA (zPs s a p) 82 = upd (zA s 82) a (nI p.1) := by unfold zPs; rw [zA_ne _ (by decide), zA_self]
theorem zPs_83 (s : zq_S) (a : Nat) (p : Nat × Nat) : zA (zPs s a p) 83 = upd (zA s 83) a (nI p.2) := by unfold zPs; rw [zA_self]
theorem zPs_at (s : zq_S) (a : Nat) (p : Nat × Nat) : zPr2 (zPs s a p) a p := by
  refine ⟨?_, ?_⟩
  · rw [zPs_82]; exact if_pos rfl
  · rw [zPs_83]; exact if_pos rfl
theorem zPs_ne (s : zq_S) {a b : Nat} (p q : Nat × Nat) (h : b ≠ a) (hb : zPr2 s b q) : zPr2 (zPs s a p) b q := by
  refine ⟨?_, ?_⟩
  · rw [zPs_82]; exact (if_neg h).trans hb.1
  · rw [zPs_83]; exact (if_neg h).trans hb.2
theorem msj197 (N : Nat) {s : zq_S} {a : Nat} (ha : a < 4096) {p : Nat × Nat} (hp : zPr2 s a p) (hp1 : p.1 < 2 ^ 30) (hp2 : p.2 < 2 ^ 30) {c x y : Nat} (hc : c < 2 ^ 30) (hx : x < 2 ^ 29) (hy : y < 2 ^ 29) (f1 f2 w4 : Int32) (k : zq_S → Option (Unit × zq_S)) (self : Int32 × zq_S → Option (Unit × zq_S)) :
    jX12_findSessions_j197 N f1 f2 (nI a) k self w4 (nI c) (nI x) (nI y) s = self (w4 + 1, zPs s a (zlx p (c, y + x))) := by
  have c1 : zA (zsA s 82 (upd (zA s 82) a (nI p.1))) 83 = zA s 83 := zA_ne _ (by decide) _
  dsimp only [jX12_findSessions_j197, jX12_findSessions_j233, jX12_findSessions_j237, jX12_findSessions_j238, jX12_findSessions_j261, jX12_findSessions_j283, jX12_findSessions_j284, zq_let]
  rw [nI_add]
  simp only [zck_nI ha (show 4096 < 2 ^ 31 by decide), zga_nI _ _ (show a < 2 ^ 31 by omega), hp.1, hp.2, zpa_nI _ _ (show a < 2 ^ 31 by omega), if_true, show ¬ (1 : Int32) = 0 by decide, if_false, c1]
  have z83 : ∀ f, zA (zsA s 82 f) 83 = zA s 83 := fun f => zA_ne _ (by decide) _
  simp only [z83, hp.2]
  unfold zlx zPs
  by_cases q1 : c < p.1
  · rw [if_pos (show nI c < nI p.1 by rw [nI_ltI (by omega) (by omega)]; exact q1), if_pos (Or.inl q1)]
  · rw [if_neg (show ¬ nI c < nI p.1 by rw [nI_ltI (by omega) (by omega)]; exact q1)]
    by_cases q2 : c = p.1
    · rw [if_pos (by rw [q2])]
      by_cases q3 : y + x < p.2
      · rw [if_neg (show ¬ nI p.2 ≤ nI (y + x) by rw [nI_leI (by omega) (by omega)]; omega), if_pos (Or.inr ⟨q2, q3⟩)]
      · rw [if_pos (show nI p.2 ≤ nI (y + x) by rw [nI_leI (by omega) (by omega)]; omega), if_neg (by rintro (z | z); exact q1 z; exact q3 z.2)]
    · rw [if_neg (show ¬ nI c = nI p.1 by rw [nI_eq (by omega) (by omega)]; exact q2), if_neg (by rintro (z | z); exact q1 z; exact q2 z.1)]
theorem zbst_top {E : Nat → Bool} {c : Nat → Nat × Nat} {A B : Nat} (hA : A ≤ 1000000) : ∀ n, (∀ m, m < n → E m = true → (c m).1 ≤ A ∧ (c m).2 ≤ B) → (zbst E c n).1 ≤ 1000000 ∧ (zbst E c n).2 ≤ B := by
  intro n
  induction n with
  | zero => intro _; exact ⟨Nat.le_refl _, Nat.zero_le _⟩
  | succ n ih =>
    intro h
    have ih := ih (fun m hm => h m (by omega))
    unfold zbst
    cases q : E n with
    | false => exact ih
    | true =>
      rw [if_pos rfl]
      have := h n (by omega) q
      unfold zlx
      split
      · exact ⟨by omega, this.2⟩
      · exact ih
abbrev zPb (g : zG) (S i : Nat) : Nat × Nat := zP g.n g.mu g.ik (zbr g true) S i
/-- the pairs of the good set T stand -/
def zST (g : zG) (T : Nat) (s : zq_S) : Prop := ∀ i, i < 4 → zPr2 s (4 * T + i) (zPb g T i)
theorem mw_sess_in (N : Nat) (hN : 5000 ≤ N) {g : zG} {s : zq_S} (h : zMF g s) {S i : Nat} (hS : S < 2 ^ g.n) (hi : i < 4) (hg : zgd g.mu S g.n = true) (hT : ∀ m, m < g.n → zed g.n g.mu S m = true → zST g (S ||| 2 ^ m) s)
    (h0 : zPr2 s (4 * S + i) (if S = 2 ^ g.n - 1 then (0, if g.n = 0 then 0 else zbr g true S) else (1000000, 0))) {k : zq_S → Option (Unit × zq_S)} {Q : Unit × zq_S → Prop}
    (hk : ∀ t, zMF g t → zMQ s t → zPr2 t (4 * S + i) (zPb g S i) → (∀ a p, a ≠ 4 * S + i → zPr2 s a p → zPr2 t a p) → zw (k t) Q) :
    zw (zq_loop (bX12_findSessions_80 N (nI S) (nI i) (nI (4 * S + i)) k) N (0, s)) Q := by
  have hW := h.i.W
  have hn := hW.n
  have hp := zn_pow hn
  have hx := znx_lt (n := g.n) g.mu S g.n (Nat.le_refl _)
  have hb := zbr_le hW true
  have s1 := zlt_pow hn hS
  have hcb : ∀ m, m < g.n → zed g.n g.mu S m = true → (zcd g.ik (zbr g true) (zP g.n g.mu g.ik (zbr g true)) S i m).1 ≤ 900 ∧ (zcd g.ik (zbr g true) (zP g.n g.mu g.ik (zbr g true)) S i m).2 ≤ 480 := by
    intro m hm he
    have := zP_small hW hb g.ik (g.ik m) (zor_lt hS hm) (zgd_next he)
    have hbS := hb S
    unfold zcd
    dsimp only
    constructor
    · split <;> omega
    · split <;> omega
  refine zw_cnt g.n (fun m v => ∃ t, v = (nI m, t) ∧ zMF g t ∧ zMQ s t ∧ zPr2 t (4 * S + i) (if S = 2 ^ g.n - 1 then (0, if g.n = 0 then 0 else zbr g true S) else zbst (zed g.n g.mu S) (zcd g.ik (zbr g true) (zP g.n g.mu g.ik (zbr g true)) S i) m) ∧ ∀ a p, a ≠ 4 * S + i → zPr2 s a p → zPr2 t a p) ?_ ?_ N 0 _ (by omega) (by omega) ⟨s, rfl, h, zfr_rfl, h0, fun _ _ _ z => z⟩
  · rintro self v ⟨t, rfl, ht, hq, ha, hb2⟩
    dsimp only [bX12_findSessions_80]
    rw [ht.i.mk, if_pos (nI_le (Nat.le_refl _) (by omega))]
    refine hk t ht hq ?_ hb2
    show zPr2 t (4 * S + i) (zP g.n g.mu g.ik (zbr g true) S i)
    rw [zP_rec _ _ _ hS]
    exact ha
  · rintro self m v hm ⟨t, rfl, ht, hq, ha, hb2⟩ hself
    dsimp only [bX12_findSessions_80]
    have eb : (znx g.mu S g.n).testBit m = zed g.n g.mu S m := by unfold zed; rw [hg, Bool.true_and]
    rw [ht.i.mk, if_neg (by rw [nI_leI (by omega) (by omega)]; omega), zck_nI s1 (by decide), zga_nI _ _ (by omega), ht.good hS, hg, zib_t, if_neg (show ¬ (1 : Int32) = 0 by decide), zck_nI s1 (by decide), zga_nI _ _ (by omega), ht.nx hS, mX12_has_eq N (by omega) (by omega), zb2_some, eb]
    dsimp only [zq_let]
    cases q : zed g.n g.mu S m with
    | false =>
      rw [zif_f]
      dsimp only [jX12_findSessions_j284, zq_let]
      rw [nI_1]
      refine hself _ ⟨t, rfl, ht, hq, ?_, hb2⟩
      have : zbst (zed g.n g.mu S) (zcd g.ik (zbr g true) (zP g.n g.mu g.ik (zbr g true)) S i) (m + 1) = zbst (zed g.n g.mu S) (zcd g.ik (zbr g true) (zP g.n g.mu g.ik (zbr g true)) S i) m := if_neg (by rw [q]; decide)
      rw [this]
      exact ha
    | true =>
      have hf : S ≠ 2 ^ g.n - 1 := by
        rintro rfl
        rw [zed_full] at q
        cases q
      have hik := hW.ik m hm
      have ho := zor_lt hS hm
      rw [if_neg hf] at ha
      obtain ⟨bt1, bt2⟩ := zbst_top (E := zed g.n g.mu S) (c := zcd g.ik (zbr g true) (zP g.n g.mu g.ik (zbr g true)) S i) (A := 900) (B := 480) (by decide) m (fun m' hm' he => hcb m' (by omega) he)
      have hst := hb2 _ _ (by have := zed_gt S m q; omega) (hT m hm q (g.ik m) hik)
      have hsm := zP_small hW hb g.ik (g.ik m) ho (zgd_next q)
      have hbS := hb S
      have est : zbst (zed g.n g.mu S) (zcd g.ik (zbr g true) (zP g.n g.mu g.ik (zbr g true)) S i) (m + 1) = zlx (zbst (zed g.n g.mu S) (zcd g.ik (zbr g true) (zP g.n g.mu g.ik (zbr g true)) S i) m) (zcd g.ik (zbr g true) (zP g.n g.mu g.ik (zbr g true)) S i m) := if_pos q
      -- the end
      have fin : ∀ t2, zMF g t2 → zMG t t2 → ∀ x, x < 2 ^ 20 → ∀ d, zcd g.ik (zbr g true) (zP g.n g.mu g.ik (zbr g true)) S i m = ((zPb g (S ||| 2 ^ m) (g.ik m)).1 + d, (zPb g (S ||| 2 ^ m) (g.ik m)).2 + x) → d ≤ 1 → zw (jX12_findSessions_j197 N (nI S) (nI i) (nI (4 * S + i)) k self (nI m) (nI ((zPb g (S ||| 2 ^ m) (g.ik m)).1 + d)) (nI x) (nI (zPb g (S ||| 2 ^ m) (g.ik m)).2) t2) Q := by
        intro t2 h2 f2 x hx2 d ec hd
        have ha2 : zPr2 t2 (4 * S + i) (zbst (zed g.n g.mu S) (zcd g.ik (zbr g true) (zP g.n g.mu g.ik (zbr g true)) S i) m) := by
          unfold zPr2
          rw [f2.a 82 (by decide), f2.a 83 (by decide)]
          exact ha
        rw [msj197 N (by omega) ha2 (by omega) (by omega) (by show (zP g.n g.mu g.ik (zbr g true) (S ||| 2 ^ m) (g.ik m)).1 + d < 2 ^ 30; omega) (by omega) (by show (zP g.n g.mu g.ik (zbr g true) (S ||| 2 ^ m) (g.ik m)).2 < 2 ^ 29; omega), nI_1, ← ec, ← est]
        have f3 := zPs_fr t2 (4 * S + i) (zbst (zed g.n g.mu S) (zcd g.ik (zbr g true) (zP g.n g.mu g.ik (zbr g true)) S i) (m + 1))
        refine hself _ ⟨_, rfl, zMF_Z h2 f3, (hq.tr (zMG_Q f2)).tr (zMZ_Q f3), ?_, fun a p hne hap => ?_⟩
        · rw [if_neg hf]
          exact zPs_at _ _ _
        · refine zPs_ne _ _ _ hne ?_
          have := hb2 a p hne hap
          unfold zPr2 at this ⊢
          rw [f2.a 82 (by decide), f2.a 83 (by decide)]
          exact this
      rw [zif_t, zck_nI (by omega) (by decide), zga_nI _ _ (by omega), ht.i.ik m hm, zn_shl (by omega), zn_or, zn_4m]
      have e82 : zga t 82 (nI (4 * (S ||| 2 ^ m) + g.ik m)) = nI (zPb g (S ||| 2 ^ m) (g.ik m)).1 := by rw [zga_nI _ _ (by omega)]; exact hst.1
      have e83 : zga t 83 (nI (4 * (S ||| 2 ^ m) + g.ik m)) = nI (zPb g (S ||| 2 ^ m) (g.ik m)).2 := by rw [zga_nI _ _ (by omega)]; exact hst.2
      have j188 : ∀ d, d ≤ 1 → zcd g.ik (zbr g true) (zP g.n g.mu g.ik (zbr g true)) S i m = ((zPb g (S ||| 2 ^ m) (g.ik m)).1 + d, (zPb g (S ||| 2 ^ m) (g.ik m)).2 + 0) → zw (jX12_findSessions_j188 N (nI S) (nI i) (nI (4 * S + i)) k self (nI m) (nI ((zPb g (S ||| 2 ^ m) (g.ik m)).1 + d)) (nI (zPb g (S ||| 2 ^ m) (g.ik m)).2) t) Q := by
        intro d hd ec
        unfold jX12_findSessions_j188
        exact fin t ht zfr_rfl 0 (by decide) d ec hd
      by_cases z0 : S = 0
      · rw [if_pos (by rw [z0]; decide)]
        dsimp only [jX12_findSessions_j149, jX12_findSessions_j150, zq_let]
        rw [zck_nI (by omega) (by decide), e82, e83, if_pos rfl, if_pos rfl, if_pos (by rw [z0]; rfl), zck_nI (by omega) (by decide), nI_1]
        refine j188 1 (Nat.le_refl _) ?_
        unfold zcd
        rw [if_neg (fun z => z.1 z0), if_pos (Or.inr z0)]
      · rw [if_neg (by rw [show (0 : Int32) = nI 0 from rfl, nI_leI (by omega) (by omega)]; omega), zck_nI (by omega) (by decide)]
        by_cases z1 : g.ik m = i
        · rw [if_pos (by rw [z1])]
          dsimp only [jX12_findSessions_j150, zq_let]
          rw [zck_nI (by omega) (by decide), e82, e83, if_neg (show ¬ (1 : Int32) = 0 by decide), if_neg (show ¬ (1 : Int32) = 0 by decide), zck_nI (by omega) (by decide), show (0 : Int32) = nI 0 from rfl, nI_add]
          refine j188 0 (by decide) ?_
          unfold zcd
          rw [if_pos ⟨z0, z1⟩, if_pos (Or.inl ⟨z0, z1⟩)]
        · rw [if_neg (by rw [nI_eq (by omega) (by omega)]; exact z1)]
          dsimp only [jX12_findSessions_j149, jX12_findSessions_j150, zq_let]
          rw [zck_nI (by omega) (by decide), e82, e83, if_pos rfl, if_pos rfl, if_neg (by rw [show (0 : Int32) = nI 0 from rfl, nI_eq (by omega) (by decide)]; exact z0), zck_nI (by omega) (by decide), nI_1]
          refine zw_call (mw_breaksOf N hN ht hS) (fun r t2 ⟨k1, k2, k3⟩ => ?_)
          dsimp only at k1 k2 k3
          subst k1
          have eb3 : zbks g.bs (ztx g.T S) = zbr g true S := rfl
          refine fin t2 k2 k3 _ (by omega) 1 ?_ (Nat.le_refl _)
          unfold zcd
          rw [if_neg (fun z => z1 z.2), if_neg (fun z => z.elim (fun y => z1 y.2) z0)]
          rfl
