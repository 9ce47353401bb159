/-! sessions: the first order with the fewest -/
/-- mark m may come next at least cost -/
def zcnd (g : zG) (S i m : Nat) : Prop := zed g.n g.mu S m = true ∧ (zcd g.ik (fun _ => 0) (zP g.n g.mu g.ik (fun _ => 0)) S i m).1 = (zP g.n g.mu g.ik (fun _ => 0) S i).1
theorem zfmk_s (g : zG) (S i k : Nat) : (zcnd g S i (g.n - 1 - k) → zfmk g.n g.mu g.ik S i (k + 1) = g.n - 1 - k) ∧ (¬ zcnd g S i (g.n - 1 - k) → zfmk g.n g.mu g.ik S i (k + 1) = zfmk g.n g.mu g.ik S i k) :=
  ⟨fun h => if_pos h, fun h => if_neg h⟩
theorem zfmk_ok (g : zG) (S i : Nat) : ∀ k, k ≤ g.n → (zfmk g.n g.mu g.ik S i k = g.n ∧ ∀ m, g.n - k ≤ m → m < g.n → ¬ zcnd g S i m) ∨ (g.n - k ≤ zfmk g.n g.mu g.ik S i k ∧ zfmk g.n g.mu g.ik S i k < g.n ∧ zcnd g S i (zfmk g.n g.mu g.ik S i k) ∧ ∀ m, g.n - k ≤ m → m < zfmk g.n g.mu g.ik S i k → ¬ zcnd g S i m) := by
  intro k
  induction k with
  | zero => intro _; exact Or.inl ⟨rfl, fun m h1 h2 => by omega⟩
  | succ k ih =>
    intro hk
    by_cases c : zcnd g S i (g.n - 1 - k)
    · right
      rw [(zfmk_s g S i k).1 c]
      exact ⟨by omega, by omega, c, fun m h1 h2 => by omega⟩
    · rw [(zfmk_s g S i k).2 c]
      rcases ih (by omega) with ⟨a, b⟩ | ⟨a, b, d, e⟩
      · refine Or.inl ⟨a, fun m h1 h2 => ?_⟩
        by_cases z : m = g.n - 1 - k
        · rw [z]; exact c
        · exact b m (by omega) h2
      · refine Or.inr ⟨by omega, b, d, fun m h1 h2 => ?_⟩
        by_cases z : m = g.n - 1 - k
        · rw [z]; exact c
        · exact e m (by omega) h2
theorem zmi_at {E : Nat → Bool} {V : Nat → Nat} : ∀ n, (∃ m, m < n ∧ E m = true ∧ V m < 1000000) → ∃ m, m < n ∧ E m = true ∧ V m = zmi E V n := by
  intro n
  have key : zmi E V n = 1000000 ∨ ∃ m, m < n ∧ E m = true ∧ V m = zmi E V n := by
    induction n with
    | zero => exact Or.inl rfl
    | succ n ih =>
      unfold zmi
      cases q : E n with
      | false =>
        rw [if_neg (by decide)]
        rcases ih with a | ⟨m, a, b, d⟩
        · exact Or.inl a
        · exact Or.inr ⟨m, by omega, b, d⟩
      | true =>
        rw [if_pos rfl]
        by_cases c : V n ≤ zmi E V n
        · exact Or.inr ⟨n, by omega, q, by omega⟩
        · rcases ih with a | ⟨m, a, b, d⟩
          · left; omega
          · exact Or.inr ⟨m, by omega, b, by omega⟩
  rintro ⟨m, h1, h2, h3⟩
  rcases key with a | a
  · exfalso
    have : ∀ k, m < k → zmi E V k ≤ V m := by
      intro k
      induction k with
      | zero => intro h; omega
      | succ k ihk =>
        intro h
        unfold zmi
        by_cases e : m = k
        · rw [← e, h2, if_pos rfl]; omega
        · have := ihk (by omega)
          split <;> omega
    have := this n h1
    omega
  · exact a
theorem zcnd_ex {g : zG} (hW : zGW g) {S : Nat} (i : Nat) (hS : S < 2 ^ g.n) (hg : zgd g.mu S g.n = true) (hf : S ≠ 2 ^ g.n - 1) : ∃ m, m < g.n ∧ zcnd g S i m := by
  obtain ⟨m, hm, he⟩ := znext_ex hW hS hg hf
  have hb : ∀ S : Nat, (fun _ : Nat => 0) S ≤ 40 := fun _ => Nat.zero_le _
  have := zP_small hW hb g.ik (g.ik m) (zor_lt hS hm) (zgd_next he)
  obtain ⟨k, k1, k2, k3⟩ := zmi_at (E := zed g.n g.mu S) (V := fun m => (zcd g.ik (fun _ => 0) (zP g.n g.mu g.ik (fun _ => 0)) S i m).1) g.n ⟨m, hm, he, by
    unfold zcd
    dsimp only
    split <;> omega⟩
  refine ⟨k, k1, k2, ?_⟩
  show _ = (zP g.n g.mu g.ik (fun _ => 0) S i).1
  rw [zP_rec _ _ _ hS, if_neg hf, zbst_1]
  exact k3
theorem zfmk_n {g : zG} (hW : zGW g) {S : Nat} (i : Nat) (hS : S < 2 ^ g.n) (hg : zgd g.mu S g.n = true) (hf : S ≠ 2 ^ g.n - 1) : zfmk g.n g.mu g.ik S i g.n < g.n ∧ zcnd g S i (zfmk g.n g.mu g.ik S i g.n) ∧ ∀ m, m < zfmk g.n g.mu g.ik S i g.n → ¬ zcnd g S i m := by
  rcases zfmk_ok g S i g.n (Nat.le_refl _) with ⟨_, b⟩ | ⟨_, b, d, e⟩
  · obtain ⟨m, hm, hc⟩ := zcnd_ex hW i hS hg hf
    exact absurd hc (b m (by omega) hm)
  · exact ⟨b, d, fun m h => e m (by omega) h⟩
/-- the way of the first order -/
theorem zfst_ok {g : zG} (hW : zGW g) : ∀ k, k ≤ g.n → (zfst g.n g.mu g.ik k).1 < 2 ^ g.n ∧ zgd g.mu (zfst g.n g.mu g.ik k).1 g.n = true ∧ zbc (zfst g.n g.mu g.ik k).1 g.n = k ∧ (zfst g.n g.mu g.ik k).2 < 4 := by
  intro k
  induction k with
  | zero =>
    intro _
    refine ⟨Nat.pow_pos (by decide), zgd_zero _ _, ?_, show (0 : Nat) < 4 by decide⟩
    show zbc 0 g.n = 0
    rw [zbc_cn]
    have : ∀ n, zcn (fun i => (0 : Nat).testBit i) n = 0 := by
      intro n
      induction n with
      | zero => rfl
      | succ n ih => unfold zcn; rw [ih, Nat.zero_testBit]; rfl
    exact this _
  | succ k ih =>
    intro hk
    obtain ⟨h1, h2, h3, h4⟩ := ih (by omega)
    have hf : (zfst g.n g.mu g.ik k).1 ≠ 2 ^ g.n - 1 := by
      intro z
      rw [z, zbc_full g.n g.n (Nat.le_refl _)] at h3
      omega
    obtain ⟨m1, m2, _⟩ := zfmk_n hW (zfst g.n g.mu g.ik k).2 h1 h2 hf
    have h5 := zbc_or (zed_lt m2.1).2.1 g.n
    rw [if_pos m1] at h5
    unfold zfst
    exact ⟨zor_lt h1 m1, zgd_next m2.1, by dsimp only; omega, hW.ik _ m1⟩
theorem zfst_nf {g : zG} (hW : zGW g) {k : Nat} (hk : k < g.n) : (zfst g.n g.mu g.ik k).1 ≠ 2 ^ g.n - 1 ∧ ((zfst g.n g.mu g.ik k).1 = 0 ↔ k = 0) := by
  obtain ⟨h1, h2, h3, h4⟩ := zfst_ok hW k (by omega)
  constructor
  · intro z
    rw [z, zbc_full g.n g.n (Nat.le_refl _)] at h3
    omega
  · constructor
    · intro z
      obtain ⟨_, _, h5, _⟩ := zfst_ok hW 0 (by omega)
      have e : (zfst g.n g.mu g.ik 0).1 = 0 := rfl
      rw [e] at h5
      rw [z, h5] at h3
      exact h3.symm
    · rintro rfl; rfl
theorem zQ_f (g : zG) {S : Nat} (hS : S < 2 ^ g.n) (i : Nat) : zQ g false S i = 1000 * (zP g.n g.mu g.ik (fun _ => 0) S i).1 := by
  unfold zQ zvl
  have e : zbr g false = fun _ => 0 := rfl
  rw [e, zP_0 g.mu g.ik (2 ^ g.n) S i hS (by omega)]
  rfl
theorem xw_leastMark (N : Nat) (hN : 5000 ≤ N) {g : zG} {s : zq_S} (h : zXI g s) (hR : zRT g false 0 s) {S i : Nat} (hS : S < 2 ^ g.n) (hg : zgd g.mu S g.n = true) (hf : S ≠ 2 ^ g.n - 1) {c : Int32} (hc : ∀ a, a < 4 → (nI a = c ↔ (S ≠ 0 ∧ a = i))) :
    mX6_leastMark N (nI S) c (lN (1000 * (zP g.n g.mu g.ik (fun _ => 0) S i).1)) s = some (nI (zfmk g.n g.mu g.ik S i g.n), s) := by
  have hW := h.W
  have hn := hW.n
  have hp := zn_pow hn
  have hx := znx_lt (n := g.n) g.mu S g.n (Nat.le_refl _)
  obtain ⟨f1, f2, f3⟩ := zfmk_n hW i hS hg hf
  have hb : ∀ S : Nat, (fun _ : Nat => 0) S ≤ 40 := fun _ => Nat.zero_le _
  have hsm := zP_small hW hb g.ik i hS hg
  unfold mX6_leastMark
  rw [h.fol N hN hS, zb2_some]
  dsimp only
  refine zw_of (zw_cnt (zfmk g.n g.mu g.ik S i g.n) (fun j v => v = (nI j, s)) ?_ ?_ N 0 _ (by omega) (by omega) rfl)
  · rintro self v rfl
    have hik := hW.ik _ f1
    have ho := zor_lt hS f1
    obtain ⟨x, hx1, hx2⟩ := (by
      obtain ⟨y, hy, e⟩ := List.getElem_of_mem (zgL_mem.mpr ⟨hS, hg⟩)
      obtain ⟨x, a, b⟩ := zgL_next (List.getElem?_eq_some_iff.mpr ⟨hy, e⟩) hS f1 f2.1
      exact ⟨x, by omega, b⟩ : ∃ x, 0 < x ∧ (zgL g.mu g.n (2 ^ g.n))[x]? = some (S ||| 2 ^ (zfmk g.n g.mu g.ik S i g.n)))
    have eb : (znx g.mu S g.n).testBit (zfmk g.n g.mu g.ik S i g.n) = true := by
      have := f2.1
      unfold zed at this
      rw [Bool.and_eq_true] at this
      exact this.2
    have hs2 := zP_small hW hb g.ik (g.ik (zfmk g.n g.mu g.ik S i g.n)) ho (zgd_next f2.1)
    dsimp only [bX6_leastMark_13, zq_let]
    rw [if_neg (by rw [show (10 : Int32) = nI 10 from rfl, nI_leI (by omega) (by omega)]; omega), zn_bit (by omega) (by omega), eb, zif_t, zck_nI (by omega) (by decide), zck_nI (by omega) (by decide), zga_nI _ _ (by omega), h.ik _ f1, zn_shl (by omega), zn_or, zn_4m, zck_nI (by omega) (by decide), zgl_nI _ _ (by omega), hR x _ hx1 hx2 _ hik, zQ_f g ho]
    have e2 := f2.2
    unfold zcd at e2
    dsimp only at e2
    rw [zite (hc _ hik), if_pos]
    · exact ⟨_, rfl, rfl⟩
    · rw [lgc_eq]
      by_cases z : S ≠ 0 ∧ g.ik (zfmk g.n g.mu g.ik S i g.n) = i
      · rw [if_pos z, Int64.zero_add]
        rw [if_pos z] at e2
        rw [← e2]
        rfl
      · rw [if_neg z, show (1000 : Int64) = lN 1000 from rfl, lN_add]
        rw [if_neg z] at e2
        rw [← e2]
        congr 1
        omega
  · rintro self j v hj rfl hself
    have hjn : j < g.n := by omega
    dsimp only [bX6_leastMark_13, jX6_leastMark_j88, zq_let]
    rw [if_neg (by rw [show (10 : Int32) = nI 10 from rfl, nI_leI (by omega) (by omega)]; omega), zn_bit (by omega) (by omega), nI_1]
    have eb : (znx g.mu S g.n).testBit j = zed g.n g.mu S j := by unfold zed; rw [hg, Bool.true_and]
    rw [eb]
    cases q : zed g.n g.mu S j with
    | false => rw [zif_f]; exact hself _ rfl
    | true =>
      have hik := hW.ik _ hjn
      have ho := zor_lt hS hjn
      obtain ⟨x, hx1, hx2⟩ := (by
        obtain ⟨y, hy, e⟩ := List.getElem_of_mem (zgL_mem.mpr ⟨hS, hg⟩)
        obtain ⟨x, a, b⟩ := zgL_next (List.getElem?_eq_some_iff.mpr ⟨hy, e⟩) hS hjn q
        exact ⟨x, by omega, b⟩ : ∃ x, 0 < x ∧ (zgL g.mu g.n (2 ^ g.n))[x]? = some (S ||| 2 ^ j))
      have hs2 := zP_small hW hb g.ik (g.ik j) ho (zgd_next q)
      rw [zif_t, zck_nI (by omega) (by decide), zck_nI (by omega) (by decide), zga_nI _ _ (by omega), h.ik _ hjn, zn_shl (by omega), zn_or, zn_4m, zck_nI (by omega) (by decide), zgl_nI _ _ (by omega), hR x _ hx1 hx2 _ hik, zQ_f g ho]
      have no : ¬ (zcd g.ik (fun _ => 0) (zP g.n g.mu g.ik (fun _ => 0)) S i j).1 = (zP g.n g.mu g.ik (fun _ => 0) S i).1 := fun z => f3 j hj ⟨q, z⟩
      unfold zcd at no
      dsimp only at no
      rw [zite (hc _ hik), if_neg]
      · exact hself _ rfl
      · rw [lgc_eq]
        by_cases z : S ≠ 0 ∧ g.ik j = i
        · rw [if_pos z, Int64.zero_add, pk_lEQ (by omega) (by omega)]
          rw [if_pos z] at no
          intro y
          apply no
          have : (zP g.n g.mu g.ik (fun _ => 0) (S ||| 2 ^ j) (g.ik j)).1 = (zP g.n g.mu g.ik (fun _ => 0) (S ||| 2 ^ j) (g.ik j)).1 := rfl
          omega
        · rw [if_neg z, show (1000 : Int64) = lN 1000 from rfl, lN_add, pk_lEQ (by omega) (by omega)]
          rw [if_neg z] at no
          intro y
          apply no
          have : (zP g.n g.mu g.ik (fun _ => 0) (S ||| 2 ^ j) (g.ik j)).1 = (zP g.n g.mu g.ik (fun _ => 0) (S ||| 2 ^ j) (g.ik j)).1 := rfl
          omega
/-- a change of the sessions' cells alone, in the middle -/
theorem zXI_sess {g : zG} {s t : zq_S} (hm : g.md = true) (h : zXI g s) (hq : zfr [(46, 6)] [47] [] s t) : zXI g t := by
  refine zXI_Q h (hq.mo (by decide) (by decide) (by decide)) ?_
  obtain ⟨⟨v, h1, h2, h3, h4, h5, h6⟩, h7, h8, h9, -, -⟩ := h.ca
  unfold zCa zGD zWV zTc zRow
  rw [hq.f 31 8 (by decide), hq.f 31 9 (by decide), hq.f 44 5 (by decide), hq.f 46 7 (by decide), hq.f 49 5 (by decide), hq.f 31 7 (by decide), hq.a 37 (by decide), hq.a 41 (by decide), hq.l 45 (by decide)]
  refine ⟨⟨v, h1, h2, h3, h4, h5, h6⟩, h7, h8, ?_, fun q => absurd (hm.symm.trans q) (by decide), fun q => absurd (hm.symm.trans q) (by decide)⟩
  intro S hS
  have := h9 S hS
  unfold zRow at this
  rw [show zL t (zf false + 1) = zL s (zf false + 1) from hq.l 40 (by decide), show zA t (zf false + 2) = zA s (zf false + 2) from hq.a 41 (by decide)]
  exact this
theorem xw_findFirst (N : Nat) (hN : 5000 ≤ N) {g : zG} {s : zq_S} (hm : g.md = true) (h : zXI g s) (hR : zRT g false 0 s) (h46 : zgf s 46 6 = nI (zP g.n g.mu g.ik (fun _ => 0) 0 0).1) :
    zw (mX6_findFirst N s) (fun v => zXI g v.2 ∧ zfr [(46, 6)] [47] [] s v.2 ∧ zgf v.2 46 6 = zgf s 46 6 ∧ ∀ j, j < g.n → zA v.2 47 j = nI (zfsm g.n g.mu g.ik j)) := by
  have hW := h.W
  have hn := hW.n
  have hp := zn_pow hn
  have hb : ∀ S : Nat, (fun _ : Nat => 0) S ≤ 40 := fun _ => Nat.zero_le _
  have hsm := zP_small hW hb g.ik 0 (S := 0) (Nat.pow_pos (by decide)) (zgd_zero _ _)
  unfold mX6_findFirst
  dsimp only [zq_let]
  rw [h46, nI_l (by have : (zP g.n g.mu g.ik (fun _ => 0) 0 0).1 = (zP g.n g.mu g.ik (fun _ => 0) 0 0).1 := rfl; omega), show (1000 : Int64) = lN 1000 from rfl, lN_mul, Nat.mul_comm]
  refine zw_cnt g.n (fun k v => ∃ t, v = (lN (1000 * (zP g.n g.mu g.ik (fun _ => 0) (zfst g.n g.mu g.ik k).1 (zfst g.n g.mu g.ik k).2).1), nI (zfst g.n g.mu g.ik k).1, (if k = 0 then -1 else nI (zfst g.n g.mu g.ik k).2), nI k, t) ∧ zXI g t ∧ zfr [] [47] [] s t ∧ ∀ j, j < k → zA t 47 j = nI (zfsm g.n g.mu g.ik j)) ?_ ?_ N 0 _ (by omega) (by omega) ⟨s, rfl, h, zfr_rfl, fun j hj => absurd hj (Nat.not_lt_zero _)⟩
  · rintro self v ⟨t, rfl, ht, hq, hA⟩
    dsimp only [bX6_findFirst_18]
    rw [ht.mk, if_pos (nI_le (Nat.le_refl _) (by omega))]
    exact ⟨_, rfl, ht, hq.mo (by decide) (by decide) (by decide), (hq.f 46 6 (by decide)).trans h46, hA⟩
  · rintro self k v hk ⟨t, rfl, ht, hq, hA⟩ hself
    obtain ⟨s1, s2, s3, s4⟩ := zfst_ok hW k (by omega)
    obtain ⟨s5, s6⟩ := zfst_nf hW hk
    obtain ⟨m1, m2, _⟩ := zfmk_n hW (zfst g.n g.mu g.ik k).2 s1 s2 s5
    have hik := hW.ik _ m1
    have ho := zor_lt s1 m1
    have hs2 := zP_small hW hb g.ik (g.ik (zfmk g.n g.mu g.ik (zfst g.n g.mu g.ik k).1 (zfst g.n g.mu g.ik k).2 g.n)) ho (zgd_next m2.1)
    have hRt : zRT g false 0 t := fun x T a b i hi => by rw [hq.l 1 (by decide)]; exact hR x T a b i hi
    have hc : ∀ a, a < 4 → (nI a = (if k = 0 then -1 else nI (zfst g.n g.mu g.ik k).2) ↔ ((zfst g.n g.mu g.ik k).1 ≠ 0 ∧ a = (zfst g.n g.mu g.ik k).2)) := by
      intro a ha
      by_cases z : k = 0
      · rw [if_pos z]
        exact ⟨fun y => absurd y (nI_nm1 (by omega)), fun y => absurd (s6.mpr z) y.1⟩
      · rw [if_neg z, nI_eq (by omega) (by omega)]
        exact ⟨fun y => ⟨fun w => z (s6.mp w), y⟩, fun y => y.2⟩
    dsimp only [bX6_findFirst_18, zq_let]
    rw [ht.mk, if_neg (by rw [nI_leI (by omega) (by omega)]; omega), xw_leastMark N hN ht hRt s1 s2 s5 hc, zb2_some]
    dsimp only
    rw [zck_nI (by omega) (by decide), zck_nI (by omega) (by decide), zga_nI _ _ (by omega), ht.ik _ m1, zn_shl (by omega), zn_or, zck_nI (by omega) (by decide), zpa_nI _ _ (by omega), nI_1, zite (hc _ hik)]
    have e2 := m2.2
    unfold zcd at e2
    dsimp only at e2
    have e3 : (zP g.n g.mu g.ik (fun _ => 0) (zfst g.n g.mu g.ik (k + 1)).1 (zfst g.n g.mu g.ik (k + 1)).2).1 = (zP g.n g.mu g.ik (fun _ => 0) ((zfst g.n g.mu g.ik k).1 ||| 2 ^ (zfmk g.n g.mu g.ik (zfst g.n g.mu g.ik k).1 (zfst g.n g.mu g.ik k).2 g.n)) (g.ik (zfmk g.n g.mu g.ik (zfst g.n g.mu g.ik k).1 (zfst g.n g.mu g.ik k).2 g.n))).1 := rfl
    have el : lN (1000 * (zP g.n g.mu g.ik (fun _ => 0) (zfst g.n g.mu g.ik k).1 (zfst g.n g.mu g.ik k).2).1) - (if (zfst g.n g.mu g.ik k).1 ≠ 0 ∧ g.ik (zfmk g.n g.mu g.ik (zfst g.n g.mu g.ik k).1 (zfst g.n g.mu g.ik k).2 g.n) = (zfst g.n g.mu g.ik k).2 then (0 : Int64) else 1000) = lN (1000 * (zP g.n g.mu g.ik (fun _ => 0) (zfst g.n g.mu g.ik (k + 1)).1 (zfst g.n g.mu g.ik (k + 1)).2).1) := by
      rw [e3]
      by_cases z : (zfst g.n g.mu g.ik k).1 ≠ 0 ∧ g.ik (zfmk g.n g.mu g.ik (zfst g.n g.mu g.ik k).1 (zfst g.n g.mu g.ik k).2 g.n) = (zfst g.n g.mu g.ik k).2
      · rw [if_pos z] at e2 ⊢
        rw [← e2, show (0 : Int64) = lN 0 from rfl, lN_sub (by omega)]
        rfl
      · rw [if_neg z] at e2 ⊢
        rw [← e2, show (1000 : Int64) = lN 1000 from rfl, lN_sub (by omega), Nat.mul_add, Nat.add_sub_cancel]
    rw [el]
    have f2 : zfr [(46, 6)] [47] [] t (zsA t 47 (upd (zA t 47) k (nI (zfmk g.n g.mu g.ik (zfst g.n g.mu g.ik k).1 (zfst g.n g.mu g.ik k).2 g.n)))) := zfr_sA 47 _ (by decide)
    refine hself _ ⟨_, ?_, zXI_sess hm ht f2, hq.tr (zfr_sA 47 _ (by decide)), fun j hj => ?_⟩
    · rw [if_neg (by omega)]
      rfl
    · rw [zA_self]
      unfold upd
      by_cases c : j = k
      · rw [if_pos c, c]; rfl
      · rw [if_neg c]
        exact hA j (by omega)
theorem xw_few (N : Nat) (hN : 5000 ≤ N) {g : zG} {s : zq_S} (hmd : g.md = false) (h : zXI g s) :
    zw (mX6_fewest N s) (fun v => v.1 = nI (zP g.n g.mu g.ik (fun _ => 0) 0 0).1 ∧ zXI g v.2 ∧ zXQ s v.2 ∧ zSV g v.2) := by
  have hW := h.W
  have hb : ∀ S : Nat, (fun _ : Nat => 0) S ≤ 40 := fun _ => Nat.zero_le _
  have hsm := zP_small hW hb g.ik 0 (S := 0) (Nat.pow_pos (by decide)) (zgd_zero _ _)
  unfold mX6_fewest jX6_fewest_j43
  by_cases q : zgf s 46 7 = zgf s 31 8
  · rw [if_pos q]
    have hv := h.sv hmd q
    exact ⟨_, rfl, hv.1, h, zfr_rfl, hv⟩
  · rw [if_neg q]
    dsimp only [zq_let]
    have f1 : zfr [(46, 7)] [] [] s (zpf s 46 7 (zgf s 31 8)) := zfr_pf 46 7 _ (by decide)
    have h1 : zXI g.mid (zpf s 46 7 (zgf s 31 8)) := by
      refine zXI_Q (zXI_mid h) (f1.mo (by decide) (by decide) (by decide)) ?_
      obtain ⟨⟨v, h1, h2, h3, h4, h5, h6⟩, h7, h8, h9, -, -⟩ := h.ca
      refine ⟨⟨v, h1, h2, h3, h4, ?_, h6⟩, h7, h8, h9, (fun q => absurd (show true = false from q) (by decide)), (fun q => absurd (show true = false from q) (by decide))⟩
      show zvo v (zgf s 31 8)
      rw [h2]
      exact Or.inr ⟨v, Nat.le_refl _, rfl⟩
    refine zw_call (xw_costs N hN (g := g.mid) h1 false) (fun r t ⟨k1, k2, k3, k4⟩ => ?_)
    dsimp only at k1 k2 k3 k4
    have e1 : Int64.toInt32 (r / 1000) = nI (zP g.n g.mu g.ik (fun _ => 0) 0 0).1 := by
      rw [k1]
      have : zQ g.mid false 0 0 = 1000 * (zP g.n g.mu g.ik (fun _ => 0) 0 0).1 := zQ_f g (Nat.pow_pos (by decide)) 0
      have e3 : (zP g.n g.mu g.ik (fun _ => 0) 0 0).1 = (zP g.n g.mu g.ik (fun _ => 0) 0 0).1 := rfl
      rw [this, show (1000 : Int64) = lN 1000 from rfl, pk_lDiv (by omega) (by decide) (by decide), lN_i, Nat.mul_div_cancel_left _ (by decide)]
    rw [e1]
    have f3 : zfr [(46, 6)] [47] [] t (zpf t 46 6 (nI (zP g.n g.mu g.ik (fun _ => 0) 0 0).1)) := zfr_pf 46 6 _ (by decide)
    have h3 : zXI g.mid (zpf t 46 6 (nI (zP g.n g.mu g.ik (fun _ => 0) 0 0).1)) := zXI_sess rfl k2 f3
    refine zw_call (xw_findFirst N hN (g := g.mid) rfl h3 k4 rfl) (fun r2 t2 ⟨l1, l2, l3, l4⟩ => ?_)
    dsimp only at l1 l2 l3 l4
    have e6 : zgf t2 46 6 = nI (zP g.n g.mu g.ik (fun _ => 0) 0 0).1 := by rw [l3]; rfl
    have fq : zfr [(31, 7), (31, 9), (46, 6), (46, 7)] [37, 41, 47] [1, 40, 48, 55] s t2 := (((f1.mo (by decide) (by decide) (by decide)).tr (k3.mo (by decide) (by decide) (by decide))).tr (f3.mo (by decide) (by decide) (by decide))).tr (l2.mo (by decide) (by decide) (by decide))
    have sv : zSV g t2 := ⟨e6, l4⟩
    refine ⟨_, rfl, e6, zXI_unmid l1 (fun _ => sv) ?_, fq.mo (by decide) (by decide) (by decide), sv⟩
    intro z
    rw [fq.f 49 5 (by decide), fq.f 31 8 (by decide)] at z
    have := h.vv hmd z
    unfold zVV at this ⊢
    rw [fq.f 49 4 (by decide), fq.a 50 (by decide)]
    exact this
def zSe (g : zG) (p : Int32) : Int32 := if ¬ p < 0 ∧ ¬ nI g.n ≤ p then nI (zfsm g.n g.mu g.ik p.toNatClampNeg) else -1
theorem xw_session (N : Nat) (hN : 5000 ≤ N) {g : zG} {s : zq_S} (hmd : g.md = false) (h : zXI g s) (p : Int32) :
    zw (mX11_session N p s) (fun v => v.1 = zSe g p ∧ zXI g v.2 ∧ zSM s v.2) := by
  have hn := h.W.n
  unfold mX11_session mX6_markAt jX6_markAt_j26
  rw [zw_b2, zw_b2]
  refine zw_mono (xw_few N hN hmd h) ?_
  rintro ⟨r, t⟩ ⟨k1, k2, k3, k4⟩
  dsimp only at k1 k2 k3 k4 ⊢
  rw [k2.hm N, zb2_some]
  dsimp only
  unfold zSe
  rcases zarg (c := g.n) (by omega) p with z | ⟨x, hx, rfl, z⟩
  · rw [if_neg z, if_neg z, if_pos rfl, zw_some]
    exact ⟨_, rfl, rfl, k2, zXQ_SM k3⟩
  · rw [if_pos z, if_pos z, if_neg (by decide), zck_nI (by omega) (by decide), zw_some, zga_nI _ _ (by omega), k4.2 x hx, nI_clamp (by omega)]
    exact ⟨_, rfl, rfl, k2, zXQ_SM k3⟩
theorem xw_least (N : Nat) (hN : 5000 ≤ N) {g : zG} {s : zq_S} (h : zXI g s) :
    zw (mX11_least N s) (fun v => v.1 = nI (zP g.n g.mu g.ik (zbr g true) 0 0).2 ∧ zXI g v.2 ∧ zSM s v.2) := by
  have hsm := zP_small h.W (zbr_le h.W true) g.ik 0 (S := 0) (Nat.pow_pos (by decide)) (zgd_zero _ _)
  unfold mX11_least mX6_leastBreaks
  rw [zw_b2, zw_b2]
  refine zw_mono (xw_costs N hN h true) ?_
  rintro ⟨r, t⟩ ⟨k1, k2, k3, k4⟩
  dsimp only at k1 k2 k3 k4 ⊢
  rw [zw_some]
  refine ⟨_, rfl, ?_, k2, zXQ_SM (k3.mo (by decide) (by decide) (by decide))⟩
  dsimp only
  rw [k1]
  unfold zQ zvl
  rw [show (1000 : Int64) = lN 1000 from rfl, pk_lRem (by omega) (by decide) (by decide), lN_i]
  congr 1
  omega
