/-! print -/
def zPT (l : List Nat) (t : zq_S) : Prop := zgf t 57 36 = nI l.length ∧ (∀ i, i < l.length → zA t 77 i = nI (zgt l i)) ∧ ∀ x, x ∈ l → x < 128
abbrev zMP (s t : zq_S) : Prop := zfr [(57, 36)] [77] [] s t
theorem mw_sign (N : Nat) {l : List Nat} {t : zq_S} (h : zPT l t) (hl : l.length < 1600) {c : Nat} (hc : c < 128) : zw (mX12_printSign N (nI c) t) (fun v => zPT (l ++ [c]) v.2 ∧ zMP t v.2) := by
  unfold mX12_printSign
  dsimp only [zq_let]
  rw [h.1, zck_nI hl (by decide), zpa_nI _ _ (by omega), zgf_sA, h.1, nI_1]
  refine ⟨_, rfl, ⟨?_, fun i hi => ?_, fun x hx => ?_⟩, (zfr_sA 77 _ (by decide)).tr (zfr_pf 57 36 _ (by decide))⟩
  · show nI (l.length + 1) = nI (l ++ [c]).length
    rw [List.length_append]; rfl
  · rw [List.length_append, List.length_singleton] at hi
    rw [zA_pf, zA_self]
    unfold upd
    by_cases q : i = l.length
    · rw [if_pos q, q, zgt_last]
    · rw [if_neg q, h.2.1 i (by omega), zgt_left _ (by omega)]
  · rcases List.mem_append.mp hx with q | q
    · exact h.2.2 x q
    · rw [List.mem_singleton.mp q]; exact hc
theorem zlast {l : List Nat} (h : l ≠ []) : l.getLastD 0 = zgt l (l.length - 1) := by
  have h1 : 0 < l.length := by cases l with | nil => exact absurd rfl h | cons a l => exact Nat.succ_pos _
  rw [zgt_eq (by omega), List.getLastD_eq_getLast?, List.getLast?_eq_getElem?, List.getElem?_eq_getElem (by omega)]
  rfl
theorem zdiv10 {v : Nat} (h : v < 100) : nI v / 10 = nI (v / 10) ∧ nI v - nI v / 10 * 10 = nI (v % 10) := by
  have : ∀ v : Fin 100, nI v.1 / 10 = nI (v.1 / 10) ∧ nI v.1 - nI v.1 / 10 * 10 = nI (v.1 % 10) := by decide
  exact this ⟨v, h⟩
theorem mw_num37 (N : Nat) {l : List Nat} {t : zq_S} (h : zPT l t) (hl : l.length + 2 ≤ 1600) {v : Nat} (hv : v < 100) : zw (jX12_printNumber_j37 N (nI v) t) (fun w => zPT (l ++ zdg v) w.2 ∧ zMP t w.2) := by
  obtain ⟨d1, d2⟩ := zdiv10 hv
  have d3 : nI v - nI (v / 10) * 10 = nI (v % 10) := by rw [← d1]; exact d2
  unfold jX12_printNumber_j37 jX12_printNumber_j54 zdg
  rw [d1, d3, show (48 : Int32) = nI 48 from rfl, nI_add, nI_add]
  by_cases q : v < 10
  · rw [if_pos (by rw [show (9 : Int32) = nI 9 from rfl, nI_leI (by omega) (by omega)]; omega), if_pos q, show v % 10 = v by omega]
    refine zw_call (mw_sign N h (by omega) (by omega)) (fun r u ⟨k1, k2⟩ => ?_)
    exact ⟨_, rfl, k1, k2⟩
  · rw [if_neg (by rw [show (9 : Int32) = nI 9 from rfl, nI_leI (by omega) (by omega)]; omega), if_neg q]
    refine zw_call (mw_sign N h (by omega) (by omega)) (fun r u ⟨k1, k2⟩ => ?_)
    refine zw_call (mw_sign N k1 (by rw [List.length_append, List.length_singleton]; omega) (by omega)) (fun r2 u2 ⟨l1, l2⟩ => ?_)
    dsimp only at k2 l1 l2
    rw [List.append_assoc] at l1
    exact ⟨_, rfl, l1, k2.tr l2⟩
theorem mw_num (N : Nat) {l : List Nat} {t : zq_S} (h : zPT l t) (hl : l.length + 3 ≤ 1600) {v : Nat} (hv : v < 100) : zw (mX12_printNumber N (nI v) t) (fun w => zPT (zpn l v) w.2 ∧ zMP t w.2) := by
  unfold mX12_printNumber zpn
  rw [h.1]
  by_cases q : l = []
  · rw [if_pos (by rw [q]; decide), if_neg (by rw [q]; decide)]
    exact mw_num37 N h (by omega) hv
  · have h1 : 0 < l.length := by cases l with | nil => exact absurd rfl q | cons a l => exact Nat.succ_pos _
    have e1 : nI l.length - 1 = nI (l.length - 1) := by
      rw [show l.length = (l.length - 1) + 1 by omega, zn_m1]
      rfl
    have hx := h.2.2 (zgt l (l.length - 1)) (by rw [zgt_eq (by omega)]; exact List.getElem_mem _)
    have ei : (if (48 : Int64) ≤ Int32.toInt64 (nI (zgt l (l.length - 1))) ∧ Int32.toInt64 (nI (zgt l (l.length - 1))) ≤ 57 then (1 : Int32) else 0) = if 48 ≤ zgt l (l.length - 1) ∧ zgt l (l.length - 1) ≤ 57 then 1 else 0 := by
      refine zif_iff ?_
      rw [nI_l (by omega), show (48 : Int64) = lN 48 from rfl, show (57 : Int64) = lN 57 from rfl, pk_lLE (by decide) (by omega), pk_lLE (by omega) (by decide)]
    rw [if_neg (by rw [show (0 : Int32) = nI 0 from rfl, nI_leI (by omega) (by omega)]; omega), e1, zck_nI (by omega) (by decide), zga_nI _ _ (by omega), h.2.1 _ (by omega), mX12_in_eq, ei, zb2_some, zlast q]
    dsimp only
    by_cases c : 48 ≤ zgt l (l.length - 1) ∧ zgt l (l.length - 1) ≤ 57
    · rw [if_pos c, if_pos c, if_neg (show ¬ (1 : Int32) = 0 by decide), show (32 : Int32) = nI 32 from rfl]
      refine zw_call (mw_sign N h (by omega) (by decide)) (fun r u ⟨k1, k2⟩ => ?_)
      refine zw_mono (mw_num37 N k1 (by rw [List.length_append, List.length_singleton]; omega) hv) (fun w ⟨a, b⟩ => ⟨a, k2.tr b⟩)
    · rw [if_neg c, if_neg c, if_pos rfl]
      exact mw_num37 N h (by omega) hv
theorem zpn_len (l : List Nat) (v : Nat) : (zpn l v).length ≤ l.length + 3 := by
  unfold zpn zdg
  split <;> split <;> simp <;> omega
theorem zpi_len (T : zSh) (l : List Nat) (p : Nat) : (zpi T l p).length ≤ l.length + 9 := by
  have a := fun l v => zpn_len l v
  have s : ∀ (l : List Nat) (c : Nat), (l ++ [c]).length = l.length + 1 := fun l c => by rw [List.length_append]; rfl
  unfold zpi
  repeat' split
  all_goals try simp only [s]
  all_goals first
    | omega
    | (have := zpn_len l (T.wd p); omega)
    | (have := zpn_len (l ++ [123]) (T.mk p); rw [s] at this; omega)
    | (have := zpn_len (l ++ [91]) (T.mk p); rw [s] at this; omega)
    | (rename_i d _; have h1 := zpn_len (l ++ [91]) (T.mk p); have h2 := zpn_len (zpn (l ++ [91]) (T.mk p) ++ [33]) d; rw [s] at h1 h2; omega)
    | (have := zpn_len (l ++ [60]) (T.mk p); rw [s] at this; omega)
    | (have := zpn_len (l ++ [42]) (T.mk p); rw [s] at this; omega)
    | (have := zpn_len (l ++ [40]) (T.wd p); rw [s] at this; omega)
    | (have h1 := zpn_len (l ++ [47]) (T.mk p); have h2 := zpn_len (zpn (l ++ [47]) (T.mk p)) (T.wd p); rw [s] at h1; omega)
theorem zpl_len (T : zSh) : ∀ k, (zpl' T k).length ≤ 9 * k := by
  intro k
  induction k with
  | zero => exact Nat.le_refl _
  | succ k ih =>
    have := zpi_len T (zpl' T k) k
    show (zpi T (zpl' T k) k).length ≤ _
    omega
theorem mw_open (N : Nat) {l : List Nat} {t : zq_S} (h : zPT l t) (hl : l.length + 9 ≤ 1600) {p c : Nat} (hp : p < 400) (hc : c < 128) {m : Nat} (hm : m < 10) (h59 : zA t 59 p = nI m) (o : Option Nat) (h60 : (o = none ∧ zA t 60 p = -1) ∨ ∃ d, d < 10 ∧ o = some d ∧ zA t 60 p = nI d) :
    zw (jX12_printOpen_j33 N (nI p) (nI c) t) (fun w => zPT ((match o with | none => zpn (l ++ [c]) m | some d => zpn (zpn (l ++ [c]) m ++ [33]) d) ++ [58]) w.2 ∧ zMP t w.2) := by
  have s1 : ∀ (l : List Nat) (c : Nat), (l ++ [c]).length = l.length + 1 := fun l c => by rw [List.length_append]; rfl
  have b1 := zpn_len (l ++ [c]) m
  rw [s1] at b1
  unfold jX12_printOpen_j33 jX12_printOpen_j71
  refine zw_call (mw_sign N h (by omega) hc) (fun r u ⟨k1, k2⟩ => ?_)
  dsimp only at k1 k2
  rw [zck_nI hp (by decide), zga_nI _ _ (by omega), k2.a 59 (by decide), h59]
  refine zw_call (mw_num N k1 (by rw [s1]; omega) (by omega)) (fun r2 u2 ⟨l1, l2⟩ => ?_)
  dsimp only at l1 l2
  rw [zck_nI hp (by decide), zga_nI _ _ (by omega), l2.a 60 (by decide), k2.a 60 (by decide)]
  rcases h60 with ⟨rfl, e⟩ | ⟨d, hd, rfl, e⟩
  · rw [e, if_pos (by decide), show (58 : Int32) = nI 58 from rfl]
    refine zw_call (mw_sign N l1 (by omega) (by decide)) (fun r3 u3 ⟨m1, m2⟩ => ?_)
    exact ⟨_, rfl, m1, (k2.tr l2).tr m2⟩
  · have b2 := zpn_len (zpn (l ++ [c]) m ++ [33]) d
    rw [s1] at b2
    rw [e, if_neg (nI_nneg (by omega)), show (33 : Int32) = nI 33 from rfl, show (58 : Int32) = nI 58 from rfl]
    refine zw_call (mw_sign N l1 (by omega) (by decide)) (fun r3 u3 ⟨m1, m2⟩ => ?_)
    dsimp only at m1 m2
    rw [zck_nI hp (by decide), zga_nI _ _ (by omega), m2.a 60 (by decide), l2.a 60 (by decide), k2.a 60 (by decide), e]
    refine zw_call (mw_num N m1 (by rw [s1]; omega) (by omega)) (fun r4 u4 ⟨n1, n2⟩ => ?_)
    dsimp only at n1 n2
    refine zw_call (mw_sign N n1 (by omega) (by decide)) (fun r5 u5 ⟨o1, o2⟩ => ?_)
    exact ⟨_, rfl, o1, (((k2.tr l2).tr m2).tr n2).tr o2⟩
theorem mw_printAll (N : Nat) (hN : 5000 ≤ N) {g : zG} {s : zq_S} (h : zMI g s) : zw (mX12_printAll N s) (fun v => zPT g.S.pr v.2 ∧ zMP s v.2) := by
  have hW := h.W
  have hT := hW.W.n100
  have h40 := hW.w40
  obtain ⟨n1, n2, n3, n4, n5, n6, n7, n8⟩ := h.ms
  have hx : ∀ p, p < g.T.n → zA s 58 p = zkd2 (g.T.sg p) ∧ ((g.T.sg p = 4 ∨ g.T.sg p = 5 ∨ g.T.sg p = 6) → zA s 59 p = nI (g.T.sg p - 3)) ∧ ((g.T.sg p = 1 ∨ g.T.sg p = 3) → zA s 60 p = -1) := h.2.1.2.2.2.2.2.2.2
  have hpr : g.S.pr = zpl' g.T g.T.n := hW.1.2.2.2.2.2.1
  unfold mX12_printAll
  dsimp only [zq_let]
  have f0 : zMP s (zpf s 57 36 0) := zfr_pf 57 36 _ (by decide)
  refine zw_cnt g.T.n (fun k v => ∃ t, v = (nI k, t) ∧ zPT (zpl' g.T k) t ∧ zMP s t) ?_ ?_ N 0 _ (by omega) (by omega) ⟨_, rfl, ⟨rfl, fun i hi => absurd hi (Nat.not_lt_zero _), fun x hx => absurd hx List.not_mem_nil⟩, f0⟩
  · rintro self v ⟨t, rfl, ht, hq⟩
    dsimp only [bX12_printAll_7]
    rw [hq.f 57 0 (by decide), n1, if_pos (nI_le (Nat.le_refl _) (by omega))]
    refine ⟨_, rfl, ?_, hq⟩
    rw [hpr]; exact ht
  · rintro self k v hk ⟨t, rfl, ht, hq⟩ hself
    have hl := zpl_len g.T k
    have a58 : zga t 58 (nI k) = zkd2 (g.T.sg k) := by rw [zga_nI _ _ (by omega), hq.a 58 (by decide)]; exact (hx k hk).1
    have sg := (n2 k hk).1
    have fin : ∀ u, zPT (zpi g.T (zpl' g.T k) k) u → zMP t u → zw (jX12_printAll_j205 N self (nI k) u) (fun v => zPT g.S.pr v.2 ∧ zMP s v.2) := by
      intro u hu fu
      unfold jX12_printAll_j205
      dsimp only [zq_let]
      rw [nI_1]
      exact hself _ ⟨u, rfl, hu, hq.tr fu⟩
    have s1 : ∀ (l : List Nat) (c : Nat), (l ++ [c]).length = l.length + 1 := fun l c => by rw [List.length_append]; rfl
    dsimp only [bX12_printAll_7]
    rw [hq.f 57 0 (by decide), n1, if_neg (by rw [nI_leI (by omega) (by omega)]; omega), zck_nI (by omega) (by decide), a58]
    have cs : g.T.sg k = 0 ∨ g.T.sg k = 1 ∨ g.T.sg k = 2 ∨ g.T.sg k = 3 ∨ g.T.sg k = 4 ∨ g.T.sg k = 5 ∨ g.T.sg k = 6 ∨ g.T.sg k = 7 ∨ g.T.sg k = 8 ∨ g.T.sg k = 9 ∨ g.T.sg k = 10 := by omega
    have op : ∀ c o, c < 128 → (g.T.sg k = 1 ∨ g.T.sg k = 2 ∨ g.T.sg k = 3) → ((o = none ∧ zA s 60 k = -1) ∨ ∃ d, d < 10 ∧ o = some d ∧ zA s 60 k = nI d) → zpi g.T (zpl' g.T k) k = (match o with | none => zpn (zpl' g.T k ++ [c]) (g.T.mk k) | some d => zpn (zpn (zpl' g.T k ++ [c]) (g.T.mk k) ++ [33]) d) ++ [58] → zw (zq_b2 (jX12_printOpen_j33 N (nI k) (nI c) t) (fun _ u => jX12_printAll_j205 N self (nI k) u)) (fun v => zPT g.S.pr v.2 ∧ zMP s v.2) := by
      intro c o hc hs ho e
      obtain ⟨m1, m2⟩ := n3 k hk (by omega)
      refine zw_call (mw_open N ht (by omega) (by omega) hc m1 (by rw [hq.a 59 (by decide)]; exact m2) o (by rw [hq.a 60 (by decide)]; exact ho)) (fun r u ⟨k1, k2⟩ => ?_)
      exact fin u (by rw [e]; exact k1) k2
    rcases cs with c | c | c | c | c | c | c | c | c | c | c
    · rw [c, show zkd2 0 = 0 from rfl, if_pos rfl, zck_nI (by omega) (by decide), zga_nI _ _ (by omega), hq.a 59 (by decide), n4 k hk (by omega)]
      refine zw_call (mw_num N ht (by omega) (h40.2 k hk (by omega))) (fun r u ⟨k1, k2⟩ => ?_)
      refine fin u ?_ k2
      unfold zpi
      rw [if_pos c]; exact k1
    · rw [c, show zkd2 1 = 1 from rfl, if_neg (show ¬ (1 : Int32) = 0 by decide), if_pos rfl]
      unfold mX12_printOpen
      rw [zck_nI (by omega) (by decide), a58, c, show zkd2 1 = 1 from rfl, if_pos rfl]
      refine op 123 none (by decide) (by omega) (Or.inl ⟨rfl, (hx k hk).2.2 (by omega)⟩) ?_
      unfold zpi
      rw [if_neg (by omega), if_pos c]
    · rw [c, show zkd2 2 = 2 from rfl, if_neg (show ¬ (2 : Int32) = 0 by decide), if_neg (show ¬ (2 : Int32) = 1 by decide), if_pos rfl]
      unfold mX12_printOpen
      rw [zck_nI (by omega) (by decide), a58, c, show zkd2 2 = 2 from rfl, if_neg (show ¬ (2 : Int32) = 1 by decide), zck_nI (by omega) (by decide), if_pos rfl]
      refine op 91 (g.T.sd (g.T.mk k)) (by decide) (by omega) (n8 k hk c) ?_
      unfold zpi
      rw [if_neg (by omega), if_neg (by omega), if_pos c]
      cases g.T.sd (g.T.mk k) <;> rfl
    · rw [c, show zkd2 3 = 3 from rfl, if_neg (show ¬ (3 : Int32) = 0 by decide), if_neg (show ¬ (3 : Int32) = 1 by decide), if_neg (show ¬ (3 : Int32) = 2 by decide), if_pos rfl]
      unfold mX12_printOpen
      rw [zck_nI (by omega) (by decide), a58, c, show zkd2 3 = 3 from rfl, if_neg (show ¬ (3 : Int32) = 1 by decide), zck_nI (by omega) (by decide), if_neg (show ¬ (3 : Int32) = 2 by decide)]
      refine op 60 none (by decide) (by omega) (Or.inl ⟨rfl, (hx k hk).2.2 (by omega)⟩) ?_
      unfold zpi
      rw [if_neg (by omega), if_neg (by omega), if_neg (by omega), if_pos c]
    · have e59 : zga t 59 (nI k) = 1 := by rw [zga_nI _ _ (by omega), hq.a 59 (by decide), (hx k hk).2.1 (by omega), c]; rfl
      rw [c, show zkd2 4 = 4 from rfl, if_neg (show ¬ (4 : Int32) = 0 by decide), if_neg (show ¬ (4 : Int32) = 1 by decide), if_neg (show ¬ (4 : Int32) = 2 by decide), if_neg (show ¬ (4 : Int32) = 3 by decide), if_pos rfl, zck_nI (by omega) (by decide), e59, if_pos rfl]
      unfold jX12_printAll_j118
      refine zw_call (mw_sign N (c := 125) ht (by omega) (by decide)) (fun r u ⟨k1, k2⟩ => fin u ?_ k2)
      unfold zpi
      rw [if_neg (by omega), if_neg (by omega), if_neg (by omega), if_neg (by omega), if_pos c]; exact k1
    · have e59 : zga t 59 (nI k) = 2 := by rw [zga_nI _ _ (by omega), hq.a 59 (by decide), (hx k hk).2.1 (by omega), c]; rfl
      rw [c, show zkd2 5 = 4 from rfl, if_neg (show ¬ (4 : Int32) = 0 by decide), if_neg (show ¬ (4 : Int32) = 1 by decide), if_neg (show ¬ (4 : Int32) = 2 by decide), if_neg (show ¬ (4 : Int32) = 3 by decide), if_pos rfl, zck_nI (by omega) (by decide), e59, if_neg (by decide), zck_nI (by omega) (by decide), if_pos rfl]
      unfold jX12_printAll_j118
      refine zw_call (mw_sign N (c := 93) ht (by omega) (by decide)) (fun r u ⟨k1, k2⟩ => fin u ?_ k2)
      unfold zpi
      rw [if_neg (by omega), if_neg (by omega), if_neg (by omega), if_neg (by omega), if_neg (by omega), if_pos c]; exact k1
    · have e59 : zga t 59 (nI k) = 3 := by rw [zga_nI _ _ (by omega), hq.a 59 (by decide), (hx k hk).2.1 (by omega), c]; rfl
      rw [c, show zkd2 6 = 4 from rfl, if_neg (show ¬ (4 : Int32) = 0 by decide), if_neg (show ¬ (4 : Int32) = 1 by decide), if_neg (show ¬ (4 : Int32) = 2 by decide), if_neg (show ¬ (4 : Int32) = 3 by decide), if_pos rfl, zck_nI (by omega) (by decide), e59, if_neg (by decide), zck_nI (by omega) (by decide), if_neg (by decide)]
      unfold jX12_printAll_j118
      refine zw_call (mw_sign N (c := 62) ht (by omega) (by decide)) (fun r u ⟨k1, k2⟩ => fin u ?_ k2)
      unfold zpi
      rw [if_neg (by omega), if_neg (by omega), if_neg (by omega), if_neg (by omega), if_neg (by omega), if_neg (by omega), if_pos c]; exact k1
    · obtain ⟨m1, m2⟩ := n3 k hk (by omega)
      rw [c, show zkd2 7 = 5 from rfl, if_neg (show ¬ (5 : Int32) = 0 by decide), if_neg (show ¬ (5 : Int32) = 1 by decide), if_neg (show ¬ (5 : Int32) = 2 by decide), if_neg (show ¬ (5 : Int32) = 3 by decide), if_neg (show ¬ (5 : Int32) = 4 by decide), if_pos rfl]
      refine zw_call (mw_sign N (c := 42) ht (by omega) (by decide)) (fun r u ⟨k1, k2⟩ => ?_)
      dsimp only at k1 k2
      rw [zck_nI (by omega) (by decide), zga_nI _ _ (by omega), k2.a 59 (by decide), hq.a 59 (by decide), m2]
      refine zw_call (mw_num N k1 (by rw [s1]; omega) (by omega)) (fun r2 u2 ⟨l1, l2⟩ => fin u2 ?_ (k2.tr l2))
      unfold zpi
      rw [if_neg (by omega), if_neg (by omega), if_neg (by omega), if_neg (by omega), if_neg (by omega), if_neg (by omega), if_neg (by omega), if_pos c]; exact l1
    · rw [c, show zkd2 8 = 6 from rfl, if_neg (show ¬ (6 : Int32) = 0 by decide), if_neg (show ¬ (6 : Int32) = 1 by decide), if_neg (show ¬ (6 : Int32) = 2 by decide), if_neg (show ¬ (6 : Int32) = 3 by decide), if_neg (show ¬ (6 : Int32) = 4 by decide), if_neg (show ¬ (6 : Int32) = 5 by decide), if_pos rfl]
      refine zw_call (mw_sign N (c := 40) ht (by omega) (by decide)) (fun r u ⟨k1, k2⟩ => ?_)
      dsimp only at k1 k2
      rw [zck_nI (by omega) (by decide), zga_nI _ _ (by omega), k2.a 59 (by decide), hq.a 59 (by decide), n4 k hk (by omega)]
      refine zw_call (mw_num N k1 (by rw [s1]; omega) (h40.2 k hk (by omega))) (fun r2 u2 ⟨l1, l2⟩ => fin u2 ?_ (k2.tr l2))
      unfold zpi
      rw [if_neg (by omega), if_neg (by omega), if_neg (by omega), if_neg (by omega), if_neg (by omega), if_neg (by omega), if_neg (by omega), if_neg (by omega), if_pos c]; exact l1
    · obtain ⟨m1, m2⟩ := n5 k hk c
      have b1 := zpn_len (zpl' g.T k ++ [47]) (g.T.mk k)
      rw [s1] at b1
      rw [c, show zkd2 9 = 7 from rfl, if_neg (show ¬ (7 : Int32) = 0 by decide), if_neg (show ¬ (7 : Int32) = 1 by decide), if_neg (show ¬ (7 : Int32) = 2 by decide), if_neg (show ¬ (7 : Int32) = 3 by decide), if_neg (show ¬ (7 : Int32) = 4 by decide), if_neg (show ¬ (7 : Int32) = 5 by decide), if_neg (show ¬ (7 : Int32) = 6 by decide), if_pos rfl]
      refine zw_call (mw_sign N (c := 47) ht (by omega) (by decide)) (fun r u ⟨k1, k2⟩ => ?_)
      dsimp only at k1 k2
      rw [zck_nI (by omega) (by decide), zga_nI _ _ (by omega), k2.a 60 (by decide), hq.a 60 (by decide), m2]
      refine zw_call (mw_num N k1 (by rw [s1]; omega) (by omega)) (fun r2 u2 ⟨l1, l2⟩ => ?_)
      dsimp only at l1 l2
      rw [zck_nI (by omega) (by decide), zga_nI _ _ (by omega), l2.a 59 (by decide), k2.a 59 (by decide), hq.a 59 (by decide), n4 k hk (by omega)]
      refine zw_call (mw_num N l1 (by omega) (h40.2 k hk (by omega))) (fun r3 u3 ⟨o1, o2⟩ => fin u3 ?_ ((k2.tr l2).tr o2))
      unfold zpi
      rw [if_neg (by omega), if_neg (by omega), if_neg (by omega), if_neg (by omega), if_neg (by omega), if_neg (by omega), if_neg (by omega), if_neg (by omega), if_neg (by omega), if_pos c]; exact o1
    · rw [c, show zkd2 10 = 8 from rfl, if_neg (show ¬ (8 : Int32) = 0 by decide), if_neg (show ¬ (8 : Int32) = 1 by decide), if_neg (show ¬ (8 : Int32) = 2 by decide), if_neg (show ¬ (8 : Int32) = 3 by decide), if_neg (show ¬ (8 : Int32) = 4 by decide), if_neg (show ¬ (8 : Int32) = 5 by decide), if_neg (show ¬ (8 : Int32) = 6 by decide), if_neg (show ¬ (8 : Int32) = 7 by decide), if_pos rfl]
      refine zw_call (mw_sign N (c := 41) ht (by omega) (by decide)) (fun r u ⟨k1, k2⟩ => fin u ?_ k2)
      unfold zpi
      rw [if_neg (by omega), if_neg (by omega), if_neg (by omega), if_neg (by omega), if_neg (by omega), if_neg (by omega), if_neg (by omega), if_neg (by omega), if_neg (by omega), if_neg (by omega)]; exact k1
theorem pub_print (N : Nat) (hN : 5000 ≤ N) {g : zG} (hW : zGW g) (p : Int32) : zAg g g (mX11_print N p) (mX12_print N p) := by
  have hl : g.S.pr.length ≤ 400 := hW.1.2.2.2.2.2.2
  refine ⟨zwr g.S.pr p, fun s h => ?_, fun s h => ?_⟩
  · unfold mX11_print jX11_print_j35 jX11_print_j48 zwr
    have e1 : zgf s (zs (zgb s 0)) 1 = nI g.S.pr.length := h.2.1.2.2.2.2.2.2.2.2.2.2.1
    rw [e1]
    by_cases c1 : p = -1
    · rw [if_pos c1, if_pos c1]
      exact ⟨_, rfl, rfl, h, zSM_rfl⟩
    rw [if_neg c1, if_neg c1]
    by_cases c2 : p < 0
    · rw [if_pos c2, if_pos c2]
      exact ⟨_, rfl, rfl, h, zSM_rfl⟩
    rw [if_neg c2, if_neg c2]
    obtain ⟨x, hx, rfl⟩ := nI_of c2
    by_cases c3 : x < g.S.pr.length
    · rw [if_neg (by rw [nI_leI (by omega) hx]; omega), if_pos (by rw [show (400 : Int32) = nI 400 from rfl, nI_ltI hx (by decide)]; omega), if_pos (by rw [nI_ltI hx (by omega)]; exact c3), zck_nI (by omega) (by decide), zga_nI _ _ hx, nI_clamp hx, show zA s (zs (zgb s 0) + 1) x = nI (zgt g.S.pr x) from h.2.1.2.2.2.2.2.2.2.2.2.2.2.1 x c3]
      exact ⟨_, rfl, rfl, h, zSM_rfl⟩
    · rw [if_pos (by rw [nI_leI (by omega) hx]; omega), if_neg (by rw [nI_ltI hx (by omega)]; exact c3)]
      exact ⟨_, rfl, rfl, h, zSM_rfl⟩
  · unfold mX12_print jX12_print_j42 zwr
    refine zw_call (mw_printAll N hN h) (fun r t ⟨k1, k2⟩ => ?_)
    dsimp only at k1 k2
    have ht : zMI g t := by
      refine zMI_Q h (k2.mo (by decide) (by decide) (by decide)) ?_
      have hc := h.cm
      unfold zCm zFD zMx at hc ⊢
      rw [k2.f 57 37 (by decide), k2.f 57 44 (by decide), k2.a 78 (by decide), k2.a 79 (by decide), k2.l 80 (by decide), k2.l 81 (by decide), k2.a 84 (by decide), k2.a 85 (by decide), k2.l 86 (by decide)]
      exact hc
    have fr : zSX s t := zMQ_SX (k2.mo (by decide) (by decide) (by decide))
    rw [k1.1]
    by_cases c1 : p = -1
    · rw [if_pos c1, if_pos c1]
      exact ⟨_, rfl, rfl, ht, fr⟩
    rw [if_neg c1, if_neg c1, mX12_in_eq, zb2_some]
    dsimp only
    rw [show (if (0 : Int64) ≤ Int32.toInt64 p ∧ Int32.toInt64 p ≤ Int32.toInt64 (nI g.S.pr.length - 1) then (1 : Int32) else 0) = if ¬ p < 0 ∧ ¬ nI g.S.pr.length ≤ p then 1 else 0 from zif_iff (zin_lt (by omega) p)]
    rcases zarg (c := g.S.pr.length) (by omega) p with z | ⟨x, hx, rfl, z⟩
    · rw [if_neg z, if_pos rfl]
      refine ⟨_, rfl, ?_, ht, fr⟩
      dsimp only
      by_cases c2 : p < 0
      · rw [if_pos c2]
      · rw [if_neg c2, if_neg]
        intro c3
        apply z
        refine ⟨c2, ?_⟩
        rw [Int32.lt_iff_toInt_lt] at c3
        rw [Int32.le_iff_toInt_le]
        omega
    · rw [if_pos z, if_neg (show ¬ (1 : Int32) = 0 by decide), zck_nI (by omega) (by decide), zga_nI _ _ (by omega), k1.2.1 x hx, if_neg z.1, if_pos (by rw [nI_ltI (by omega) (by omega)]; exact hx), nI_clamp (by omega)]
      exact ⟨_, rfl, rfl, ht, fr⟩
