/-! word, idle -/
theorem zfo_s {β : Type} {l : List Nat} {j S : Nat} (h : l[j]? = some S) (F : β → Nat → β) (z : β) : (l.take (j + 1)).foldl F z = F ((l.take j).foldl F z) S := by
  obtain ⟨h1, h2⟩ := List.getElem?_eq_some_iff.mp h
  rw [List.take_succ_eq_append_getElem h1, h2, List.foldl_append]
  rfl
theorem zgo_s {β : Type} (mu : Nat → Nat) (n k : Nat) (F : β → Nat → β) (z : β) : (zgL mu n (k + 1)).foldl F z = if zgd mu k n then F ((zgL mu n k).foldl F z) k else (zgL mu n k).foldl F z := by
  rw [zgL_s, List.foldl_append]
  cases zgd mu k n <;> rfl
theorem zgL_get {mu : Nat → Nat} {n j : Nat} (h : j < (zgL mu n (2 ^ n)).length) : ∃ S, (zgL mu n (2 ^ n))[j]? = some S ∧ S < 2 ^ n ∧ zgd mu S n = true := by
  refine ⟨_, List.getElem?_eq_getElem h, ?_⟩
  exact zgL_mem.mp (List.getElem_mem h)
def zFe (T : zSh) (x : Nat) (a : Int32) (S : Nat) : Int32 := if a ≤ nI (zbc S 10) then a else if x ∈ ztx T S then nI (zbc S 10) else a
def zFm (T : zSh) (x : Nat) (a : Int32) (S : Nat) : Int32 := if nI (zbc S 10) ≤ a then a else if x ∈ ztx T S then nI (zbc S 10) else a
def zFc (T : zSh) (x : Nat) (a : Int32) (S : Nat) : Int32 := if x ∈ ztx T S then a + 1 else a
def zFe2 (T : zSh) (x : Nat) (a : Int32) (S : Nat) : Int32 := if x ∈ ztx T S then (if a < 0 then nI (zbc S 10) else if a ≤ nI (zbc S 10) then a else nI (zbc S 10)) else a
theorem zFe_rel (T : zSh) (x : Nat) : ∀ (l : List Nat) (a b : Int32), ((∃ k, k ≤ 10 ∧ a = nI k ∧ b = nI k) ∨ (a = 11 ∧ b = -1)) → ((∃ k, k ≤ 10 ∧ l.foldl (zFe T x) a = nI k ∧ l.foldl (zFe2 T x) b = nI k) ∨ (l.foldl (zFe T x) a = 11 ∧ l.foldl (zFe2 T x) b = -1)) := by
  intro l
  induction l with
  | nil => exact fun a b h => h
  | cons S l ih =>
    intro a b h
    refine ih _ _ ?_
    have hb := zbc_le S 10
    unfold zFe zFe2
    by_cases e : x ∈ ztx T S
    · rw [if_pos e, if_pos e]
      left
      rcases h with ⟨k, hk, rfl, rfl⟩ | ⟨rfl, rfl⟩
      · rw [if_neg (nI_nneg (by omega))]
        by_cases q : nI k ≤ nI (zbc S 10)
        · rw [if_pos q]; exact ⟨k, hk, rfl, rfl⟩
        · rw [if_neg q]; exact ⟨_, hb, rfl, rfl⟩
      · rw [if_pos (show (-1 : Int32) < 0 by decide), if_neg (show ¬ (11 : Int32) ≤ nI (zbc S 10) by rw [show (11 : Int32) = nI 11 from rfl, nI_leI (by omega) (by omega)]; omega)]
        exact ⟨_, hb, rfl, rfl⟩
    · rw [if_neg e, if_neg e, ite_self]
      exact h
theorem xw_fewest (N : Nat) (hN : 5000 ≤ N) {g : zG} {s : zq_S} (h : zXI g s) {x : Nat} (hx : x < 100) :
    zw (mX11_fewestMarks N (nI x) s) (fun v => v.1 = (zgL g.mu g.n (2 ^ g.n)).foldl (zFe2 g.T x) (-1) ∧ zXI g v.2 ∧ zXG s v.2) := by
  have hl := zgL_len_le g.mu g.n (2 ^ g.n)
  have hp := zn_pow h.W.n
  unfold mX11_fewestMarks
  refine zw_cnt (zgL g.mu g.n (2 ^ g.n)).length (fun j v => ∃ t, v = (((zgL g.mu g.n (2 ^ g.n)).take j).foldl (zFe g.T x) 11, nI j, t) ∧ zXI g t ∧ zXG s t) ?_ ?_ N 0 _ (by omega) (by omega) ⟨s, rfl, h, zfr_rfl⟩
  · rintro self v ⟨t, rfl, ht, hq⟩
    dsimp only [bX11_fewestMarks_5]
    refine zw_call (xw_goodCount N hN ht) (fun r t2 ⟨k1, k2, k3, _, _⟩ => ?_)
    dsimp only at k1
    rw [k1, if_pos (nI_le (Nat.le_refl _) (by omega)), List.take_length]
    dsimp only [zq_let]
    refine ⟨_, rfl, ?_, k2, hq.tr k3⟩
    dsimp only
    rcases zFe_rel g.T x (zgL g.mu g.n (2 ^ g.n)) 11 (-1) (Or.inr ⟨rfl, rfl⟩) with ⟨k, hk, e1, e2⟩ | ⟨e1, e2⟩
    · rw [e1, e2, if_pos (by rw [show (10 : Int32) = nI 10 from rfl, nI_leI (by omega) (by omega)]; omega)]
    · rw [e1, e2, if_neg (by decide)]
  · rintro self j v hj ⟨t, rfl, ht, hq⟩ hself
    obtain ⟨S, e, hS, hg⟩ := zgL_get hj
    have h1 := zlt_pow h.W.n hS
    dsimp only [bX11_fewestMarks_5, jX11_fewestMarks_j54, zq_let]
    refine zw_call (xw_goodCount N hN ht) (fun r t2 ⟨k1, k2, k3, _, _⟩ => ?_)
    dsimp only at k1
    rw [k1, if_neg (by rw [nI_leI (by omega) (by omega)]; omega)]
    refine zw_call (xw_goodAt N hN k2 e) (fun r t3 ⟨l1, l2, l3, _⟩ => ?_)
    dsimp only at l1
    subst l1
    rw [mJ6_bc N h1, zb2_some, nI_1]
    dsimp only
    have es := zfo_s e (zFe g.T x) 11
    unfold zFe at es
    by_cases q : ((zgL g.mu g.n (2 ^ g.n)).take j).foldl (zFe g.T x) 11 ≤ nI (zbc S 10)
    · rw [if_pos q]
      refine hself _ ⟨t3, ?_, l2, (hq.tr k3).tr l3⟩
      rw [zfo_s e, zFe, if_pos q]
    · rw [if_neg q]
      refine zw_call (xw_stands N hN l2 h1 hx) (fun r t4 ⟨m1, m2, m3⟩ => ?_)
      dsimp only at m1
      rw [m1]
      by_cases q2 : x ∈ ztx g.T S
      · rw [if_pos q2, if_neg (by decide), mJ6_bc N h1, zb2_some]
        refine hself _ ⟨t4, ?_, m2, ((hq.tr k3).tr l3).tr m3⟩
        rw [zfo_s e, zFe, if_neg q, if_pos q2]
      · rw [if_neg q2, if_pos rfl]
        refine hself _ ⟨t4, ?_, m2, ((hq.tr k3).tr l3).tr m3⟩
        rw [zfo_s e, zFe, if_neg q, if_neg q2]
theorem xw_most (N : Nat) (hN : 5000 ≤ N) {g : zG} {s : zq_S} (h : zXI g s) {x : Nat} (hx : x < 100) :
    zw (mX11_mostMarks N (nI x) s) (fun v => v.1 = (zgL g.mu g.n (2 ^ g.n)).foldl (zFm g.T x) (-1) ∧ zXI g v.2 ∧ zXG s v.2) := by
  have hl := zgL_len_le g.mu g.n (2 ^ g.n)
  have hp := zn_pow h.W.n
  unfold mX11_mostMarks
  refine zw_cnt (zgL g.mu g.n (2 ^ g.n)).length (fun j v => ∃ t, v = (((zgL g.mu g.n (2 ^ g.n)).take j).foldl (zFm g.T x) (-1), nI j, t) ∧ zXI g t ∧ zXG s t) ?_ ?_ N 0 _ (by omega) (by omega) ⟨s, rfl, h, zfr_rfl⟩
  · rintro self v ⟨t, rfl, ht, hq⟩
    dsimp only [bX11_mostMarks_4]
    refine zw_call (xw_goodCount N hN ht) (fun r t2 ⟨k1, k2, k3, _, _⟩ => ?_)
    dsimp only at k1
    rw [k1, if_pos (nI_le (Nat.le_refl _) (by omega)), List.take_length]
    exact ⟨_, rfl, rfl, k2, hq.tr k3⟩
  · rintro self j v hj ⟨t, rfl, ht, hq⟩ hself
    obtain ⟨S, e, hS, hg⟩ := zgL_get hj
    have h1 := zlt_pow h.W.n hS
    dsimp only [bX11_mostMarks_4, jX11_mostMarks_j53, zq_let]
    refine zw_call (xw_goodCount N hN ht) (fun r t2 ⟨k1, k2, k3, _, _⟩ => ?_)
    dsimp only at k1
    rw [k1, if_neg (by rw [nI_leI (by omega) (by omega)]; omega)]
    refine zw_call (xw_goodAt N hN k2 e) (fun r t3 ⟨l1, l2, l3, _⟩ => ?_)
    dsimp only at l1
    subst l1
    rw [mJ6_bc N h1, zb2_some, nI_1]
    dsimp only
    by_cases q : nI (zbc S 10) ≤ ((zgL g.mu g.n (2 ^ g.n)).take j).foldl (zFm g.T x) (-1)
    · rw [if_pos q]
      refine hself _ ⟨t3, ?_, l2, (hq.tr k3).tr l3⟩
      rw [zfo_s e, zFm, if_pos q]
    · rw [if_neg q]
      refine zw_call (xw_stands N hN l2 h1 hx) (fun r t4 ⟨m1, m2, m3⟩ => ?_)
      dsimp only at m1
      rw [m1]
      by_cases q2 : x ∈ ztx g.T S
      · rw [if_pos q2, if_neg (by decide), mJ6_bc N h1, zb2_some]
        refine hself _ ⟨t4, ?_, m2, ((hq.tr k3).tr l3).tr m3⟩
        rw [zfo_s e, zFm, if_neg q, if_pos q2]
      · rw [if_neg q2, if_pos rfl]
        refine hself _ ⟨t4, ?_, m2, ((hq.tr k3).tr l3).tr m3⟩
        rw [zfo_s e, zFm, if_neg q, if_neg q2]
theorem xw_cntw (N : Nat) (hN : 5000 ≤ N) {g : zG} {s : zq_S} (h : zXI g s) {x : Nat} (hx : x < 100) :
    zw (mX11_goodSetsWith N (nI x) s) (fun v => v.1 = (zgL g.mu g.n (2 ^ g.n)).foldl (zFc g.T x) 0 ∧ zXI g v.2 ∧ zXG s v.2) := by
  have hl := zgL_len_le g.mu g.n (2 ^ g.n)
  have hp := zn_pow h.W.n
  unfold mX11_goodSetsWith
  refine zw_cnt (zgL g.mu g.n (2 ^ g.n)).length (fun j v => ∃ t, v = (((zgL g.mu g.n (2 ^ g.n)).take j).foldl (zFc g.T x) 0, nI j, t) ∧ zXI g t ∧ zXG s t) ?_ ?_ N 0 _ (by omega) (by omega) ⟨s, rfl, h, zfr_rfl⟩
  · rintro self v ⟨t, rfl, ht, hq⟩
    dsimp only [bX11_goodSetsWith_4]
    refine zw_call (xw_goodCount N hN ht) (fun r t2 ⟨k1, k2, k3, _, _⟩ => ?_)
    dsimp only at k1
    rw [k1, if_pos (nI_le (Nat.le_refl _) (by omega)), List.take_length]
    exact ⟨_, rfl, rfl, k2, hq.tr k3⟩
  · rintro self j v hj ⟨t, rfl, ht, hq⟩ hself
    obtain ⟨S, e, hS, hg⟩ := zgL_get hj
    have h1 := zlt_pow h.W.n hS
    dsimp only [bX11_goodSetsWith_4, jX11_goodSetsWith_j37, zq_let]
    refine zw_call (xw_goodCount N hN ht) (fun r t2 ⟨k1, k2, k3, _, _⟩ => ?_)
    dsimp only at k1
    rw [k1, if_neg (by rw [nI_leI (by omega) (by omega)]; omega)]
    refine zw_call (xw_goodAt N hN k2 e) (fun r t3 ⟨l1, l2, l3, _⟩ => ?_)
    dsimp only at l1
    subst l1
    refine zw_call (xw_stands N hN l2 h1 hx) (fun r t4 ⟨m1, m2, m3⟩ => ?_)
    dsimp only at m1
    rw [m1, nI_1]
    by_cases q2 : x ∈ ztx g.T S
    · rw [if_pos q2, if_neg (by decide)]
      refine hself _ ⟨t4, ?_, m2, ((hq.tr k3).tr l3).tr m3⟩
      rw [zfo_s e, zFc, if_pos q2]
    · rw [if_neg q2, if_pos rfl]
      refine hself _ ⟨t4, ?_, m2, ((hq.tr k3).tr l3).tr m3⟩
      rw [zfo_s e, zFc, if_neg q2]
theorem mw_word (N : Nat) (hN : 5000 ≤ N) {g : zG} {s : zq_S} (h : zMR g s) {x : Nat} (hx : x < 100) (p : Int32) :
    zq_loop (bX12_word_74 N (nI x) p) N (-1, -1, 0, 0, s) = some ((if p = 2 then (zgL g.mu g.n (2 ^ g.n)).foldl (zFe2 g.T x) (-1) else if p = 3 then (zgL g.mu g.n (2 ^ g.n)).foldl (zFm g.T x) (-1) else (zgL g.mu g.n (2 ^ g.n)).foldl (zFc g.T x) 0), s) := by
  have hp := zn_pow h.i.W.n
  have h0 : 0 < 2 ^ g.n := Nat.pow_pos (by decide)
  refine zq_up (2 ^ g.n) (fun j => ((zgL g.mu g.n j).foldl (zFe2 g.T x) (-1), (zgL g.mu g.n j).foldl (zFm g.T x) (-1), (zgL g.mu g.n j).foldl (zFc g.T x) 0, nI j, s)) (fun self => ?_) (fun self j hj => ?_) N 0 (by omega) (by omega)
  · dsimp only [bX12_word_74, zq_let]
    rw [mX12_all_eq N h.i.mk h.i.W.n, zb2_some]
    dsimp only
    rw [if_pos (nI_lt (by omega) (by omega))]
  · dsimp only [bX12_word_74, jX12_word_j146, zq_let]
    rw [mX12_all_eq N h.i.mk h.i.W.n, zb2_some]
    dsimp only
    rw [if_neg (nI_nlt (by omega) (by omega)), zck_nI (by omega) (by decide), zga_nI _ _ (by omega), h.good hj, zgo_s, zgo_s, zgo_s, nI_1]
    cases hg : zgd g.mu j g.n with
    | false => rfl
    | true =>
      rw [zib_t, if_neg (by decide), mX12_stands_r N hN h hj hx, zb2_some]
      simp only [if_true]
      unfold zFe2 zFm zFc
      by_cases q : x ∈ ztx g.T j
      · simp only [if_pos q]
        rw [if_neg (by decide), mX12_bits_eq N hN (by omega), zb2_some]
      · simp only [if_neg q, ite_self]
        rw [if_pos trivial]
theorem zi_or (p : Int32) : p = 0 ∨ p = 1 ∨ p = 2 ∨ p = 3 ∨ p = 4 ∨ ¬ (¬ p < 0 ∧ ¬ nI 5 ≤ p) := by
  rcases zarg (c := 5) (by decide) p with z | ⟨x, hx, rfl, z⟩
  · exact Or.inr (Or.inr (Or.inr (Or.inr (Or.inr z))))
  · have : x = 0 ∨ x = 1 ∨ x = 2 ∨ x = 3 ∨ x = 4 := by omega
    rcases this with rfl | rfl | rfl | rfl | rfl
    · exact Or.inl rfl
    · exact Or.inr (Or.inl rfl)
    · exact Or.inr (Or.inr (Or.inl rfl))
    · exact Or.inr (Or.inr (Or.inr (Or.inl rfl)))
    · exact Or.inr (Or.inr (Or.inr (Or.inr (Or.inl rfl))))
theorem mX11_isWord_out (N : Nat) {p : Int32} (h : ¬ (¬ p < 0 ∧ ¬ nI 100 ≤ p)) (s : zq_S) : mX11_isWord N p s = some (0, s) := by
  dsimp only [mX11_isWord, zq_let]
  by_cases q : p < 0
  · rw [if_pos q, zb_0]
  · rw [if_neg q, if_pos (show (100 : Int32) ≤ p from Classical.byContradiction fun z => h ⟨q, z⟩), zb_0]
theorem mX12_in99 (N : Nat) (p : Int32) (s : zq_S) : mX12_in N (Int32.toInt64 p) 0 99 s = some (if ¬ p < 0 ∧ ¬ nI 100 ≤ p then 1 else 0, s) := by
  rw [mX12_in_eq]
  congr 2
  exact zif_iff (zin_c (c := 99) (by decide) p)
theorem mX12_in4 (N : Nat) (p : Int32) (s : zq_S) : mX12_in N (Int32.toInt64 p) 0 4 s = some (if ¬ p < 0 ∧ ¬ nI 5 ≤ p then 1 else 0, s) := by
  rw [mX12_in_eq]
  congr 2
  exact zif_iff (zin_c (c := 4) (by decide) p)
theorem zif01 (c : Prop) [Decidable c] : (if (if c then (1 : Int32) else 0) = 0 then (0 : Int32) else 1) = if c then 1 else 0 := by
  by_cases h : c
  · rw [if_pos h]; rfl
  · rw [if_neg h]; rfl
theorem pub_word (N : Nat) (hN : 5000 ≤ N) {g : zG} (hW : zGW g) (p q : Int32) : zAg g g (mX11_word N p q) (mX12_word N p q) := by
  have hp := zn_pow hW.n
  have h0 : 0 < 2 ^ g.n := Nat.pow_pos (by decide)
  rcases zarg (c := 100) (by decide) p with z | ⟨x, hx, rfl, z⟩
  · refine ⟨-1002, fun s h => ?_, fun s h => ?_⟩
    · unfold mX11_word
      rw [mX11_isWord_out N z, zb2_some]
      exact ⟨_, rfl, rfl, h, zSM_rfl⟩
    · unfold mX12_word
      rw [mX12_in99, if_neg z, zb2_some]
      exact ⟨_, rfl, rfl, h, zSX_rfl⟩
  · have X : ∀ s, zXI g s → ∀ r, zw (if q = 0 then zq_b2 (mX9_stands N (nI x) 0 s) (fun r3 s4 => zq_let (if r3 = (0 : Int32) then (0 : Int32) else (1 : Int32)) (fun x5 => some (x5, s4))) else if q = 1 then zq_b2 (mX3_full N s) (fun r7 s8 => zq_b2 (mX9_stands N (nI x) r7 s8) (fun r9 s10 => zq_let (if r9 = (0 : Int32) then (0 : Int32) else (1 : Int32)) (fun x11 => some (x11, s10)))) else if q = 2 then zq_b2 (mX11_fewestMarks N (nI x) s) (fun r13 s14 => some (r13, s14)) else if q = 3 then zq_b2 (mX11_mostMarks N (nI x) s) (fun r16 s17 => some (r16, s17)) else if q = 4 then zq_b2 (mX11_goodSetsWith N (nI x) s) (fun r19 s20 => some (r19, s20)) else some ((-1002 : Int32), s)) (fun v => v.1 = r ∧ zXI g v.2 ∧ zSM s v.2) → zw (mX11_word N (nI x) q s) (fun v => v.1 = r ∧ zXI g v.2 ∧ zSM s v.2) := by
      intro s h r k
      unfold mX11_word
      rw [mX11_isWord_in N hx, zb2_some]
      dsimp only
      rw [if_neg (by decide)]
      exact k
    have M : ∀ s, zMI g s → (¬ q < 0 ∧ ¬ nI 5 ≤ q) → ∀ r, (∀ t, zMR g t → zMG s t → zw (if (2 : Int32) ≤ q then zq_loop (bX12_word_74 N (nI x) q ) N ((-1 : Int32), (-1 : Int32), (0 : Int32), (0 : Int32), t) else if q = 0 then jX12_word_j50 N (nI x) (0 : Int32) t else zq_b2 (mX12_all N t) (fun r18 s19 => jX12_word_j50 N (nI x) r18 s19)) (fun v => v.1 = r ∧ v.2 = t)) → zw (mX12_word N (nI x) q s) (fun v => v.1 = r ∧ zMI g v.2 ∧ zSX s v.2) := by
      intro s h y r k
      unfold mX12_word
      rw [mX12_in99, if_pos z, zb2_some]
      dsimp only
      rw [if_neg (by decide), mX12_in4, if_pos y, zb2_some]
      dsimp only
      rw [if_neg (by decide)]
      refine zw_call (mw_findTexts N hN h) (fun r2 t ⟨k1, k2⟩ => ?_)
      refine zw_mono (k t k1 k2) ?_
      rintro ⟨a, b⟩ ⟨e1, e2⟩
      dsimp only at e1 e2
      subst e2
      exact ⟨e1, k1.i, zMG_SX k2⟩
    rcases zi_or q with rfl | rfl | rfl | rfl | rfl | y
    · refine ⟨if x ∈ ztx g.T 0 then 1 else 0, fun s h => X s h _ ?_, fun s h => M s h (by decide) _ (fun t ht hq => ?_)⟩
      · rw [if_pos rfl]
        refine zw_call (xw_stands N hN h (S := 0) (by decide) hx) (fun r t ⟨k1, k2, k3⟩ => ?_)
        dsimp only at k1
        subst k1
        exact ⟨_, rfl, zif01 _, k2, zXG_SM k3⟩
      · rw [if_neg (by decide), if_pos rfl]
        unfold jX12_word_j50
        rw [show (0 : Int32) = nI 0 from rfl, mX12_stands_r N hN ht h0 hx, zb2_some]
        exact ⟨_, rfl, zif01 _, rfl⟩
    · refine ⟨if x ∈ ztx g.T (2 ^ g.n - 1) then 1 else 0, fun s h => X s h _ ?_, fun s h => M s h (by decide) _ (fun t ht hq => ?_)⟩
      · rw [if_neg (by decide), if_pos rfl, h.full N, zb2_some]
        dsimp only
        refine zw_call (xw_stands N hN h (by omega) hx) (fun r t ⟨k1, k2, k3⟩ => ?_)
        dsimp only at k1
        subst k1
        exact ⟨_, rfl, zif01 _, k2, zXG_SM k3⟩
      · rw [if_neg (by decide), if_neg (by decide), mX12_all_eq N ht.i.mk hW.n, zb2_some]
        unfold jX12_word_j50
        dsimp only
        rw [mX12_stands_r N hN ht (by omega) hx, zb2_some]
        exact ⟨_, rfl, zif01 _, rfl⟩
    · refine ⟨(zgL g.mu g.n (2 ^ g.n)).foldl (zFe2 g.T x) (-1), fun s h => X s h _ ?_, fun s h => M s h (by decide) _ (fun t ht hq => ?_)⟩
      rotate_left 
      · rw [if_pos (by decide), mw_word N hN ht hx]
        exact ⟨_, rfl, rfl, rfl⟩
      · rw [if_neg (by decide), if_neg (by decide), if_pos rfl]
        refine zw_call (xw_fewest N hN h hx) (fun r t ⟨k1, k2, k3⟩ => ?_)
        exact ⟨_, rfl, k1, k2, zXG_SM k3⟩
    · refine ⟨(zgL g.mu g.n (2 ^ g.n)).foldl (zFm g.T x) (-1), fun s h => X s h _ ?_, fun s h => M s h (by decide) _ (fun t ht hq => ?_)⟩
      rotate_left 
      · rw [if_pos (by decide), mw_word N hN ht hx]
        exact ⟨_, rfl, rfl, rfl⟩
      · rw [if_neg (by decide), if_neg (by decide), if_neg (by decide), if_pos rfl]
        refine zw_call (xw_most N hN h hx) (fun r t ⟨k1, k2, k3⟩ => ?_)
        exact ⟨_, rfl, k1, k2, zXG_SM k3⟩
    · refine ⟨(zgL g.mu g.n (2 ^ g.n)).foldl (zFc g.T x) 0, fun s h => X s h _ ?_, fun s h => M s h (by decide) _ (fun t ht hq => ?_)⟩
      rotate_left 
      · rw [if_pos (by decide), mw_word N hN ht hx]
        exact ⟨_, rfl, rfl, rfl⟩
      · rw [if_neg (by decide), if_neg (by decide), if_neg (by decide), if_neg (by decide), if_pos rfl]
        refine zw_call (xw_cntw N hN h hx) (fun r t ⟨k1, k2, k3⟩ => ?_)
        exact ⟨_, rfl, k1, k2, zXG_SM k3⟩
    · refine ⟨-1002, fun s h => X s h _ ?_, fun s h => ?_⟩
      · have ne : ∀ k, k < 5 → ¬ q = nI k := by
          rintro k hk rfl
          exact y ⟨nI_nneg (by omega), by rw [nI_leI (by decide) (by omega)]; omega⟩
        rw [if_neg (show ¬ q = 0 from ne 0 (by decide)), if_neg (show ¬ q = 1 from ne 1 (by decide)), if_neg (show ¬ q = 2 from ne 2 (by decide)), if_neg (show ¬ q = 3 from ne 3 (by decide)), if_neg (show ¬ q = 4 from ne 4 (by decide))]
        exact ⟨_, rfl, rfl, h, zSM_rfl⟩
      · unfold mX12_word
        rw [mX12_in99, if_pos z, zb2_some]
        dsimp only
        rw [if_neg (by decide), mX12_in4, if_neg y, zb2_some]
        exact ⟨_, rfl, rfl, h, zSX_rfl⟩
