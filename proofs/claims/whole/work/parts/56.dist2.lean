/-! the distance of two rows -/
theorem zbt_one (y : Int64) : Int64.toInt32 (y &&& 1) = if zbt y 0 then 1 else 0 := by
  have e : y &&& 1 = if zbt y 0 then 1 else 0 := by
    apply zbt_ext
    intro i hi
    rw [zbt_and, zbt_1]
    by_cases q : i = 0
    · subst q
      cases h : zbt y 0
      · rw [if_neg (by decide), zbt_0, Bool.false_and]
      · rw [if_pos rfl, zbt_1, Bool.true_and]
    · rw [decide_eq_false q, Bool.and_false]
      split
      · rw [zbt_1, decide_eq_false q]
      · rw [zbt_0]
  rw [e]
  split <;> rfl
/-- the places of word m among the first n words -/
def zplc (w : Nat → Nat) (m : Nat) : Nat → Int64
  | 0 => 0
  | i + 1 => if w i = m then zplc w m i ||| ((1 : Int64) <<< (Int32.toInt64 (nI i) &&& 63)) else zplc w m i
theorem zplc_bit (w : Nat → Nat) (m : Nat) : ∀ n, n ≤ 64 → ∀ i, i < 64 → zbt (zplc w m n) i = (decide (i < n) && decide (w i = m)) := by
  intro n
  induction n with
  | zero => intro _ i _; unfold zplc; rw [zbt_0]; simp
  | succ n ih =>
    intro hn i hi
    unfold zplc
    by_cases e : w n = m
    · rw [if_pos e, zbt_or, ih (by omega) i hi, zbt_shl _ hi (by omega), zbt_1]
      by_cases q : i = n
      · subst q; simp [e]
      · by_cases q2 : i < n
        · have a : i < n + 1 := by omega
          simp [q2, a]
        · have a : ¬ i < n + 1 := by omega
          have b : ¬ i - n = 0 := by omega
          simp [q2, a, b]
    · rw [if_neg e, ih (by omega) i hi]
      by_cases q : i = n
      · subst q; simp [e]
      · have a : i < n ↔ i < n + 1 := by omega
        simp only [a]
def zpt (w : Nat → Nat) (n : Nat) (o : Nat → Int64) : Nat → Int64 := fun m => if m < 100 then zplc w m n else o m
theorem zpt_s {w : Nat → Nat} {n : Nat} {o : Nat → Int64} (h : w n < 100) :
    vp_updL (zpt w n o) (w n) (zpt w n o (w n) ||| ((1 : Int64) <<< (Int32.toInt64 (nI n) &&& 63))) = zpt w (n + 1) o := by
  funext m
  unfold vp_updL zpt
  by_cases e : m = w n
  · subst e
    rw [if_pos rfl, if_pos h, if_pos h]
    conv => rhs; unfold zplc
    rw [if_pos rfl]
  · rw [if_neg e]
    by_cases q : m < 100
    · rw [if_pos q, if_pos q]
      conv => rhs; unfold zplc
      rw [if_neg (fun x => e x.symm)]
    · rw [if_neg q, if_neg q]
theorem zRow_55 {b : Bool} {s : zq_S} {r n : Nat} {w : Nat → Nat} {f : Nat → Int64} (h : zRow b s r n w) : zRow b (zsL s 55 f) r n w := by
  refine ⟨h.1, h.2.1, h.2.2.1, ?_⟩
  have e : zL (zsL s 55 f) (zf b + 1) = zL s (zf b + 1) := zL_ne s (by cases b <;> decide) f
  rw [e]; exact h.2.2.2
theorem mX11_isWord_in (N : Nat) {v : Nat} (h : v < 100) (s : zq_S) : mX11_isWord N (nI v) s = some (1, s) := by
  unfold mX11_isWord
  rw [if_neg (nI_nneg (by omega)), if_neg (by rw [show (100 : Int32) = nI 100 from rfl, nI_leI (by omega) (by omega)]; omega)]
  exact zb_1 _
/-- which word of the one is which of the other -/
def zeq (n : Nat) (w u : Nat → Nat) : Nat → Nat → Bool := fun i j => decide (i < n) && decide (w i = u j)
/-- the distance -/
def zdist (n : Nat) (w : Nat → Nat) (k : Nat) (u : Nat → Nat) : Nat := (zD (zeq n w u) n k).toNat
theorem mX2_lastCell_eq (N : Nat) (hN : 5000 ≤ N) {c : Bool} {s : zq_S} (hG : zgf s (zf c) 0 = nI (zfS c)) {n t k : Nat} {w u : Nat → Nat} {o : Nat → Int64}
    (hn0 : 0 < n) (hn : n ≤ 40) (ht : t < zfS c) (h2 : zRow c s t k u) (hp : zL s 55 = zpt w n o) :
    mX2_lastCell N c (nI n) (nI t) (nI k) s = some (nI (zdist n w k u), s) := by
  have hk := h2.2.1
  have hD := zD_le (zeq n w u) n
  unfold mX2_lastCell
  apply zw_of
  refine zw_loop (fun v => ∃ j, j ≤ k ∧ zUD (zeq n w u) j v.1 v.2.1 ∧ v.2.2 = (nI (zD (zeq n w u) n j).toNat, nI j, s)) (fun v => k - v.2.2.2.1.toNatClampNeg) ?_ N _ ?_ ?_
  · rintro ⟨up, dn, v⟩ ⟨j, hj, hu, hv⟩ self hs
    dsimp only at hv hu
    subst hv
    dsimp only [bX2_lastCell_14, jX2_lastCell_j49, zq_let]
    by_cases e : j = k
    · subst e
      rw [if_pos (by rw [nI_leI (by omega) (by omega)]; omega)]
      exact zw_some.mpr rfl
    · rw [if_neg (by rw [nI_leI (by omega) (by omega)]; omega), mX8_wordAt_row N hG ht h2 (show j < k by omega)]
      unfold zq_b2
      dsimp only
      have hw := h2.2.2.1 j (by omega)
      rw [mX11_isWord_in N hw]
      dsimp only
      rw [if_neg (by decide), zck_nI hw (by decide), zgl_nI _ _ (by omega), hp]
      have eT : zpt w n o (u j) = zplc w (u j) n := by unfold zpt; rw [if_pos hw]
      rw [eT]
      have hT : ∀ i, i < 64 → zbt (zplc w (u j) n) i = zeq n w u i j := fun i hi => zplc_bit w (u j) n (by omega) i hi
      have hr := fun i hi => zMy_rise hu hT (i := i) hi
      have hf := fun i hi => zMy_fall hu hT (i := i) hi
      apply hs
      · refine ⟨j + 1, by omega, zMy_next hu hT hr hf, ?_⟩
        dsimp only
        obtain ⟨n', rfl⟩ : ∃ n', n = n' + 1 := ⟨n - 1, by omega⟩
        rw [nI_1, zn_m1, zbt_one, zbt_one, zbt_shr _ _ (by omega), zbt_shr _ _ (by omega), show n' + 0 = n' from rfl, hr n' (by omega), hf n' (by omega)]
        have d := (zD_step (zeq (n' + 1) w u) (n' + 1) j).2
        have d1 := hD j
        have d2 := hD (j + 1)
        congr 1
        by_cases q : zD (zeq (n' + 1) w u) (n' + 1) (j + 1) - zD (zeq (n' + 1) w u) (n' + 1) j = 1
        · rw [decide_eq_true q, decide_eq_false (by omega), if_pos rfl, if_neg (by decide), show (1 : Int32) - 0 = 1 from rfl, nI_1]
          congr 1; omega
        · by_cases q2 : zD (zeq (n' + 1) w u) (n' + 1) (j + 1) - zD (zeq (n' + 1) w u) (n' + 1) j = -1
          · rw [decide_eq_false q, decide_eq_true q2, if_pos rfl, if_neg (by decide)]
            have : (zD (zeq (n' + 1) w u) (n' + 1) j).toNat = (zD (zeq (n' + 1) w u) (n' + 1) (j + 1)).toNat + 1 := by omega
            rw [this]
            have e1 : ∀ x : Int32, x + (0 - 1) = x - 1 := by intro x; rw [Int32.sub_eq_add_neg x 1]; rfl
            rw [e1, zn_m1]
          · rw [decide_eq_false q, decide_eq_false q2, if_neg (by decide), show (0 : Int32) - 0 = 0 from rfl, Int32.add_zero]
            congr 1; omega
      · dsimp only
        rw [nI_1, nI_clamp (by omega), nI_clamp (by omega)]
        omega
  · refine ⟨0, by omega, zUD_0 _, ?_⟩
    rw [zD_i0]; rfl
  · dsimp only
    omega
/-- the state after a distance: the table of places may be new -/
def zdS (n : Nat) (w : Nat → Nat) (s : zq_S) : zq_S := if n = 0 then s else zsL s 55 (zpt w n (zL s 55))
theorem mX2_between_eq (N : Nat) (hN : 5000 ≤ N) {b c : Bool} {s : zq_S} (hF : zgf s (zf b) 0 = nI (zfS b)) (hG : zgf s (zf c) 0 = nI (zfS c)) {r n t k : Nat} {w u : Nat → Nat}
    (hr : r < zfS b) (h : zRow b s r n w) (ht : t < zfS c) (h2 : zRow c s t k u) :
    mX2_between N b c (nI r) (nI t) s = some (nI (zdist n w k u), zdS n w s) := by
  have hn := h.2.1
  unfold mX2_between
  rw [mX8_sizeOf_row N hF hr h]
  unfold zq_b2
  dsimp only
  rw [mX8_sizeOf_row N hG ht h2]
  dsimp only
  by_cases q : n = 0
  · subst q
    rw [if_pos (by decide)]
    unfold zdist zdS
    rw [zD_0, if_pos rfl, Int.toNat_natCast]
  · rw [if_neg (by rw [show (0 : Int32) = nI 0 from rfl, nI_eq (by omega) (by omega)]; exact q)]
    dsimp only [zq_let]
    have e0 : ((0 : Int32), zpfl s 55 100 0) = (nI 0, zsL s 55 (zpt w 0 (zL s 55))) := rfl
    rw [e0]
    unfold zdS
    rw [if_neg q]
    refine zq_up n (fun j => (nI j, zsL s 55 (zpt w j (zL s 55)))) ?_ ?_ N 0 (by omega) (by omega)
    · intro self
      dsimp only [bX2_between_34]
      rw [if_pos (by rw [nI_leI (by omega) (by omega)]; omega), mX2_lastCell_eq N hN (s := zsL s 55 (zpt w n (zL s 55))) hG (by omega) hn ht (zRow_55 h2) (zL_self _ _ _)]
      rfl
    · intro self j hj
      dsimp only [bX2_between_34]
      have hw := h.2.2.1 j hj
      rw [if_neg (by rw [nI_leI (by omega) (by omega)]; omega), mX8_wordAt_row N (s := zsL s 55 (zpt w j (zL s 55))) hF hr (zRow_55 h) hj]
      unfold zq_b2
      dsimp only
      rw [mX11_isWord_in N hw]
      dsimp only [zq_let, jX2_between_j72]
      rw [if_neg (by decide), zck_nI hw (by decide), zck_nI hw (by decide), zgl_nI _ _ (by omega), zpl_nI _ _ (by omega), zL_self, zpt_s hw, zsL_sL, nI_1]
theorem zdist_sym {n k : Nat} (w u : Nat → Nat) : zdist n w k u = zdist k u n w := by
  have key : ∀ i j, i ≤ n → j ≤ k → zD (zeq n w u) i j = zD (fun a b => zeq k u w b a) i j := by
    intro i
    induction i with
    | zero => intro j _ _; rw [zD_0, zD_0]
    | succ i ih =>
      intro j
      induction j with
      | zero => intro _ _; rw [zD_i0, zD_i0]
      | succ j jh =>
        intro hi hj
        rw [zD_ss, zD_ss, ih j (by omega) (by omega), ih (j + 1) (by omega) hj, jh hi (by omega)]
        have : zeq n w u i j = zeq k u w j i := by
          unfold zeq
          rw [decide_eq_true (show i < n by omega), decide_eq_true (show j < k by omega), Bool.true_and, Bool.true_and]
          by_cases q : w i = u j
          · rw [decide_eq_true q, decide_eq_true q.symm]
          · rw [decide_eq_false q, decide_eq_false (fun x => q x.symm)]
        rw [this]
  unfold zdist
  rw [key n k (Nat.le_refl _) (Nat.le_refl _), ← zD_sym (fun a b => zeq k u w b a) n k]
theorem zdm1 {a b c d : Int} {x : Nat} (h : d = min (min (a + x) (b + 1)) (c + 1)) (ha : 0 ≤ a) (hb : 0 ≤ b) (hc : 0 ≤ c) (q : min (a.toNat + x) (b.toNat + 1) ≤ c.toNat + 1) :
    min (a.toNat + x) (b.toNat + 1) = d.toNat := by
  by_cases e : a + x ≤ b + 1
  · rw [Nat.min_eq_left (by omega)] at q ⊢
    rw [Int.min_eq_left e] at h
    omega
  · rw [Nat.min_eq_right (by omega)] at q ⊢
    rw [Int.min_eq_right (show b + 1 ≤ a + x by omega)] at h
    omega
theorem zdm2 {a b c d : Int} {x : Nat} (h : d = min (min (a + x) (b + 1)) (c + 1)) (ha : 0 ≤ a) (hb : 0 ≤ b) (hc : 0 ≤ c) (q : c.toNat + 1 < min (a.toNat + x) (b.toNat + 1)) :
    c.toNat + 1 = d.toNat := by
  by_cases e : a + x ≤ b + 1
  · rw [Nat.min_eq_left (by omega)] at q
    rw [Int.min_eq_left e] at h
    omega
  · rw [Nat.min_eq_right (by omega)] at q
    rw [Int.min_eq_right (show b + 1 ≤ a + x by omega)] at h
    omega
/-- the reference's row of the table -/
def zdr (n : Nat) (w u : Nat → Nat) (i j m : Nat) : Nat := if m < j then (zD (zeq n w u) (i + 1) m).toNat else (zD (zeq n w u) i m).toNat
theorem mX12_distance_eq (N : Nat) (hN : 5000 ≤ N) {s : zq_S} {n k : Nat} {w u : Nat → Nat} (hn : n ≤ 40) (hk : k ≤ 40)
    (hw : ∀ i, i < n → zA s 88 i = nI (w i)) (hu : ∀ i, i < k → zA s 89 i = nI (u i)) (hwl : ∀ i, i < n → w i < 100) (hul : ∀ i, i < k → u i < 100) :
    mX12_distance N (nI n) (nI k) s = some (nI (zdist n w k u), zsA s 90 (zarr (k + 1) (fun m => (zD (zeq n w u) n m).toNat) (zA s 90))) := by
  have hD := zD_le (zeq n w u)
  unfold mX12_distance
  have e0 : ((0 : Int32), s) = (nI 0, zsA s 90 (zarr 0 (fun m => m) (zA s 90))) := by
    have : zarr 0 (fun m => m) (zA s 90) = zA s 90 := zarr_self _ _ (fun m hm => absurd hm (Nat.not_lt_zero _))
    rw [this, zsA_same]; rfl
  rw [e0]
  refine zq_up (k + 1) (fun j => (nI j, zsA s 90 (zarr j (fun m => m) (zA s 90)))) ?_ ?_ N 0 (by omega) (by omega)
  · intro self
    dsimp only [bX12_distance_2]
    rw [if_pos (by rw [nI_ltI (by omega) (by omega)]; omega)]
    have e1 : ((1 : Int32), zsA s 90 (zarr (k + 1) (fun m => m) (zA s 90))) = (nI 1, zsA s 90 (zarr (k + 1) (fun m => (zD (zeq n w u) 0 m).toNat) (zA s 90))) := by
      have : (fun m => (zD (zeq n w u) 0 m).toNat) = fun m => m := by
        funext m; rw [zD_0]; exact Int.toNat_natCast m
      rw [this]; rfl
    rw [e1]
    refine zq_up n (fun i => (nI (i + 1), zsA s 90 (zarr (k + 1) (fun m => (zD (zeq n w u) i m).toNat) (zA s 90)))) ?_ ?_ N 0 (by omega) (by omega)
    · intro self
      dsimp only [bX12_distance_22]
      rw [if_pos (by rw [nI_ltI (by omega) (by omega)]; omega), zck_nI (by omega) (by decide), zga_nI _ _ (by omega), zA_self, zarr_get _ _ (by omega)]
      rfl
    · intro self i hi
      dsimp only [bX12_distance_22, zq_let]
      rw [if_neg (by rw [nI_ltI (by omega) (by omega)]; omega), show (0 : Int32) = nI 0 from rfl, zck_nI (by decide) (by decide), zck_nI (by decide) (by decide), zga_nI _ _ (by omega), zpa_nI _ _ (by omega), zA_self, zarr_get _ _ (by omega), zarr_upd _ _ (by omega), zsA_sA]
      have e2 : (nI (zD (zeq n w u) i 0).toNat, (1 : Int32), zsA s 90 (zarr (k + 1) (zfu (fun m => (zD (zeq n w u) i m).toNat) 0 (i + 1)) (zA s 90))) =
          (nI (zD (zeq n w u) i 0).toNat, nI 1, zsA s 90 (zarr (k + 1) (zdr n w u i 1) (zA s 90))) := by
        have : zfu (fun m => (zD (zeq n w u) i m).toNat) 0 (i + 1) = zdr n w u i 1 := by
          funext m
          unfold zfu zdr
          by_cases q : m = 0
          · subst q; rw [if_pos rfl, if_pos (by omega), zD_i0]; omega
          · rw [if_neg q, if_neg (by omega)]
        rw [this]; rfl
      rw [e2]
      refine zq_up k (fun j => (nI (zD (zeq n w u) i j).toNat, nI (j + 1), zsA s 90 (zarr (k + 1) (zdr n w u i (j + 1)) (zA s 90)))) ?_ ?_ N 0 (by omega) (by omega)
      · intro self2
        dsimp only [bX12_distance_45]
        rw [if_pos (by rw [nI_ltI (by omega) (by omega)]; omega), nI_1]
        have : zarr (k + 1) (zdr n w u i (k + 1)) (zA s 90) = zarr (k + 1) (fun m => (zD (zeq n w u) (i + 1) m).toNat) (zA s 90) :=
          zarr_congr _ (fun m hm => by unfold zdr; rw [if_pos hm])
        rw [this]
      · intro self2 j hj
        dsimp only [bX12_distance_45, zq_let, jX12_distance_j142]
        have a1 : zdr n w u i (j + 1) (j + 1) = (zD (zeq n w u) i (j + 1)).toNat := by unfold zdr; rw [if_neg (by omega)]
        have a2 : zdr n w u i (j + 1) j = (zD (zeq n w u) (i + 1) j).toNat := by unfold zdr; rw [if_pos (by omega)]
        rw [if_neg (by rw [nI_ltI (by omega) (by omega)]; omega), zn_m1, zn_m1, zck_nI (by omega) (by decide), zck_nI (by omega) (by decide), zck_nI (by omega) (by decide), zck_nI (by omega) (by decide), zck_nI (by omega) (by decide),
          zck_nI (by omega) (by decide), zga_nI _ _ (by omega), zga_nI _ _ (by omega), zga_nI _ _ (by omega), zga_nI _ _ (by omega), zA_self, zA_ne _ (by decide), zA_ne _ (by decide), hw i (by omega), hu j (by omega), zarr_get _ _ (by omega), zarr_get _ _ (by omega), a1, a2]
        have hc : (if nI (w i) = nI (u j) then (0 : Int32) else 1) = nI (if zeq n w u i j then 0 else 1) := by
          have l1 := hwl i (by omega)
          have l2 := hul j (by omega)
          unfold zeq
          rw [decide_eq_true (show i < n from hi), Bool.true_and]
          by_cases q : w i = u j
          · rw [if_pos (by rw [q]), decide_eq_true q]; rfl
          · rw [if_neg (by rw [nI_eq (by omega) (by omega)]; exact q), decide_eq_false q]; rfl
        have d1 := hD i j
        have d2 := hD i (j + 1)
        have d3 := hD (i + 1) j
        have hss := zD_ss (zeq n w u) i j
        have fin : ∀ x : Nat, x = (zD (zeq n w u) (i + 1) (j + 1)).toNat →
            self2 (nI (zD (zeq n w u) i (j + 1)).toNat, nI (j + 1) + 1, zpa (zsA s 90 (zarr (k + 1) (zdr n w u i (j + 1)) (zA s 90))) 90 (nI (j + 1)) (nI x)) =
            self2 (nI (zD (zeq n w u) i (j + 1)).toNat, nI (j + 1 + 1), zsA s 90 (zarr (k + 1) (zdr n w u i (j + 1 + 1)) (zA s 90))) := by
          intro x hx
          rw [nI_1, zpa_nI _ _ (by omega), zA_self, zarr_upd _ _ (by omega), zsA_sA]
          congr 4
          apply zarr_congr
          intro m hm
          unfold zfu zdr
          by_cases q : m = j + 1
          · rw [if_pos q, if_pos (by omega), hx, q]
          · rw [if_neg q]
            by_cases q2 : m < j + 1
            · rw [if_pos q2, if_pos (by omega)]
            · rw [if_neg q2, if_neg (by omega)]
        rw [hc, nI_add, nI_1, nI_1]
        generalize hx : (if zeq n w u i j = true then 0 else 1 : Nat) = x
        have hx2 : ((if zeq n w u i j = true then 0 else 1 : Int)) = (x : Int) := by rw [← hx]; split <;> rfl
        have hx1 : x ≤ 1 := by rw [← hx]; split <;> decide
        rw [hx2] at hss
        have hm : (if nI ((zD (zeq n w u) i j).toNat + x) ≤ nI ((zD (zeq n w u) i (j + 1)).toNat + 1) then nI ((zD (zeq n w u) i j).toNat + x) else nI ((zD (zeq n w u) i (j + 1)).toNat + 1)) =
            nI (min ((zD (zeq n w u) i j).toNat + x) ((zD (zeq n w u) i (j + 1)).toNat + 1)) := by
          by_cases q : (zD (zeq n w u) i j).toNat + x ≤ (zD (zeq n w u) i (j + 1)).toNat + 1
          · rw [if_pos (by rw [nI_leI (by omega) (by omega)]; exact q), Nat.min_eq_left q]
          · rw [if_neg (by rw [nI_leI (by omega) (by omega)]; exact q), Nat.min_eq_right (by omega)]
        rw [hm]
        by_cases q : min ((zD (zeq n w u) i j).toNat + x) ((zD (zeq n w u) i (j + 1)).toNat + 1) ≤ (zD (zeq n w u) (i + 1) j).toNat + 1
        · rw [if_pos (by rw [nI_leI (by omega) (by omega)]; exact q)]
          exact fin _ (zdm1 hss d1.1 d2.1 d3.1 q)
        · rw [if_neg (by rw [nI_leI (by omega) (by omega)]; exact q), zck_nI (by omega) (by decide)]
          exact fin _ (zdm2 hss d1.1 d2.1 d3.1 (by omega))
  · intro self j hj
    dsimp only [bX12_distance_2, zq_let]
    rw [if_neg (by rw [nI_ltI (by omega) (by omega)]; omega), zck_nI (by omega) (by decide), zpa_nI _ _ (by omega), zA_self, zsA_sA, nI_1]
    congr 3
    funext m
    unfold upd zarr
    by_cases q : m = j
    · subst q; rw [if_pos rfl, if_pos (by omega)]
    · rw [if_neg q]
      by_cases q2 : m < j
      · rw [if_pos q2, if_pos (by omega)]
      · rw [if_neg q2, if_neg (by omega)]
