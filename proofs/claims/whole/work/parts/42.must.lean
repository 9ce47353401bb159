/-! which mark must be behind which: the closure, and the reference's findMust -/
theorem zck_nI {α : Type} {j n : Nat} (h : j < n) (hn : n < 2 ^ 31) (c : Option α) : zq_ck (nI j) n c = c := by
  unfold zq_ck
  rw [if_neg (nI_in h hn)]
theorem zga_nI (s : zq_S) (k : Nat) {j : Nat} (hj : j < 2 ^ 31) : zga s k (nI j) = zA s k j := by rw [zga_eq, nI_clamp hj]
theorem zgl_nI (s : zq_S) (k : Nat) {j : Nat} (hj : j < 2 ^ 31) : zgl s k (nI j) = zL s k j := by rw [zgl_eq, nI_clamp hj]
theorem zpa_nI (s : zq_S) (k : Nat) {j : Nat} (hj : j < 2 ^ 31) (v : Int32) : zpa s k (nI j) v = zsA s k (upd (zA s k) j v) := by rw [zpa_eq, nI_clamp hj]
theorem zpl_nI (s : zq_S) (k : Nat) {j : Nat} (hj : j < 2 ^ 31) (v : Int64) : zpl s k (nI j) v = zsL s k (vp_updL (zL s k) j v) := by rw [zpl_eq, nI_clamp hj]
theorem zpaz_nI (s : zq_S) (k : Nat) {j : Nat} (hj : j < 2 ^ 31) (v : Int32) : zpaz s k (nI j) v = zsA s k (upd (zA s k) j (vp_nar .boolean v)) := by rw [zpaz_eq, nI_clamp hj]
theorem zpab_nI (s : zq_S) (k : Nat) {j : Nat} (hj : j < 2 ^ 31) (v : Int32) : zpab s k (nI j) v = zsA s k (upd (zA s k) j (vp_nar .byte v)) := by rw [zpab_eq, nI_clamp hj]
theorem zA_self (s : zq_S) (k : Nat) (f : Nat → Int32) : zA (zsA s k f) k = f := by rw [zA_sA, if_pos rfl]
theorem zL_self (s : zq_S) (k : Nat) (f : Nat → Int64) : zL (zsL s k f) k = f := by rw [zL_sL, if_pos rfl]
theorem zA_ne (s : zq_S) {k a : Nat} (h : a ≠ k) (f : Nat → Int32) : zA (zsA s k f) a = zA s a := by rw [zA_sA, if_neg h]
theorem zL_ne (s : zq_S) {k a : Nat} (h : a ≠ k) (f : Nat → Int64) : zL (zsL s k f) a = zL s a := by rw [zL_sL, if_neg h]
/-- an array that holds numbers below n -/
def zarr (n : Nat) (h : Nat → Nat) (o : Nat → Int32) : Nat → Int32 := fun m => if m < n then nI (h m) else o m
def zfu (h : Nat → Nat) (j x : Nat) : Nat → Nat := fun m => if m = j then x else h m
theorem zarr_upd {n j : Nat} (h : Nat → Nat) (o : Nat → Int32) (hj : j < n) (x : Nat) : upd (zarr n h o) j (nI x) = zarr n (zfu h j x) o := by
  funext m
  unfold upd zarr zfu
  by_cases e : m = j
  · subst e; simp [hj]
  · simp [e]
theorem zarr_get {n j : Nat} (h : Nat → Nat) (o : Nat → Int32) (hj : j < n) : zarr n h o j = nI (h j) := by unfold zarr; rw [if_pos hj]
theorem zarr_self {n : Nat} (h : Nat → Nat) (o : Nat → Int32) (ho : ∀ m, m < n → o m = nI (h m)) : zarr n h o = o := by
  funext m
  unfold zarr
  split
  · rename_i hm; rw [ho m hm]
  · rfl
theorem zarr_congr {n : Nat} {h g : Nat → Nat} (o : Nat → Int32) (hg : ∀ m, m < n → h m = g m) : zarr n h o = zarr n g o := by
  funext m
  unfold zarr
  split
  · rename_i hm; rw [hg m hm]
  · rfl
/-- one mark's closure step, all marks -/
def zfw (n k : Nat) (h : Nat → Nat) : Nat → Nat := fun m => if m < n ∧ (h m).testBit k then h m ||| h k else h m
def zwar (n : Nat) (h : Nat → Nat) : Nat → (Nat → Nat)
  | 0 => h
  | k + 1 => zfw n k (zwar n h k)
def zini (ba ik : Nat → Nat) (er : Nat → Nat → Bool) (m : Nat) : Nat → Nat
  | 0 => ba m
  | j + 1 => zini ba ik er m j ||| (if er (ik j) (ik m) then 2 ^ j else 0)
def zmu (n : Nat) (ba ik : Nat → Nat) (er : Nat → Nat → Bool) : Nat → Nat := zwar n (fun m => zini ba ik er m n) n
def zcy (mu : Nat → Nat) : Nat → Bool
  | 0 => false
  | j + 1 => zcy mu j || (mu j).testBit j
theorem zini_lt {n : Nat} {ba ik : Nat → Nat} {er : Nat → Nat → Bool} {m : Nat} (hb : ba m < 2 ^ n) : ∀ j, j ≤ n → zini ba ik er m j < 2 ^ n := by
  intro j
  induction j with
  | zero => exact fun _ => hb
  | succ j ih =>
    intro hj
    refine Nat.or_lt_two_pow (ih (by omega)) ?_
    split
    · exact Nat.pow_lt_pow_right (by decide) (by omega)
    · exact Nat.pow_pos (by decide)
theorem zfw_lt {n k : Nat} {h : Nat → Nat} (hk : k < n) (hh : ∀ m, m < n → h m < 2 ^ n) : ∀ m, m < n → zfw n k h m < 2 ^ n := by
  intro m hm
  unfold zfw
  split
  · exact Nat.or_lt_two_pow (hh m hm) (hh k hk)
  · exact hh m hm
theorem zwar_lt {n : Nat} {h : Nat → Nat} (hh : ∀ m, m < n → h m < 2 ^ n) : ∀ k, k ≤ n → ∀ m, m < n → zwar n h k m < 2 ^ n := by
  intro k
  induction k with
  | zero => exact fun _ => hh
  | succ k ih => exact fun hk => zfw_lt (by omega) (ih (by omega))
theorem zmu_lt {n : Nat} {ba ik : Nat → Nat} {er : Nat → Nat → Bool} (hb : ∀ m, m < n → ba m < 2 ^ n) : ∀ m, m < n → zmu n ba ik er m < 2 ^ n :=
  zwar_lt (fun m hm => zini_lt (hb m hm) n (Nat.le_refl _)) n (Nat.le_refl _)
/-- what stands while step k goes through the marks -/
def zfwj (k j : Nat) (h : Nat → Nat) : Nat → Nat := fun m => if m < j ∧ (h m).testBit k then h m ||| h k else h m
theorem zfwj_k (k j : Nat) (h : Nat → Nat) : zfwj k j h k = h k := by
  unfold zfwj
  split
  · exact Nat.or_self _
  · rfl
theorem zfwj_s (k j : Nat) (h : Nat → Nat) : zfwj k (j + 1) h = zfu (zfwj k j h) j (if (h j).testBit k then h j ||| h k else h j) := by
  funext m
  unfold zfwj zfu
  by_cases e : m = j
  · subst e; simp
  · simp only [e, if_false]
    by_cases e2 : m < j
    · simp [e2, show m < j + 1 by omega]
    · rw [if_neg (by omega), if_neg (by omega)]
theorem zp_lt {n x : Nat} (hn : n ≤ 10) (h : x < 2 ^ n) : x < 1024 := Nat.lt_of_lt_of_le h (zn_pow hn)
theorem zupd_upd (f : Nat → Int32) (k : Nat) (x y : Int32) : upd (upd f k x) k y = upd f k y := by
  funext q
  unfold upd
  split <;> rfl
theorem zupd_self (f : Nat → Int32) (k : Nat) (x : Int32) (h : f k = x) : upd f k x = f := by
  funext q
  unfold upd
  split
  · rename_i e; rw [e, h]
  · rfl
theorem zarr_push (j : Nat) (h : Nat → Nat) (o : Nat → Int32) : upd (zarr j h o) j (nI (h j)) = zarr (j + 1) h o := by
  funext q
  unfold upd zarr
  by_cases e : q = j
  · simp [e]
  · by_cases e2 : q < j
    · simp [e, e2, show q < j + 1 by omega]
    · simp [e, e2, show ¬ q < j + 1 by omega]
theorem zarr_0 (h : Nat → Nat) (o : Nat → Int32) : zarr 0 h o = o := by funext q; unfold zarr; simp
theorem mfm_24 (N : Nat) (hN : 5000 ≤ N) {n : Nat} (hn : n ≤ 10) (k77 : zq_S → Option (Int32 × zq_S)) {s : zq_S} {ba ik : Nat → Nat} {er : Nat → Nat → Bool} {m : Nat} (hm : m < n) (hmk : zgf s 57 6 = nI n) (h65 : zA s 65 m = nI (ba m))
    (hi : ∀ m, m < n → zA s 63 m = nI (ik m) ∧ ik m < 4) (he : ∀ a b, a < 4 → b < 4 → zA s 69 (4 * a + b) = if er a b then 1 else 0) :
    zq_loop (bX12_findMust_24 N (nI m) k77) N (0, s) = k77 (zsA s 65 (upd (zA s 65) m (nI (zini ba ik er m n)))) := by
  have hg0 : (0, s) = (fun j => (nI j, zsA s 65 (upd (zA s 65) m (nI (zini ba ik er m j))))) 0 := by
    show _ = (nI 0, zsA s 65 (upd (zA s 65) m (nI (ba m))))
    rw [zupd_self _ _ _ h65, zsA_same]; rfl
  rw [hg0]
  refine zq_up n (fun j => (nI j, zsA s 65 (upd (zA s 65) m (nI (zini ba ik er m j))))) (fun self => ?_) (fun self j hj => ?_) N 0 (by omega) (by omega)
  · unfold bX12_findMust_24
    dsimp only
    rw [zgf_sA, hmk, if_pos (nI_le (Nat.le_refl _) (by omega))]
  · obtain ⟨e1, l1⟩ := hi j hj
    obtain ⟨e2, l2⟩ := hi m hm
    have e3 : (4 : Int32) * nI (ik j) + nI (ik m) = nI (4 * ik j + ik m) := by
      rw [show (4 : Int32) = nI 4 from rfl, pk_mul, nI_add]
    have e4 : (if (if er (ik j) (ik m) = true then (1 : Int32) else 0) = 0 then (0 : Int32) else nI (2 ^ j)) = nI (if er (ik j) (ik m) then 2 ^ j else 0) := by
      by_cases q : er (ik j) (ik m) = true
      · rw [if_pos q, if_pos q]; rfl
      · rw [if_neg q, if_neg q]; rfl
    dsimp only [bX12_findMust_24, zq_let]
    simp (disch := omega) only [zgf_sA, hmk, nI_leI, Nat.not_le_of_lt hj, if_false, zck_nI, zga_nI, zA_ne, zA_self, pk_us, e1, e2, e3, he _ _ l1 l2, zn_shl, e4, zn_or, zpa_nI, zupd_upd, zsA_sA, nI_1]
    rfl
theorem mfm_2 (N : Nat) (hN : 5000 ≤ N) {n : Nat} (hn : n ≤ 10) (k83 : zq_S → Option (Int32 × zq_S)) {s : zq_S} {ba ik : Nat → Nat} {er : Nat → Nat → Bool} (hmk : zgf s 57 6 = nI n) (hb : ∀ m, m < n → zA s 64 m = nI (ba m))
    (hi : ∀ m, m < n → zA s 63 m = nI (ik m) ∧ ik m < 4) (he : ∀ a b, a < 4 → b < 4 → zA s 69 (4 * a + b) = if er a b then 1 else 0) :
    zq_loop (bX12_findMust_2 N k83) N (0, s) = k83 (zsA s 65 (zarr n (fun m => zini ba ik er m n) (zA s 65))) := by
  have hg0 : (0, s) = (fun j => (nI j, zsA s 65 (zarr j (fun m => zini ba ik er m n) (zA s 65)))) 0 := by
    show _ = (nI 0, _)
    rw [zarr_0, zsA_same]; rfl
  rw [hg0]
  refine zq_up n (fun j => (nI j, zsA s 65 (zarr j (fun m => zini ba ik er m n) (zA s 65)))) (fun self => ?_) (fun self j hj => ?_) N 0 (by omega) (by omega)
  · unfold bX12_findMust_2
    dsimp only
    rw [zgf_sA, hmk, if_pos (nI_le (Nat.le_refl _) (by omega))]
  · dsimp only [bX12_findMust_2, zq_let]
    simp (disch := omega) only [zgf_sA, hmk, nI_leI, Nat.not_le_of_lt hj, if_false, zck_nI, zga_nI, zA_ne, hb j hj, zpa_nI, zA_self, zsA_sA]
    rw [mfm_24 N hN hn _ (ba := ba) (ik := ik) (er := er) hj (by rw [zgf_sA]; exact hmk) (by rw [zA_self, pk_us]) (fun m hm => by rw [zA_ne _ (by decide)]; exact hi m hm) (fun a b ha hb => by rw [zA_ne _ (by decide)]; exact he a b ha hb)]
    rw [zA_self, zupd_upd, zsA_sA, zarr_push j (fun m => zini ba ik er m n), nI_1]
theorem mfm_95 (N : Nat) (hN : 5000 ≤ N) {n : Nat} (hn : n ≤ 10) (k141 : zq_S → Option (Int32 × zq_S)) {s : zq_S} {o : Nat → Int32} {h : Nat → Nat} {k : Nat} (hk : k < n) (hmk : zgf s 57 6 = nI n) (h65 : zA s 65 = zarr n h o) (hh : ∀ m, m < n → h m < 2 ^ n) :
    zq_loop (bX12_findMust_95 N (nI k) k141) N (0, s) = k141 (zsA s 65 (zarr n (zfw n k h) o)) := by
  have hg0 : (0, s) = (fun j => (nI j, zsA s 65 (zarr n (zfwj k j h) o))) 0 := by
    show _ = (nI 0, _)
    have : zfwj k 0 h = h := by funext q; unfold zfwj; simp
    rw [this, ← h65, zsA_same]; rfl
  have hge : zarr n (zfw n k h) o = zarr n (zfwj k n h) o := rfl
  rw [hg0, hge]
  refine zq_up n (fun j => (nI j, zsA s 65 (zarr n (zfwj k j h) o))) (fun self => ?_) (fun self j hj => ?_) N 0 (by omega) (by omega)
  · unfold bX12_findMust_95
    dsimp only
    rw [zgf_sA, hmk, if_pos (nI_le (Nat.le_refl _) (by omega))]
  · have e1 : zfwj k j h j = h j := by unfold zfwj; rw [if_neg (by omega)]
    have b1 := zp_lt hn (hh j hj)
    dsimp only [bX12_findMust_95, zq_let, jX12_findMust_j133]
    simp (disch := omega) only [zgf_sA, hmk, nI_leI, Nat.not_le_of_lt hj, if_false, zck_nI, zga_nI, zA_self, zarr_get, e1, mX12_has_eq, zb2_some, zfwj_k, zpa_nI, zsA_sA, nI_1, zfwj_s]
    by_cases q : (h j).testBit k = true
    · simp (disch := omega) only [if_pos q, show ¬ (1 : Int32) = 0 by decide, if_false, zn_or, zarr_upd]
    · simp (disch := omega) only [if_neg q, if_true, show (0 : Int32) = nI 0 from rfl, zn_or, Nat.or_zero, zarr_upd]
theorem mfm_85 (N : Nat) (hN : 5000 ≤ N) {n : Nat} (hn : n ≤ 10) (k147 : zq_S → Option (Int32 × zq_S)) {s : zq_S} {o : Nat → Int32} {h : Nat → Nat} (hmk : zgf s 57 6 = nI n) (h65 : zA s 65 = zarr n h o) (hh : ∀ m, m < n → h m < 2 ^ n) :
    zq_loop (bX12_findMust_85 N k147) N (0, s) = k147 (zsA s 65 (zarr n (zwar n h n) o)) := by
  have hg0 : (0, s) = (fun j => (nI j, zsA s 65 (zarr n (zwar n h j) o))) 0 := by
    show _ = (nI 0, zsA s 65 (zarr n h o))
    rw [← h65, zsA_same]; rfl
  rw [hg0]
  refine zq_up n (fun j => (nI j, zsA s 65 (zarr n (zwar n h j) o))) (fun self => ?_) (fun self j hj => ?_) N 0 (by omega) (by omega)
  · unfold bX12_findMust_85
    dsimp only
    rw [zgf_sA, hmk, if_pos (nI_le (Nat.le_refl _) (by omega))]
  · dsimp only [bX12_findMust_85, zq_let]
    rw [zgf_sA, hmk, if_neg (nI_ge hj (by omega)), mfm_95 N hN hn _ hj (by rw [zgf_sA]; exact hmk) (zA_self _ _ _) (zwar_lt hh j (by omega))]
    rw [zsA_sA, nI_1]
    rfl
theorem mfm_151 (N : Nat) (hN : 5000 ≤ N) {n : Nat} (hn : n ≤ 10) {s : zq_S} {mu : Nat → Nat} (hmk : zgf s 57 6 = nI n) (h65 : ∀ m, m < n → zA s 65 m = nI (mu m)) (hh : ∀ m, m < n → mu m < 2 ^ n) :
    zq_loop (bX12_findMust_151 N) N (1, 0, s) = some (if zcy mu n then 0 else 1, zpf s 57 37 0) := by
  have hg0 : ((1 : Int32), (0 : Int32), s) = (fun j => ((if zcy mu j then (0 : Int32) else 1), nI j, s)) 0 := rfl
  rw [hg0]
  refine zq_up n (fun j => ((if zcy mu j then (0 : Int32) else 1), nI j, s)) (fun self => ?_) (fun self j hj => ?_) N 0 (by omega) (by omega)
  · unfold bX12_findMust_151
    dsimp only
    rw [hmk, if_pos (nI_le (Nat.le_refl _) (by omega))]
    unfold zq_let zq_bz
    split <;> simp
  · have b1 := zp_lt hn (hh j hj)
    dsimp only [bX12_findMust_151, zq_let, jX12_findMust_j180, jX12_findMust_j181]
    simp (disch := omega) only [hmk, nI_leI, Nat.not_le_of_lt hj, if_false, zck_nI, zga_nI, h65 j hj, mX12_has_eq, zb2_some, nI_1]
    show _ = self ((if zcy mu j || (mu j).testBit j then (0 : Int32) else 1), nI (j + 1), s)
    cases zcy mu j <;> cases (mu j).testBit j <;> simp
theorem mX12_findMust_eq (N : Nat) (hN : 5000 ≤ N) {n : Nat} (hn : n ≤ 10) {s : zq_S} {ba ik : Nat → Nat} {er : Nat → Nat → Bool} (hmk : zgf s 57 6 = nI n) (hb : ∀ m, m < n → zA s 64 m = nI (ba m)) (hbl : ∀ m, m < n → ba m < 2 ^ n)
    (hi : ∀ m, m < n → zA s 63 m = nI (ik m) ∧ ik m < 4) (he : ∀ a b, a < 4 → b < 4 → zA s 69 (4 * a + b) = if er a b then 1 else 0) :
    mX12_findMust N s = some (if zcy (zmu n ba ik er) n then 0 else 1, zpf (zsA s 65 (zarr n (zmu n ba ik er) (zA s 65))) 57 37 0) := by
  unfold mX12_findMust
  rw [mfm_2 N hN hn _ hmk hb hi he, mfm_85 N hN hn _ (by rw [zgf_sA]; exact hmk) (zA_self _ _ _) (fun m hm => zini_lt (hbl m hm) n (Nat.le_refl _)), zsA_sA]
  refine mfm_151 N hN hn (by rw [zgf_sA]; exact hmk) (fun m hm => ?_) (zmu_lt hbl)
  rw [zA_self, zarr_get _ _ hm]
  rfl
