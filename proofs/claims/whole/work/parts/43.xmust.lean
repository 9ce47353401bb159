/-! the class: Must.settle -/
theorem zs_or (b : Bool) : zs b = 2 ∨ zs b = 14 := by cases b <;> simp [zs]
theorem zini_or (ba ik : Nat → Nat) (er : Nat → Nat → Bool) (m j : Nat) : zini ba ik er m j = ba m ||| zini (fun _ => 0) ik er m j := by
  induction j with
  | zero => simp [zini]
  | succ j ih => rw [zini, zini, ih, Nat.or_assoc]
/-- bit b of mask a -/
def zer (em : Nat → Nat) (er : Nat → Nat → Bool) : Prop := ∀ a b, a < 4 → b < 4 → em a < 16 ∧ (em a).testBit b = er a b
theorem xie_4 (N : Nat) (hN : 5000 ≤ N) {n : Nat} (hn : n ≤ 10) {s : zq_S} {ik em : Nat → Nat} {er : Nat → Nat → Bool} {m : Nat} (hm : m < n) (hmk : zgf s (zs (zgb s 3)) 7 = nI n)
    (hi : ∀ m, m < n → zA s 32 m = nI (ik m) ∧ ik m < 4) (he : ∀ a, a < 4 → zA s 33 a = nI (em a)) (hr : zer em er) :
    mX3_inEarlierInks N (nI m) s = some (nI (zini (fun _ => 0) ik er m n), s) := by
  unfold mX3_inEarlierInks
  have hg0 : ((0 : Int32), (0 : Int32), s) = (fun j => (nI (zini (fun _ => 0) ik er m j), nI j, s)) 0 := rfl
  rw [hg0]
  refine zq_up n (fun j => (nI (zini (fun _ => 0) ik er m j), nI j, s)) (fun self => ?_) (fun self j hj => ?_) N 0 (by omega) (by omega)
  · dsimp only [bX3_inEarlierInks_4]
    rw [hmk, if_pos (nI_le (Nat.le_refl _) (by omega))]
  · obtain ⟨e1, l1⟩ := hi j hj
    obtain ⟨e2, l2⟩ := hi m hm
    obtain ⟨e3, e4⟩ := hr _ _ l1 l2
    dsimp only [bX3_inEarlierInks_4, zq_let]
    simp (disch := omega) only [hmk, nI_leI, Nat.not_le_of_lt hj, if_false, zck_nI, zga_nI, e1, e2, he _ l1, zn_bit, e4, zn_shl, zn_or, nI_1]
    congr 2
    show _ = nI (zini (fun _ => 0) ik er m j ||| (if er (ik j) (ik m) then 2 ^ j else 0))
    cases er (ik j) (ik m) <;> simp
theorem xst_2 (N : Nat) (hN : 5000 ≤ N) {n : Nat} (hn : n ≤ 10) (k40 : zq_S → Option (Int32 × zq_S)) {s : zq_S} {ba ik em : Nat → Nat} {er : Nat → Nat → Bool} {b : Bool} (hp : zgb s 3 = b) (hmk : zgf s (zs b) 7 = nI n) (hb : ∀ m, m < n → zA s (zs b + 6) m = nI (ba m))
    (hi : ∀ m, m < n → zA s 32 m = nI (ik m) ∧ ik m < 4) (he : ∀ a, a < 4 → zA s 33 a = nI (em a)) (hr : zer em er) :
    zq_loop (bX3_settle_2 N k40) N (0, s) = k40 (zsA s 36 (zarr n (fun m => zini ba ik er m n) (zA s 36))) := by
  have hz := zs_or b
  have hg0 : (0, s) = (fun j => (nI j, zsA s 36 (zarr j (fun m => zini ba ik er m n) (zA s 36)))) 0 := by
    show _ = (nI 0, _)
    rw [zarr_0, zsA_same]; rfl
  rw [hg0]
  refine zq_up n (fun j => (nI j, zsA s 36 (zarr j (fun m => zini ba ik er m n) (zA s 36)))) (fun self => ?_) (fun self j hj => ?_) N 0 (by omega) (by omega)
  · dsimp only [bX3_settle_2]
    rw [zgf_sA, zgb_sA, hp, hmk, if_pos (nI_le (Nat.le_refl _) (by omega))]
  · dsimp only [bX3_settle_2, zq_let]
    rw [xie_4 N hN hn (ik := ik) (em := em) (er := er) hj (by rw [zgf_sA, zgb_sA, hp]; exact hmk) (fun m hm => by rw [zA_ne _ (by decide)]; exact hi m hm) (fun a ha => by rw [zA_ne _ (by decide)]; exact he a ha) hr, zb2_some]
    simp (disch := omega) only [zgf_sA, zgb_sA, hp, hmk, nI_leI, Nat.not_le_of_lt hj, if_false, zck_nI, zga_nI, zA_ne, hb j hj, zn_or, zpa_nI, zA_self, zsA_sA, nI_1, ← zini_or]
    rw [zarr_push j (fun m => zini ba ik er m n)]
theorem xst_55 (N : Nat) (hN : 5000 ≤ N) {n : Nat} (hn : n ≤ 10) (k100 : zq_S → Option (Int32 × zq_S)) {s : zq_S} {o : Nat → Int32} {h : Nat → Nat} {k : Nat} {b : Bool} (hk : k < n) (hp : zgb s 3 = b) (hmk : zgf s (zs b) 7 = nI n) (h36 : zA s 36 = zarr n h o) (hh : ∀ m, m < n → h m < 2 ^ n) :
    zq_loop (bX3_settle_55 N (nI k) k100) N (0, s) = k100 (zsA s 36 (zarr n (zfw n k h) o)) := by
  have hg0 : (0, s) = (fun j => (nI j, zsA s 36 (zarr n (zfwj k j h) o))) 0 := by
    show _ = (nI 0, _)
    have : zfwj k 0 h = h := by funext q; unfold zfwj; simp
    rw [this, ← h36, zsA_same]; rfl
  have hge : zarr n (zfw n k h) o = zarr n (zfwj k n h) o := rfl
  rw [hg0, hge]
  refine zq_up n (fun j => (nI j, zsA s 36 (zarr n (zfwj k j h) o))) (fun self => ?_) (fun self j hj => ?_) N 0 (by omega) (by omega)
  · dsimp only [bX3_settle_55]
    rw [zgf_sA, zgb_sA, hp, hmk, if_pos (nI_le (Nat.le_refl _) (by omega))]
  · have e1 : zfwj k j h j = h j := by unfold zfwj; rw [if_neg (by omega)]
    have b1 := zp_lt hn (hh j hj)
    dsimp only [bX3_settle_55, zq_let, jX3_settle_j94]
    simp (disch := omega) only [zgf_sA, zgb_sA, hp, hmk, nI_leI, Nat.not_le_of_lt hj, if_false, zck_nI, zga_nI, zA_self, zarr_get, e1, zn_bit, zfwj_k, zpa_nI, zsA_sA, nI_1, zfwj_s]
    by_cases q : (h j).testBit k = true
    · simp (disch := omega) only [if_pos q, show ¬ (1 : Int32) = 0 by decide, if_false, zn_or, zarr_upd]
    · simp (disch := omega) only [if_neg q, if_true]
      congr 3
      refine zarr_congr _ (fun m hm => ?_)
      unfold zfu
      by_cases e : m = j
      · rw [if_pos e, e, e1]
      · rw [if_neg e]
theorem xst_42 (N : Nat) (hN : 5000 ≤ N) {n : Nat} (hn : n ≤ 10) (k106 : zq_S → Option (Int32 × zq_S)) {s : zq_S} {o : Nat → Int32} {h : Nat → Nat} {b : Bool} (hp : zgb s 3 = b) (hmk : zgf s (zs b) 7 = nI n) (h36 : zA s 36 = zarr n h o) (hh : ∀ m, m < n → h m < 2 ^ n) :
    zq_loop (bX3_settle_42 N k106) N (0, s) = k106 (zsA s 36 (zarr n (zwar n h n) o)) := by
  have hg0 : (0, s) = (fun j => (nI j, zsA s 36 (zarr n (zwar n h j) o))) 0 := by
    show _ = (nI 0, zsA s 36 (zarr n h o))
    rw [← h36, zsA_same]; rfl
  rw [hg0]
  refine zq_up n (fun j => (nI j, zsA s 36 (zarr n (zwar n h j) o))) (fun self => ?_) (fun self j hj => ?_) N 0 (by omega) (by omega)
  · dsimp only [bX3_settle_42]
    rw [zgf_sA, zgb_sA, hp, hmk, if_pos (nI_le (Nat.le_refl _) (by omega))]
  · dsimp only [bX3_settle_42, zq_let]
    rw [zgf_sA, zgb_sA, hp, hmk, if_neg (nI_ge hj (by omega)), xst_55 N hN hn _ (b := b) hj (by rw [zgb_sA]; exact hp) (by rw [zgf_sA]; exact hmk) (zA_self _ _ _) (zwar_lt hh j (by omega))]
    rw [zsA_sA, nI_1]
    rfl
/-- the marks below j that must be behind k -/
def zbh (mu : Nat → Nat) (k : Nat) : Nat → Nat
  | 0 => 0
  | j + 1 => zbh mu k j ||| (if (mu j).testBit k then 2 ^ j else 0)
theorem zbh_lt {n : Nat} (mu : Nat → Nat) (k : Nat) : ∀ j, j ≤ n → zbh mu k j < 2 ^ n := by
  intro j
  induction j with
  | zero => exact fun _ => Nat.pow_pos (by decide)
  | succ j ih =>
    intro hj
    refine Nat.or_lt_two_pow (ih (by omega)) ?_
    split
    · exact Nat.pow_lt_pow_right (by decide) (by omega)
    · exact Nat.pow_pos (by decide)
/-- what stands while mark m is handed on, before place j -/
def zbhj (mu : Nat → Nat) (m j : Nat) : Nat → Nat := fun q => if q < j then zbh mu q (m + 1) else zbh mu q m
theorem xkt_35 (N : Nat) (hN : 5000 ≤ N) {n : Nat} (hn : n ≤ 10) (k77 : zq_S → Option (Unit × zq_S)) {s : zq_S} {o : Nat → Int32} {mu : Nat → Nat} {m : Nat} {b : Bool} (hm : m < n) (hp : zgb s 3 = b) (hmk : zgf s (zs b) 7 = nI n) (h36 : ∀ m, m < n → zA s 36 m = nI (mu m)) (hh : ∀ m, m < n → mu m < 2 ^ n) (h35 : zA s 35 = zarr n (fun q => zbh mu q m) o) :
    zq_loop (bX3_keepTrial_35 N (nI m) k77) N (0, s) = k77 (zsA s 35 (zarr n (fun q => zbh mu q (m + 1)) o)) := by
  have hg0 : (0, s) = (fun j => (nI j, zsA s 35 (zarr n (zbhj mu m j) o))) 0 := by
    show _ = (nI 0, _)
    have : zbhj mu m 0 = fun q => zbh mu q m := by funext q; unfold zbhj; simp
    rw [this, ← h35, zsA_same]; rfl
  have hge : zarr n (fun q => zbh mu q (m + 1)) o = zarr n (zbhj mu m n) o := zarr_congr _ (fun q hq => by unfold zbhj; rw [if_pos hq])
  rw [hg0, hge]
  refine zq_up n (fun j => (nI j, zsA s 35 (zarr n (zbhj mu m j) o))) (fun self => ?_) (fun self j hj => ?_) N 0 (by omega) (by omega)
  · dsimp only [bX3_keepTrial_35]
    rw [zgf_sA, zgb_sA, hp, hmk, if_pos (nI_le (Nat.le_refl _) (by omega))]
  · have b1 := zp_lt hn (hh m hm)
    have e1 : zbhj mu m j j = zbh mu j m := by unfold zbhj; rw [if_neg (by omega)]
    have e2 : zbhj mu m (j + 1) = zfu (zbhj mu m j) j (zbh mu j m ||| (if (mu m).testBit j then 2 ^ m else 0)) := by
      funext q
      unfold zbhj zfu
      by_cases e : q = j
      · simp [e]; rfl
      · simp only [e, if_false]
        by_cases e3 : q < j
        · rw [if_pos e3, if_pos (by omega)]
        · rw [if_neg e3, if_neg (by omega)]
    dsimp only [bX3_keepTrial_35, zq_let, jX3_keepTrial_j71]
    simp (disch := omega) only [zgf_sA, zgb_sA, hp, hmk, nI_leI, Nat.not_le_of_lt hj, if_false, zck_nI, zga_nI, zA_ne, zA_self, zarr_get, h36 m hm, zn_bit, e1, zn_shl, zn_or, zpa_nI, zsA_sA, nI_1, e2, zarr_upd]
    by_cases q : (mu m).testBit j = true
    · simp (disch := omega) only [if_pos q, show ¬ (1 : Int32) = 0 by decide, if_false]
    · simp (disch := omega) only [if_neg q, if_true, Nat.or_zero]
      congr 3
      refine zarr_congr _ (fun r hr => ?_)
      unfold zfu
      by_cases e : r = j
      · rw [if_pos e, e, e1]
      · rw [if_neg e]
theorem xkt_10 (N : Nat) (hN : 5000 ≤ N) {n : Nat} (hn : n ≤ 10) {s : zq_S} {o : Nat → Int32} {mu : Nat → Nat} {b : Bool} (hp : zgb s 3 = b) (hmk : zgf s (zs b) 7 = nI n) (h36 : ∀ m, m < n → zA s 36 m = nI (mu m)) (hh : ∀ m, m < n → mu m < 2 ^ n) (h35 : zA s 35 = zarr n (fun q => zbh mu q 0) o) :
    zq_loop (bX3_keepTrial_10 N) N (0, s) = some ((), zpf (zsA (zsA s 34 (zarr n mu (zA s 34))) 35 (zarr n (fun q => zbh mu q n) o)) 31 8 (zgf s 31 8 + 1)) := by
  have hz := zs_or b
  have hg0 : (0, s) = (fun j => (nI j, zsA (zsA s 34 (zarr j mu (zA s 34))) 35 (zarr n (fun q => zbh mu q j) o))) 0 := by
    show _ = (nI 0, _)
    rw [zarr_0, zsA_same, ← h35, zsA_same]; rfl
  rw [hg0]
  refine zq_up n (fun j => (nI j, zsA (zsA s 34 (zarr j mu (zA s 34))) 35 (zarr n (fun q => zbh mu q j) o))) (fun self => ?_) (fun self j hj => ?_) N 0 (by omega) (by omega)
  · dsimp only [bX3_keepTrial_10, zq_let]
    rw [zgf_sA, zgf_sA, zgb_sA, zgb_sA, hp, hmk, if_pos (nI_le (Nat.le_refl _) (by omega)), zgf_sA, zgf_sA]
  · dsimp only [bX3_keepTrial_10, zq_let]
    simp (disch := omega) only [zgf_sA, zgb_sA, hp, hmk, nI_leI, Nat.not_le_of_lt hj, if_false, zck_nI, zga_nI, zA_ne, h36 j hj, zpa_nI, zA_self]
    have e1 : zsA (zsA (zsA s 34 (zarr j mu (zA s 34))) 35 (zarr n (fun q => zbh mu q j) o)) 34 (upd (zarr j mu (zA s 34)) j (nI (mu j))) = zsA (zsA s 34 (zarr (j + 1) mu (zA s 34))) 35 (zarr n (fun q => zbh mu q j) o) := by
      rw [zarr_push]
      refine zs_ext (fun _ _ => rfl) (fun _ => rfl) (fun a => ?_) (fun _ => rfl)
      simp only [zA_sA]
      by_cases q : a = 34
      · simp [q]
      · simp [q]
    rw [e1, xkt_35 N hN hn _ (b := b) (mu := mu) (o := o) hj (by rw [zgb_sA, zgb_sA]; exact hp) (by rw [zgf_sA, zgf_sA]; exact hmk) (fun m hm => by rw [zA_ne _ (by decide), zA_ne _ (by decide)]; exact h36 m hm) hh (zA_self _ _ _), zsA_sA, nI_1]
theorem mX3_keepTrial_eq (N : Nat) (hN : 5000 ≤ N) {n : Nat} (hn : n ≤ 10) {s : zq_S} {mu : Nat → Nat} {b : Bool} (hp : zgb s 3 = b) (hmk : zgf s (zs b) 7 = nI n) (h36 : ∀ m, m < n → zA s 36 m = nI (mu m)) (hh : ∀ m, m < n → mu m < 2 ^ n) :
    ∃ o : Nat → Int32, mX3_keepTrial N s = some ((), zpf (zsA (zsA s 34 (zarr n mu (zA s 34))) 35 (zarr n (fun q => zbh mu q n) o)) 31 8 (zgf s 31 8 + 1)) := by
  have hz := zs_or b
  dsimp only [mX3_keepTrial, zq_let]
  refine ⟨fun j => if j < 10 then (0 : Int32) else zA s 35 j, ?_⟩
  rw [zpfi_eq, xkt_10 N hN hn (b := b) (mu := mu) (o := fun j => if j < 10 then (0 : Int32) else zA s 35 j) (by rw [zgb_sA]; exact hp) (by rw [zgf_sA]; exact hmk) (fun m hm => by rw [zA_ne _ (by decide)]; exact h36 m hm) hh ?_]
  · congr 3
    rw [zA_ne _ (by decide)]
    refine zs_ext (fun _ _ => rfl) (fun _ => rfl) (fun a => ?_) (fun _ => rfl)
    simp only [zA_sA]
    by_cases q : a = 35
    · simp [q]
    · simp [q]
  · rw [zA_self]
    funext q
    unfold zarr
    by_cases hq : q < n
    · rw [if_pos hq, if_pos (by omega)]; rfl
    · rw [if_neg hq]
/-- settle, some mark behind itself: only the trial row changed -/
theorem mX3_settle_eq (N : Nat) (hN : 5000 ≤ N) {n : Nat} (hn : n ≤ 10) {s : zq_S} {ba ik em : Nat → Nat} {er : Nat → Nat → Bool} {b : Bool} (hp : zgb s 3 = b) (hmk : zgf s (zs b) 7 = nI n) (hb : ∀ m, m < n → zA s (zs b + 6) m = nI (ba m)) (hbl : ∀ m, m < n → ba m < 2 ^ n)
    (hi : ∀ m, m < n → zA s 32 m = nI (ik m) ∧ ik m < 4) (he : ∀ a, a < 4 → zA s 33 a = nI (em a)) (hr : zer em er) :
    ∃ f o : Nat → Int32, mX3_settle N s = if zcy (zmu n ba ik er) n then some (0, zsA s 36 f) else some (1, zpf (zsA (zsA (zsA s 36 f) 34 (zarr n (zmu n ba ik er) (zA s 34))) 35 (zarr n (fun q => zbh (zmu n ba ik er) q n) o)) 31 8 (zgf s 31 8 + 1)) := by
  have hz := zs_or b
  have hmu := zmu_lt (n := n) (ik := ik) (er := er) hbl
  obtain ⟨o, ho⟩ := mX3_keepTrial_eq N hN hn (s := zsA s 36 (zarr n (zmu n ba ik er) (zA s 36))) (mu := zmu n ba ik er) (b := b) (by rw [zgb_sA]; exact hp) (by rw [zgf_sA]; exact hmk) (fun m hm => by rw [zA_self, zarr_get _ _ hm]) hmu
  refine ⟨zarr n (zmu n ba ik er) (zA s 36), o, ?_⟩
  unfold mX3_settle
  rw [xst_2 N hN hn _ hp hmk hb hi he hr, xst_42 N hN hn _ (b := b) (by rw [zgb_sA]; exact hp) (by rw [zgf_sA]; exact hmk) (zA_self _ _ _) (fun m hm => zini_lt (hbl m hm) n (Nat.le_refl _)), zsA_sA]
  have key : ∀ (d j : Nat) (M : Nat), j + d = n → d < M → zcy (zmu n ba ik er) j = false → zq_loop (bX3_settle_108 N) M (nI j, zsA s 36 (zarr n (zmu n ba ik er) (zA s 36))) = if zcy (zmu n ba ik er) n then some (0, zsA s 36 (zarr n (zmu n ba ik er) (zA s 36))) else some (1, zpf (zsA (zsA (zsA s 36 (zarr n (zmu n ba ik er) (zA s 36))) 34 (zarr n (zmu n ba ik er) (zA s 34))) 35 (zarr n (fun q => zbh (zmu n ba ik er) q n) o)) 31 8 (zgf s 31 8 + 1)) := by
    intro d
    induction d with
    | zero =>
      intro j M hj hM hc
      obtain ⟨M, rfl⟩ : ∃ M', M = M' + 1 := ⟨M - 1, by omega⟩
      have e : j = n := by omega
      subst e
      rw [zq_loop_s, hc]
      dsimp only [bX3_settle_108]
      rw [zgf_sA, zgb_sA, hp, hmk, if_pos (nI_le (Nat.le_refl _) (by omega)), ho, zb2_some, zA_ne _ (by decide)]
      rfl
    | succ d ih =>
      intro j M hj hM hc
      obtain ⟨M, rfl⟩ : ∃ M', M = M' + 1 := ⟨M - 1, by omega⟩
      have hjn : j < n := by omega
      have b1 := zp_lt hn (hmu j hjn)
      have ih2 := ih (j + 1) M (by omega) (by omega)
      rw [zq_loop_s]
      dsimp only [bX3_settle_108, zq_let]
      simp (disch := omega) only [zgf_sA, zgb_sA, hp, hmk, nI_leI, Nat.not_le_of_lt hjn, if_false, zck_nI, zga_nI, zA_self, zarr_get, zn_bit, nI_1]
      by_cases q : (zmu n ba ik er j).testBit j = true
      · have hcn : ∀ r, zcy (zmu n ba ik er) (j + 1 + r) = true := by
          intro r
          induction r with
          | zero => show (zcy (zmu n ba ik er) j || _) = true; rw [q, Bool.or_true]
          | succ r ihr => show (zcy (zmu n ba ik er) (j + 1 + r) || _) = true; rw [ihr, Bool.true_or]
        have := hcn (n - (j + 1))
        rw [show j + 1 + (n - (j + 1)) = n by omega] at this
        simp only [if_pos q, show ¬ (1 : Int32) = 0 by decide, if_false, this, if_true]
      · rw [if_neg q, if_pos rfl]
        refine ih2 ?_
        show (zcy (zmu n ba ik er) j || _) = false
        rw [hc]
        simpa using q
  exact key n 0 N (by omega) (by omega) rfl
