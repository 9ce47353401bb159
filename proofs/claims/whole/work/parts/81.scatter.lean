/-! the class's scatter: a number below 2048, like for like rows -/
theorem zsgn (y : Int64) : zbt y 63 = decide (y < 0) := by
  have h := BitVec.msb_eq_toInt (x := y.toBitVec)
  rw [BitVec.msb_eq_getLsbD_last] at h
  show y.toBitVec.getLsbD 63 = _
  rw [h]
  exact decide_eq_decide.mpr (by rw [Int64.lt_iff_toInt_lt]; rfl)
theorem zbm {z : Int} (h1 : -(2 ^ 62) ≤ z) (h2 : z ≤ 2 ^ 62) : z.bmod (2 ^ 64) = z := Int.bmod_eq_of_le (by omega) (by omega)
theorem zfmod (N : Nat) (x : Int64) (s : zq_S) : ∃ r, r < 2048 ∧ mJ9_floorMod_f86c9 N x (Int32.toInt64 2048) s = some (lN r, s) := by
  have e2 : Int32.toInt64 2048 = lN 2048 := by decide
  rw [e2]
  unfold mJ9_floorMod_f86c9 zq_nz
  rw [if_neg (show ¬ lN 2048 = 0 by decide)]
  dsimp only [zq_let]
  have hs : (0 : Int32) ≤ lg_cmp (x ^^^ lN 2048) 0 ↔ ¬ x < 0 := by
    rw [lgc_ge0]
    have h1 := zsgn (x ^^^ lN 2048)
    rw [zbt_xor, zsgn x, show zbt (lN 2048) 63 = false by decide, Bool.xor_false] at h1
    have h2 : x < 0 ↔ x ^^^ lN 2048 < 0 := by
      by_cases q : x < 0
      · rw [decide_eq_true q] at h1
        exact ⟨fun _ => of_decide_eq_true h1.symm, fun _ => q⟩
      · rw [decide_eq_false q] at h1
        exact ⟨fun z => absurd z q, fun z => absurd z (of_decide_eq_false h1.symm)⟩
    rw [h2, Int64.le_iff_toInt_le, Int64.lt_iff_toInt_lt]
    omega
  by_cases q : x < 0
  · rw [if_neg (fun z => (hs.mp z) q)]
    have hX : x.toInt < 0 := by rw [Int64.lt_iff_toInt_lt] at q; exact q
    have hl := Int64.le_toInt x
    have t1 : (lN 2048).toInt = 2048 := by decide
    have d1 : (x / lN 2048).toInt = x.toInt.tdiv 2048 := by
      rw [Int64.toInt_div_of_ne_right _ _ (by decide), t1]
    have d2 : x.toInt.tdiv 2048 * 2048 = x.toInt - x.toInt.tmod 2048 := by
      have := Int.mul_tdiv_add_tmod x.toInt 2048
      omega
    have m1 : -2048 < x.toInt.tmod 2048 ∧ x.toInt.tmod 2048 ≤ 0 := by
      have e : x.toInt.tmod 2048 = - ((-x.toInt).tmod 2048) := by rw [Int.neg_tmod, Int.neg_neg]
      have a := Int.tmod_lt_of_pos (-x.toInt) (show (0 : Int) < 2048 by decide)
      have b := Int.tmod_nonneg (a := -x.toInt) 2048 (by omega)
      omega
    have d3 : (x / lN 2048 * lN 2048).toInt = x.toInt - x.toInt.tmod 2048 := by
      rw [Int64.toInt_mul, d1, t1, d2]
      exact Int.bmod_eq_of_le (by omega) (by omega)
    have d4 : (x - x / lN 2048 * lN 2048).toInt = x.toInt.tmod 2048 := by
      rw [Int64.toInt_sub, d3]
      rw [show x.toInt - (x.toInt - x.toInt.tmod 2048) = x.toInt.tmod 2048 by omega]
      exact Int.bmod_eq_of_le (by omega) (by omega)
    by_cases q2 : x - x / lN 2048 * lN 2048 = 0
    · rw [if_pos ((lgc_eq _ _).mpr q2)]
      unfold jJ9_floorMod_f86c9_j25
      exact ⟨0, by decide, by rw [q2]; rfl⟩
    · rw [if_neg (fun z => q2 ((lgc_eq _ _).mp z))]
      have ne : x.toInt.tmod 2048 ≠ 0 := fun z => q2 (by
        rw [← Int64.toInt_inj, d4, z]; rfl)
      refine ⟨(x.toInt.tmod 2048 + 2048).toNat, by omega, ?_⟩
      have e5 : x - x / lN 2048 * lN 2048 + lN 2048 = lN (x.toInt.tmod 2048 + 2048).toNat := by
        rw [← Int64.toInt_inj, Int64.toInt_add, d4, t1, pk_lT (by omega)]
        rw [Int.bmod_eq_of_le (by omega) (by omega)]
        omega
      rw [e5]
  · rw [if_pos (hs.mpr q)]
    obtain ⟨k, hk, rfl⟩ := pk_lOf q
    unfold jJ9_floorMod_f86c9_j25
    exact ⟨k % 2048, by omega, by rw [pk_lRem hk (by decide) (by decide)]⟩
/-- mixing: the five longs f from v on -/
def zmx (v : Int64) (f : Nat → Int64) : Nat → Int64
  | 0 => v
  | k + 1 => ((zmx v f k ^^^ f k) * (-7046029254386353131 : Int64)) ^^^ ((Int64.toUInt64 ((zmx v f k ^^^ f k) * (-7046029254386353131 : Int64)) >>> ((Int32.toInt64 (29 : Int32)).toUInt64 &&& Int64.toUInt64 63)).toInt64)
theorem zmx_congr (v : Int64) {f h : Nat → Int64} : ∀ k, (∀ q, q < k → f q = h q) → zmx v f k = zmx v h k := by
  intro k
  induction k with
  | zero => intro _; rfl
  | succ k ih =>
    intro e
    unfold zmx
    rw [ih (fun q hq => e q (by omega)), e k (by omega)]
def zst0 : zq_S := (fun _ _ => 0, fun _ => false, fun _ _ => 0, fun _ _ => 0)
/-- the place of a text -/
noncomputable def zsc (ws : List Nat) : Nat := Classical.choose (zfmod 0 (zmx (Int32.toInt64 (nI ws.length)) (zpq (zgt ws) ws.length) 5) zst0)
theorem zsc_lt (ws : List Nat) : zsc ws < 2048 := (Classical.choose_spec (zfmod 0 (zmx (Int32.toInt64 (nI ws.length)) (zpq (zgt ws) ws.length) 5) zst0)).1
theorem zfm_any (N M : Nat) (x y : Int64) (s t : zq_S) {r : Int64} (h : mJ9_floorMod_f86c9 N x y s = some (r, s)) : mJ9_floorMod_f86c9 M x y t = some (r, t) := by
  unfold mJ9_floorMod_f86c9 zq_nz jJ9_floorMod_f86c9_j25 at h ⊢
  dsimp only [zq_let] at h ⊢
  split at h
  · cases h
  · rename_i a
    rw [if_neg a]
    split at h
    · rename_i b
      rw [if_pos b]
      have := congrArg Prod.fst (Option.some.inj h)
      dsimp only at this
      rw [this]
    · rename_i b
      rw [if_neg b]
      split at h
      · rename_i c
        rw [if_pos c]
        have := congrArg Prod.fst (Option.some.inj h)
        dsimp only at this
        rw [this]
      · rename_i c
        rw [if_neg c]
        have := congrArg Prod.fst (Option.some.inj h)
        dsimp only at this
        rw [this]
theorem zsc_eq (N : Nat) (ws : List Nat) (s : zq_S) : mJ9_floorMod_f86c9 N (zmx (Int32.toInt64 (nI ws.length)) (zpq (zgt ws) ws.length) 5) (Int32.toInt64 2048) s = some (lN (zsc ws), s) :=
  zfm_any _ _ _ _ _ _ (Classical.choose_spec (zfmod 0 (zmx (Int32.toInt64 (nI ws.length)) (zpq (zgt ws) ws.length) 5) zst0)).2
theorem mX8_scatter_eq (N : Nat) (hN : 5000 ≤ N) {s : zq_S} (hF : zgf s (zf false) 0 = nI (zfS false)) {r : Nat} {ws : List Nat} (hr : r < zfS false) (h : zRow false s r ws.length (zgt ws)) :
    mX8_scatter N false (nI r) 2048 s = some (nI (zsc ws), s) := by
  have hr' : r < 1024 := hr
  have hk := h.2.1
  have hw := h.2.2.1
  have key := (zRw_ext h.2.2.2 (zpq_rw ws.length hk (fun k hk' => by have := hw k hk'; omega)) hk (fun i hi => by have := hw i hi; omega) (fun i hi => by have := hw i hi; omega)).mpr (fun _ _ => rfl)
  unfold mX8_scatter
  rw [mX8_isMade_row N hF hr h, zb2_some]
  dsimp only [zq_let]
  rw [if_neg (show ¬ (1 : Int32) = 0 by decide), if_pos (by decide), zck_nI hr (by decide), zga_nI _ _ (by omega), h.1]
  refine zq_up 5 (fun j => (zmx (Int32.toInt64 (nI ws.length)) (fun q => zL s (zf false + 1) (5 * r + q)) j, nI j, s)) (fun self => ?_) (fun self j hj => ?_) N 0 (by omega) (by omega)
  · dsimp only [bX8_scatter_26]
    rw [if_pos (by decide), zmx_congr _ 5 key, zsc_eq, zb2_some]
    dsimp only
    rw [lN_i]
  · dsimp only [bX8_scatter_26, zq_let]
    rw [if_neg (by rw [show (5 : Int32) = nI 5 from rfl, nI_leI (by omega) (by omega)]; omega), zn_mul5, nI_add, zck_nI (show 5 * r + j < zfP false by show 5 * r + j < 5120; omega) (by decide), zgl_nI _ _ (by omega), nI_1]
    rfl
