/-! when -/
def zoe (a : Option Nat) : Int32 := match a with
  | none => -1
  | some R => nI R
def zfur (lat : Bool) (a : Option Nat) (S : Nat) : Bool := match a with
  | none => true
  | some R => if lat then decide (zbc R 10 < zbc S 10) else decide (zbc S 10 < zbc R 10)
def zwh (g : zG) (c : Nat) (lat : Bool) (a : Option Nat) (S : Nat) : Option Nat := if 0 < zuT g c S ∧ 0 < zdT g (g.cp.length - 1 - c) S ∧ zfur lat a S = true then some S else a
theorem zwh_mem {g : zG} {c : Nat} {lat : Bool} : ∀ (L : List Nat) (a : Option Nat) (R : Nat), L.foldl (zwh g c lat) a = some R → a = some R ∨ R ∈ L := by
  intro L
  induction L with
  | nil => exact fun a R h => Or.inl h
  | cons S L ih =>
    intro a R h
    rw [List.foldl_cons] at h
    rcases ih _ R h with q | q
    · unfold zwh at q
      split at q
      · cases q; exact Or.inr List.mem_cons_self
      · exact Or.inl q
    · exact Or.inr (List.mem_cons_of_mem _ q)
theorem zsub_nI {a b : Nat} (ha : a ≤ 10) (hb : b ≤ 10) : (nI a - nI b ≤ 0 ↔ a ≤ b) ∧ (0 ≤ nI a - nI b ↔ b ≤ a) := by
  have e : (nI a - nI b).toInt = (a : Int) - b := pk_sub_toInt (by omega) (by omega)
  rw [Int32.le_iff_toInt_le, Int32.le_iff_toInt_le, e, Int32.toInt_zero]
  constructor <;> omega
theorem zoe_n : zoe none = -1 := rfl
theorem zoe_s (R : Nat) : zoe (some R) = nI R := rfl
theorem mX1_isFurther_eq (N : Nat) {S : Nat} (hS : S < 1024) {a : Option Nat} (ha : ∀ R, a = some R → R < 1024) (lat : Bool) (s : zq_S) :
    mX1_isFurther N (nI S) (zoe a) (if lat then 1 else 0) s = some (if zfur lat a S then 1 else 0, s) := by
  have b1 := zbc_le S 10
  have m0 : ∀ x : Int32, mJ9_max_7cf53 N 0 x s = some (if 0 < x then x else 0, s) := fun x => rfl
  cases a with
  | none =>
    rw [zoe_n]
    unfold mX1_isFurther
    have e0 : mJ6_bitCount_0f7a4 N 0 s = some (nI (zbc 0 10), s) := mJ6_bc N (S := 0) (by decide) s
    rw [mJ6_bc N hS, zb2_some]
    dsimp only
    rw [m0, if_neg (show ¬ (0 : Int32) < -1 by decide), zb2_some]
    dsimp only
    rw [e0, zb2_some]
    dsimp only [zq_let]
    rw [if_pos rfl, zb_1]
    rfl
  | some R =>
    have hR := ha R rfl
    have b2 := zbc_le R 10
    rw [zoe_s]
    unfold mX1_isFurther
    have e : (if (0 : Int32) < nI R then nI R else 0) = nI R := by
      by_cases q : (0 : Int32) < nI R
      · rw [if_pos q]
      · rw [if_neg q]
        rw [show (0 : Int32) = nI 0 from rfl, nI_ltI (by decide) (by omega)] at q
        rw [show R = 0 by omega]; rfl
    rw [mJ6_bc N hS, zb2_some]
    dsimp only
    rw [m0, e, zb2_some]
    dsimp only
    rw [mJ6_bc N hR, zb2_some]
    dsimp only [zq_let]
    obtain ⟨s1, s2⟩ := zsub_nI b1 b2
    rw [if_neg (nI_nm1 (by omega))]
    cases lat with
    | false =>
      rw [zif_f]
      have ez : zfur false (some R) S = decide (zbc S 10 < zbc R 10) := rfl
      rw [ez]
      by_cases q : zbc S 10 < zbc R 10
      · rw [if_neg (fun z => by have := s2.mp z; omega), zb_1]
        simp [q]
      · rw [if_pos (s2.mpr (by omega)), zb_0]
        simp [q]
    | true =>
      rw [zif_t]
      have ez : zfur true (some R) S = decide (zbc R 10 < zbc S 10) := rfl
      rw [ez]
      by_cases q : zbc R 10 < zbc S 10
      · rw [if_neg (fun z => by have := s1.mp z; omega), zb_1]
        simp [q]
      · rw [if_pos (s1.mpr (by omega)), zb_0]
        simp [q]
theorem zlgc0 {α : Type} (x : Int64) (a b : α) : (if lg_cmp x 0 ≤ 0 then a else b) = if 0 < x then b else a := by
  by_cases q : (0 : Int64) < x
  · rw [if_pos q, if_neg]
    intro z
    have := (lgc_le x 0).mp z
    rw [Int64.le_iff_toInt_le] at this
    rw [Int64.lt_iff_toInt_lt] at q
    omega
  · rw [if_neg q, if_pos]
    refine (lgc_le x 0).mpr ?_
    rw [Int64.le_iff_toInt_le]
    rw [Int64.lt_iff_toInt_lt] at q
    omega
theorem xw_outer (N : Nat) (hN : 5000 ≤ N) {g : zG} {s : zq_S} (h : zXI g s) {c : Nat} (hc : c < g.cp.length) (lat : Bool) :
    zw (mX1_outermost N (nI c) (if lat then 1 else 0) s) (fun v => v.1 = zoe ((zgL g.mu g.n (2 ^ g.n)).foldl (zwh g c lat) none) ∧ zXI g v.2 ∧ zXR' s v.2) := by
  have hn := h.W.n
  have hp := zn_pow hn
  have hl := zgL_len_le g.mu g.n (2 ^ g.n)
  unfold mX1_outermost
  refine zw_call (xw_upTo N hN h hc) (fun r t ⟨k1, k2, k3⟩ => ?_)
  refine zw_call (xw_from N hN k1 hc) (fun r t2 ⟨l1, l2, l3, l4⟩ => ?_)
  dsimp only at k1 k2 k3 l1 l2 l3 l4
  refine zw_cnt (zgL g.mu g.n (2 ^ g.n)).length (fun j v => ∃ t', v = (zoe (((zgL g.mu g.n (2 ^ g.n)).take j).foldl (zwh g c lat) none), nI j, t') ∧ zXI g t' ∧ zXG t2 t') ?_ ?_ N 0 _ (by omega) (by omega) ⟨t2, rfl, l1, zfr_rfl⟩
  · rintro self v ⟨t', rfl, ht, hq⟩
    dsimp only [bX1_outermost_15]
    refine zw_call (xw_goodCount N hN ht) (fun r t3 ⟨m1, m2, m3, _, _⟩ => ?_)
    dsimp only at m1
    rw [m1, if_pos (nI_le (Nat.le_refl _) (by omega)), List.take_length]
    exact ⟨_, rfl, rfl, m2, (k2.tr l2).tr ((hq.tr m3).mo (by decide) (by decide) (by decide))⟩
  · rintro self j v hj ⟨t', rfl, ht, hq⟩ hself
    obtain ⟨S, e, hS, hg⟩ := zgL_get hj
    have hmem : ∀ R, ((zgL g.mu g.n (2 ^ g.n)).take j).foldl (zwh g c lat) none = some R → R < 1024 := fun R hR => by
      rcases zwh_mem _ _ R hR with q | q
      · cases q
      · have := (zgL_mem.mp (List.mem_of_mem_take q)).1
        omega
    dsimp only [bX1_outermost_15, jX1_outermost_j79, zq_let]
    refine zw_call (xw_goodCount N hN ht) (fun r t3 ⟨m1, m2, m3, _, _⟩ => ?_)
    dsimp only at m1
    rw [m1, if_neg (by rw [nI_leI (by omega) (by omega)]; omega)]
    refine zw_call (xw_goodAt N hN m2 e) (fun r t4 ⟨n1, n2, n3, _⟩ => ?_)
    dsimp only at n1
    subst n1
    have fr := (hq.tr m3).tr n3
    rw [zck_nI (by omega) (by decide), zgl_nI _ _ (by omega), fr.l 1 (by decide), l4 S (by omega), k3 S hS, zn_1024, zck_nI (by omega) (by decide), zgl_nI _ _ (by omega), fr.l 1 (by decide), l3 S hS, zlgc0, zlgc0, mX1_isFurther_eq N (by omega) hmem, zb2_some, nI_1]
    dsimp only
    have es := zfo_s e (zwh g c lat) none
    unfold zwh at es
    by_cases q1 : 0 < zuT g c S
    · rw [if_pos q1]
      by_cases q2 : 0 < zdT g (g.cp.length - 1 - c) S
      · rw [if_pos q2]
        cases q3 : zfur lat (((zgL g.mu g.n (2 ^ g.n)).take j).foldl (zwh g c lat) none) S with
        | true =>
          rw [zif_t]
          refine hself _ ⟨t4, ?_, n2, fr⟩
          rw [zfo_s e, zwh, if_pos ⟨q1, q2, q3⟩]
          rfl
        | false =>
          rw [zif_f]
          refine hself _ ⟨t4, ?_, n2, fr⟩
          rw [zfo_s e, zwh, if_neg (fun z => by rw [q3] at z; cases z.2.2)]
      · rw [if_neg q2]
        refine hself _ ⟨t4, ?_, n2, fr⟩
        rw [zfo_s e, zwh, if_neg (fun z => q2 z.2.1)]
    · rw [if_neg q1]
      refine hself _ ⟨t4, ?_, n2, fr⟩
      rw [zfo_s e, zwh, if_neg (fun z => q1 z.1)]
theorem mw_when (N : Nat) (hN : 5000 ≤ N) {g : zG} {s : zq_S} (h : zMR g s) {c : Nat} (hc : c < g.cp.length) (hU : ∀ S, S < 2 ^ g.n → zL s 94 (1024 * c + S) = zuT g c S) (hD : ∀ S, S < 2 ^ g.n → zL s 95 (1024 * c + S) = zdT g (g.cp.length - 1 - c) S) (lat : Bool) :
    zq_loop (bX12_when_35 N (nI c) (if lat then 1 else 0)) N (-1, 0, s) = some (zoe ((zgL g.mu g.n (2 ^ g.n)).foldl (zwh g c lat) none), s) := by
  have hn := h.i.W.n
  have hp := zn_pow hn
  have h0 : 0 < 2 ^ g.n := Nat.pow_pos (by decide)
  have h4 := h.i.W.cp.1
  have e0 : ((-1 : Int32), (0 : Int32), s) = (fun j => (zoe ((zgL g.mu g.n j).foldl (zwh g c lat) none), nI j, s)) 0 := rfl
  rw [e0]
  refine zq_up (2 ^ g.n) (fun j => (zoe ((zgL g.mu g.n j).foldl (zwh g c lat) none), nI j, s)) (fun self => ?_) (fun self j hj => ?_) N 0 (by omega) (by omega)
  · dsimp only [bX12_when_35]
    rw [mX12_all_eq N h.i.mk hn, zb2_some]
    dsimp only
    rw [if_pos (nI_lt (by omega) (by omega))]
  · have hmem : ∀ R, (zgL g.mu g.n j).foldl (zwh g c lat) none = some R → R < 1024 := fun R hR => by
      rcases zwh_mem _ _ R hR with q | q
      · cases q
      · have := (zgL_mem.mp q).1
        omega
    dsimp only [bX12_when_35, jX12_when_j129, jX12_when_j115, zq_let]
    rw [mX12_all_eq N h.i.mk hn, zb2_some]
    dsimp only
    rw [if_neg (nI_nlt (by omega) (by omega)), zn_10c, zck_nI (by omega) (by decide), zck_nI (by omega) (by decide), zgl_nI _ _ (by omega), zgl_nI _ _ (by omega), hU j hj, hD j hj, zlgc0, zlgc0, nI_1, zgo_s]
    have bad : zgd g.mu j g.n = false → zuT g c j = 0 := fun q => zuT_bad q
    by_cases q1 : 0 < zuT g c j
    · have hg : zgd g.mu j g.n = true := by
        cases q : zgd g.mu j g.n with
        | true => rfl
        | false => rw [bad q] at q1; exact absurd q1 (by decide)
      rw [if_pos q1, hg, if_pos rfl]
      by_cases q2 : 0 < zdT g (g.cp.length - 1 - c) j
      · rw [if_pos q2]
        have b1 := zbc_le j 10
        cases ha : (zgL g.mu g.n j).foldl (zwh g c lat) none with
        | none =>
          have ez : zwh g c lat none j = some j := if_pos ⟨q1, q2, rfl⟩
          rw [ez, zoe_n, zoe_s, if_neg (show ¬ (0 : Int32) ≤ -1 by decide), if_neg (show ¬ (1 : Int32) ≤ 0 by decide)]
        | some R =>
          have hR := hmem R ha
          have b2 := zbc_le R 10
          obtain ⟨s1, _⟩ := zsub_nI b1 b2
          obtain ⟨s3, _⟩ := zsub_nI b2 b1
          rw [zoe_s, if_pos (show (0 : Int32) ≤ nI R from nI_le (a := 0) (Nat.zero_le _) (by omega))]
          cases lat with
          | false =>
            rw [if_neg (show ¬ false = true by decide), if_pos rfl, mX12_bits_eq N hN (by omega), zb2_some]
            dsimp only
            rw [mX12_bits_eq N hN (by omega), zb2_some]
            dsimp only
            by_cases q3 : zbc j 10 < zbc R 10
            · have ez : zwh g c false (some R) j = some j := if_pos ⟨q1, q2, decide_eq_true q3⟩
              rw [if_neg (fun z => by have := s3.mp z; omega), ez, zoe_s]
            · have ez : zwh g c false (some R) j = some R := if_neg (fun z => q3 (of_decide_eq_true z.2.2))
              rw [if_pos (s3.mpr (by omega)), ez, zoe_s]
          | true =>
            rw [if_pos rfl, if_neg (show ¬ (1 : Int32) = 0 by decide), mX12_bits_eq N hN (by omega), zb2_some]
            dsimp only
            rw [mX12_bits_eq N hN (by omega), zb2_some]
            dsimp only
            by_cases q3 : zbc R 10 < zbc j 10
            · have ez : zwh g c true (some R) j = some j := if_pos ⟨q1, q2, decide_eq_true q3⟩
              rw [if_neg (fun z => by have := s1.mp z; omega), ez, zoe_s]
            · have ez : zwh g c true (some R) j = some R := if_neg (fun z => q3 (of_decide_eq_true z.2.2))
              rw [if_pos (s1.mpr (by omega)), ez, zoe_s]
      · rw [if_neg q2, zwh, if_neg (fun z => q2 z.2.1)]
    · rw [if_neg q1]
      have : (if zgd g.mu j g.n = true then zwh g c lat ((zgL g.mu g.n j).foldl (zwh g c lat) none) j else (zgL g.mu g.n j).foldl (zwh g c lat) none) = (zgL g.mu g.n j).foldl (zwh g c lat) none := by
        have ez : zwh g c lat ((zgL g.mu g.n j).foldl (zwh g c lat) none) j = (zgL g.mu g.n j).foldl (zwh g c lat) none := if_neg (fun z => q1 z.1)
        rw [ez, ite_self]
      rw [this]
theorem pub_when (N : Nat) (hN : 5000 ≤ N) {g : zG} (hW : zGW g) (p q : Int32) : zAg g g (mX11_when N p q) (mX12_when N p q) := by
  rcases zcparg hW p with z | ⟨c, l, hc, hc4, rfl, z⟩
  · refine ⟨-1001, fun s h => ?_, fun s h => ?_⟩
    · unfold mX11_when
      rw [h.hc N, if_neg z, zb2_some]
      exact ⟨_, rfl, rfl, h, zSM_rfl⟩
    · unfold mX12_when
      rw [h.ic N, if_neg z, zb2_some]
      exact ⟨_, rfl, rfl, h, zSX_rfl⟩
  have hcl := (List.getElem?_eq_some_iff.mp hc).1
  rcases zi_01 q with ⟨e, y⟩ | ⟨e1, e2, y⟩
  · refine ⟨zoe ((zgL g.mu g.n (2 ^ g.n)).foldl (zwh g c (decide (q = 1))) none), fun s h => ?_, fun s h => ?_⟩
    · unfold mX11_when
      rw [h.hc N, if_pos z, zb2_some]
      dsimp only
      rw [if_neg (show ¬ (1 : Int32) = 0 by decide)]
      have key : zw (jX11_when_j24 N (nI c) q s) (fun v => v.1 = zoe ((zgL g.mu g.n (2 ^ g.n)).foldl (zwh g c (decide (q = 1))) none) ∧ zXI g v.2 ∧ zSM s v.2) := by
        unfold jX11_when_j24 jX11_when_j48
        dsimp only [zq_let]
        have e3 : (if q = 1 then (1 : Int32) else 0) = if decide (q = 1) then 1 else 0 := by simp
        rw [e3]
        refine zw_call (xw_outer N hN h hcl _) (fun r t ⟨k1, k2, k3⟩ => ?_)
        exact ⟨_, rfl, k1, k2, zXQ_SM (zXR_Q k3)⟩
      rcases e with e | e
      · rw [if_pos e]; exact key
      · rw [if_neg (by rw [e]; decide), if_pos e]; exact key
    · unfold mX12_when
      rw [h.ic N, if_pos z, zb2_some]
      dsimp only
      rw [if_neg (show ¬ (1 : Int32) = 0 by decide), mX12_in1, if_pos y, zb2_some]
      dsimp only
      rw [if_neg (show ¬ (1 : Int32) = 0 by decide)]
      refine zw_call (mw_findRows N hN h) (fun r t ⟨k1, k2, k3, k4⟩ => ?_)
      have e3 : q = if decide (q = 1) then 1 else 0 := by
        rcases e with e | e <;> rw [e] <;> decide
      have := mw_when N hN k1 hcl (fun S hS => k3 c S hcl hS) (fun S hS => k4 c S hcl hS) (decide (q = 1))
      rw [← e3] at this
      rw [this]
      exact ⟨_, rfl, rfl, k1.i, zMQ_SX k2⟩
  · refine ⟨-1002, fun s h => ?_, fun s h => ?_⟩
    · unfold mX11_when
      rw [h.hc N, if_pos z, zb2_some]
      dsimp only
      rw [if_neg (show ¬ (1 : Int32) = 0 by decide), if_neg e1, if_neg e2]
      exact ⟨_, rfl, rfl, h, zSM_rfl⟩
    · unfold mX12_when
      rw [h.ic N, if_pos z, zb2_some]
      dsimp only
      rw [if_neg (show ¬ (1 : Int32) = 0 by decide), mX12_in1, if_neg y, zb2_some]
      exact ⟨_, rfl, rfl, h, zSX_rfl⟩
