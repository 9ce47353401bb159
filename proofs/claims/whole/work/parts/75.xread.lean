/-! the class's reading of texts -/
theorem mJ6_bc (N : Nat) {S : Nat} (hS : S < 1024) (s : zq_S) : mJ6_bitCount_0f7a4 N (nI S) s = some (nI (zbc S 10), s) := by
  have key : ∀ S, S < 1024 → (Option.map Prod.fst (mJ6_bitCount_0f7a4 0 (nI S) ((fun _ _ => 0, fun _ => false, fun _ _ => 0, fun _ _ => 0) : zq_S))) = some (nI (zbc S 10)) := by decide +kernel
  have := key S hS
  dsimp only [mJ6_bitCount_0f7a4, zq_let, Option.map_some] at this ⊢
  rw [Option.some.inj this]
section zXR
variable {g : zG} {s : zq_S}
theorem zXI.ln (h : zXI g s) (S : Nat) : (ztx g.T S).length ≤ 40 := ztx_len h.W.W h.W.w40 S
theorem zXI.wl (h : zXI g s) {S i : Nat} (hi : i < (ztx g.T S).length) : zgt (ztx g.T S) i < 100 := by
  rw [zgt_eq hi]
  exact ztx_wd h.W.w40 S _ (List.getElem_mem hi)
theorem xw_stands (N : Nat) (hN : 5000 ≤ N) (h : zXI g s) {S x : Nat} (hS : S < 1024) (hx : x < 100) :
    zw (mX9_stands N (nI x) (nI S) s) (fun v => v.1 = (if x ∈ ztx g.T S then 1 else 0) ∧ zXI g v.2 ∧ zXG s v.2) := by
  unfold mX9_stands
  refine zw_call (xw_with N hN h hS) (fun r t ⟨h1, h2, h3, _⟩ => ?_)
  have hr := zMd_row h1 hS h3
  have hl := h1.ln S
  rw [mX8_sizeOf_row N h1.f39 hS hr, zb2_some]
  dsimp only
  refine zw_cnt (ztx g.T S).length (fun j v => v = (nI j, t) ∧ x ∉ (ztx g.T S).take j) ?_ ?_ N 0 _ (by omega) (by omega) ⟨rfl, by simp⟩
  · rintro self v ⟨rfl, q⟩
    dsimp only [bX9_stands_13]
    rw [if_pos (nI_le (Nat.le_refl _) (by omega))]
    rw [List.take_length] at q
    refine ⟨_, rfl, ?_, h1, h2⟩
    rw [if_neg q]
  · rintro self j v hj ⟨rfl, q⟩ hself
    dsimp only [bX9_stands_13, zq_let]
    have hw := h1.wl hj
    rw [if_neg (by rw [nI_leI (by omega) (by omega)]; omega), mX8_wordAt_row N h1.f39 hS hr hj, zb2_some]
    dsimp only
    rw [zif_nI (by omega) (by omega), nI_1]
    by_cases e : zgt (ztx g.T S) j = x
    · rw [if_pos e]
      refine ⟨_, rfl, ?_, h1, h2⟩
      rw [if_pos]
      rw [zgt_eq hj] at e
      rw [← e]
      exact List.getElem_mem hj
    · rw [if_neg e]
      refine hself _ ⟨rfl, fun z => ?_⟩
      rw [List.take_succ_eq_append_getElem hj, ← zgt_eq hj] at z
      rcases List.mem_append.mp z with z | z
      · exact q z
      · exact e (List.mem_singleton.mp z).symm
theorem xw_alike (N : Nat) (hN : 5000 ≤ N) (h : zXI g s) {a b : Nat} (ha : a < 1024) (hb : b < 1024) :
    zw (mX9_alike N (nI a) (nI b) s) (fun v => v.1 = (if ztx g.T a = ztx g.T b then 1 else 0) ∧ zXI g v.2 ∧ zXG s v.2) := by
  unfold mX9_alike
  refine zw_call (xw_with N hN h ha) (fun r t ⟨h1, h2, h3, _⟩ => ?_)
  refine zw_call (xw_with N hN h1 hb) (fun r t2 ⟨k1, k2, k3, k4⟩ => ?_)
  rw [mX8_isAlike_l N hN k1.f39 k1.f39 ha (zMd_row k1 ha (k4 a h3)) hb (zMd_row k1 hb k3), zb2_some]
  dsimp only
  rw [zb_if]
  exact ⟨_, rfl, rfl, k1, h2.tr k2⟩
theorem zXI.cr (h : zXI g s) {c : Nat} {l : List Nat} (hc : g.cp[c]? = some l) : c < 4 ∧ zRow true s c l.length (zgt l) := by
  refine ⟨?_, h.c3.2.2.2 c l hc⟩
  have := (List.getElem?_eq_some_iff.mp hc).1
  have := h.W.cp.1
  omega
theorem xw_isTime (N : Nat) (hN : 5000 ≤ N) (h : zXI g s) {c S : Nat} {l : List Nat} (hc : g.cp[c]? = some l) (hS : S < 1024) :
    zw (mX1_isTime N (nI c) (nI S) s) (fun v => v.1 = (if ztx g.T S = l then 1 else 0) ∧ zXI g v.2 ∧ zXG s v.2) := by
  unfold mX1_isTime
  refine zw_call (xw_with N hN h hS) (fun r t ⟨h1, h2, h3, _⟩ => ?_)
  obtain ⟨c4, hr⟩ := h1.cr hc
  rw [mX8_isAlike_l N hN h1.f51 h1.f39 (show c < zfS true by show c < 5; omega) hr hS (zMd_row h1 hS h3), zb2_some]
  dsimp only
  rw [zb_if]
  refine ⟨_, rfl, zif_iff ⟨Eq.symm, Eq.symm⟩, h1, h2⟩
theorem zn_2m (a : Nat) : 2 * nI a = nI (2 * a) := by rw [show (2 : Int32) = nI 2 from rfl, nI_mul]
theorem zn_and63 {k : Nat} : nI k &&& 63 = nI (k % 64) := by
  rw [show (63 : Int32) = nI 63 from rfl, zn_and, show (63 : Nat) = 2 ^ 6 - 1 from rfl, Nat.and_two_pow_sub_one_eq_mod]
theorem zn_sh6 {k : Nat} (h : k < 2 ^ 31) : nI k >>> ((6 : Int32) &&& 31) = nI (k / 64) := zn_shr (j := 6) h (by decide)
theorem zbt_and1 (y : Int64) : (if lg_cmp (y &&& 1) 0 = 0 then (0 : Int32) else 1) = if zbt y 0 then 1 else 0 := by
  rw [zif_lgc]
  have e : (y &&& 1 = 0) ↔ zbt y 0 = false := by
    constructor
    · intro e
      have := zbt_and y 1 0
      rw [e, zbt_0, zbt_1] at this
      simpa using this.symm
    · intro e
      refine zbt_ext (fun i hi => ?_)
      rw [zbt_and, zbt_1, zbt_0]
      by_cases q : i = 0
      · subst q; rw [e]; rfl
      · simp [q]
  by_cases q : zbt y 0 = true
  · rw [if_pos q, if_neg (fun z => by rw [e.mp z] at q; cases q)]
  · rw [if_neg q, if_pos (e.mpr (by simpa using q))]
theorem mX0_isBarred_in (N : Nat) {s : zq_S} {bs : Nat → Nat → Bool} {nb : Nat} (h : zX4 bs nb s) {x y : Nat} (hx : x < 100) (hy : y < 100) : mX0_isBarred N (nI x) (nI y) s = some (if bs x y then 1 else 0, s) := by
  unfold mX0_isBarred
  rw [mX11_isWord_in N hx, zb2_some]
  dsimp only
  rw [if_neg (by decide), mX11_isWord_in N hy, zb2_some]
  dsimp only [zq_let]
  rw [if_neg (by decide), zn_2m, zn_sh6 (by omega), nI_add, zck_nI (by omega) (by decide), zgl_nI _ _ (by omega), zn_and63, zbt_and1, zbt_shr _ _ (by omega), Nat.add_zero, h.2 x y hx hy, zb_if]
theorem mX0_breaksIn_eq (N : Nat) (hN : 5000 ≤ N) {b : Bool} {s : zq_S} (hW : zGW g) (h4 : zX4 g.bs g.nb s) (hF : zgf s (zf b) 0 = nI (zfS b)) {r : Nat} {ws : List Nat} (hr : r < zfS b) (h : zRow b s r ws.length (zgt ws)) :
    mX0_breaksIn N b (nI r) s = some (nI (zbks g.bs ws), s) := by
  have hl := h.2.1
  have hb := hW.nb.1
  unfold mX0_breaksIn
  rw [mX8_sizeOf_row N hF hr h, zb2_some]
  dsimp only
  refine zw_of (zw_cnt (ws.length - 1) (fun j v => v = (nI (zbk g.bs ws j), nI (j + 1), s)) ?_ ?_ N 0 _ (by omega) (by omega) rfl)
  · rintro self v rfl
    dsimp only [bX0_breaksIn_12, jX0_breaksIn_j58]
    rw [if_pos (nI_le (by omega) (by omega))]
    exact ⟨_, rfl, rfl⟩
  · rintro self j v hj rfl hself
    dsimp only [bX0_breaksIn_12, jX0_breaksIn_j58, jX0_breaksIn_j52, zq_let]
    have w1 := h.2.2.1 j (by omega)
    have w2 := h.2.2.1 (j + 1) (by omega)
    rw [if_neg (by rw [nI_leI (by omega) (by omega)]; omega), h4.1]
    by_cases q : g.nb = 0
    · rw [q, if_pos (by decide)]
      refine ⟨_, rfl, ?_⟩
      have key : ∀ i, i ≤ ws.length - 1 → zbk g.bs ws i = 0 := by
        intro i
        induction i with
        | zero => intro _; rfl
        | succ i ih =>
          intro hi
          unfold zbk
          rw [ih (by omega), znb_0 hW q (h.2.2.1 i (by omega)) (h.2.2.1 (i + 1) (by omega))]
          rfl
      show (nI (zbk g.bs ws j), s) = (nI (zbk g.bs ws (ws.length - 1)), s)
      rw [key j (by omega), key _ (Nat.le_refl _)]
    · rw [if_neg (by rw [show (0 : Int32) = nI 0 from rfl, nI_leI (by omega) (by omega)]; omega), zn_m1, mX8_wordAt_row N hF hr h (by omega), zb2_some]
      dsimp only
      rw [mX8_wordAt_row N hF hr h (by omega), zb2_some]
      dsimp only
      rw [mX0_isBarred_in N h4 w1 w2, zb2_some]
      dsimp only
      have e : zbk g.bs ws (j + 1) = zbk g.bs ws j + (if g.bs (zgt ws j) (zgt ws (j + 1)) then 1 else 0) := rfl
      cases q2 : g.bs (zgt ws j) (zgt ws (j + 1)) with
      | false =>
        rw [zif_f, nI_1]
        refine hself _ ?_
        rw [e, q2]; rfl
      | true =>
        rw [zif_t, nI_1, nI_1]
        refine hself _ ?_
        rw [e, q2, if_pos rfl]
theorem xw_breaks (N : Nat) (hN : 5000 ≤ N) (h : zXI g s) {S : Nat} (hS : S < 1024) (hm : zMd s S) : mX0_breaksIn N false (nI S) s = some (nI (zbks g.bs (ztx g.T S)), s) :=
  mX0_breaksIn_eq N hN h.W h.c4 h.f39 hS (zMd_row h hS hm)
theorem zXI.full (h : zXI g s) (N : Nat) : mX3_full N s = some (nI (2 ^ g.n - 1), s) := mX3_full_eq N h.W.n h.mk
theorem zXI.fol (h : zXI g s) (N : Nat) (hN : 5000 ≤ N) {S : Nat} (hS : S < 2 ^ g.n) : mX3_following N (nI S) s = some (nI (znx g.mu S g.n), s) :=
  mX3_following_eq N hN h.W.n h.mk h.bf h.W.mu (by have := zn_pow h.W.n; omega)
theorem zXI.isg (h : zXI g s) (N : Nat) (hN : 5000 ≤ N) {S : Nat} (hS : S < 2 ^ g.n) : mX3_isGood N (nI S) s = some (if zgd g.mu S g.n then 1 else 0, s) :=
  mX3_isGood_eq N hN h.W.n h.mk h.bf h.W.mu (by have := zn_pow h.W.n; omega)
theorem zXI.hm (h : zXI g s) (N : Nat) (m : Int32) : mX3_hasMark N m s = some (if ¬ m < 0 ∧ ¬ nI g.n ≤ m then 1 else 0, s) := mX3_hasMark_eq N h.W.n h.mk m
theorem zXI.hb (h : zXI g s) (N : Nat) (m : Int32) : mX3_hasBits N m s = some (if ¬ m < 0 ∧ m ≤ nI (2 ^ g.n - 1) then 1 else 0, s) := mX3_hasBits_eq N h.W.n h.mk m
theorem zXI.rf0 (h : zXI g s) (N : Nat) (hN : 5000 ≤ N) {x : Int32} (hx : ¬ (¬ x < 0 ∧ x ≤ nI (2 ^ g.n - 1))) : mX3_refuse N x s = some (-1001, s) := by
  rcases mX3_refuse_eq N hN h.W.n h.mk h.bf h.W.mu x with q | ⟨S, h1, h2, _⟩
  · exact q.2
  · have hp := zn_pow h.W.n
    exfalso
    apply hx
    rw [h2]
    exact ⟨nI_nneg (by omega), by rw [nI_leI (by omega) (by omega)]; omega⟩
theorem zXI.rf (h : zXI g s) (N : Nat) (hN : 5000 ≤ N) {S : Nat} (hS : S < 2 ^ g.n) : mX3_refuse N (nI S) s = some (if zgd g.mu S g.n then 0 else -1003, s) := by
  have hp := zn_pow h.W.n
  rcases mX3_refuse_eq N hN h.W.n h.mk h.bf h.W.mu (nI S) with q | ⟨R, h1, h2, h3⟩
  · exfalso
    apply q.1
    exact ⟨nI_nneg (by omega), by rw [nI_leI (by omega) (by omega)]; omega⟩
  · rw [nI_eq (by omega) (by omega)] at h2
    subst h2
    exact h3
end zXR
/-- two sides answer alike -/
def zAg {α : Type} (g g' : zG) (cx cm : zq_S → Option (α × zq_S)) : Prop :=
  ∃ r, (∀ s, zXI g s → zw (cx s) (fun v => v.1 = r ∧ zXI g' v.2 ∧ zSM s v.2)) ∧ (∀ s, zMI g s → zw (cm s) (fun v => v.1 = r ∧ zMI g' v.2 ∧ zSX s v.2))
theorem zSM_rfl {s : zq_S} : zSM s s := ⟨fun _ _ _ => rfl, fun _ _ => rfl, fun _ _ => rfl⟩
theorem zSX_rfl {s : zq_S} : zSX s s := ⟨fun _ _ _ => rfl, fun _ => rfl, fun _ _ => rfl, fun _ _ => rfl⟩
theorem zXG_SM {s t : zq_S} (h : zXG s t) : zSM s t := zXQ_SM (zXG_Q h)
theorem zMG_SX {s t : zq_S} (h : zMG s t) : zSX s t := zMQ_SX (zMG_Q h)
theorem zMI.ar (N : Nat) {g : zG} {s : zq_S} (h : zMI g s) (x : Int32) : mX12_areMarks N x s = some (if ¬ x < 0 ∧ x ≤ nI (2 ^ g.n - 1) then 1 else 0, s) := mX12_areMarks_eq N h.mk h.W.n x
theorem zMI.im (N : Nat) {g : zG} {s : zq_S} (h : zMI g s) (x : Int32) : mX12_isMark N x s = some (if ¬ x < 0 ∧ ¬ nI g.n ≤ x then 1 else 0, s) := mX12_isMark_eq N h.mk h.W.n x
