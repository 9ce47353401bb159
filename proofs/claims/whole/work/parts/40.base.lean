/-! pure reasoning about the functional texts -/
def zw {α : Type} (c : Option α) (Q : α → Prop) : Prop := ∃ v, c = some v ∧ Q v
theorem zw_some {α : Type} {v : α} {Q : α → Prop} : zw (some v) Q ↔ Q v := ⟨fun ⟨_, h, q⟩ => by cases h; exact q, fun h => ⟨v, rfl, h⟩⟩
theorem zw_ck {α : Type} {i : Int32} {n : Nat} {c : Option α} {Q : α → Prop} : zw (zq_ck i n c) Q ↔ vp_in i n ∧ zw c Q := by
  constructor
  · rintro ⟨v, h, q⟩
    obtain ⟨h1, h2⟩ := zq_ck_some h
    exact ⟨h1, v, h2, q⟩
  · rintro ⟨h1, v, h2, q⟩
    exact ⟨v, by unfold zq_ck; rw [if_neg h1]; exact h2, q⟩
theorem zw_let {α β : Type} {e : α} {f : α → Option β} {Q : β → Prop} : zw (zq_let e f) Q ↔ zw (f e) Q := Iff.rfl
theorem zw_ite {α : Type} {c : Prop} [Decidable c] {a b : Option α} {Q : α → Prop} : zw (if c then a else b) Q ↔ (c → zw a Q) ∧ (¬ c → zw b Q) := by
  by_cases h : c
  · simp [h]
  · simp [h]
theorem zw_b2 {α β : Type} {o : Option (α × zq_S)} {f : α → zq_S → Option β} {Q : β → Prop} : zw (zq_b2 o f) Q ↔ zw o (fun v => zw (f v.1 v.2) Q) := by
  cases o with
  | none =>
    constructor
    · rintro ⟨v, h, _⟩; cases h
    · rintro ⟨v, h, _⟩; cases h
  | some v => exact ⟨fun h => ⟨v, rfl, h⟩, fun ⟨_, h, q⟩ => by cases h; exact q⟩
theorem zw_bz {α : Type} {x : Int32} {c : Option α} {Q : α → Prop} : zw (zq_bz x c) Q ↔ (x = 0 ∨ x = 1) ∧ zw c Q := by
  unfold zq_bz
  by_cases h : x = 0 ∨ x = 1
  · rw [if_pos h]; exact ⟨fun q => ⟨h, q⟩, fun q => q.2⟩
  · rw [if_neg h]
    exact ⟨fun ⟨_, q, _⟩ => (by cases q), fun q => absurd q.1 h⟩
theorem zw_nz {α : Type} {z : Int64} {c : Option α} {Q : α → Prop} : zw (zq_nz z c) Q ↔ (¬ z = 0) ∧ zw c Q := by
  unfold zq_nz
  by_cases h : z = 0
  · rw [if_pos h]
    exact ⟨fun ⟨_, q, _⟩ => (by cases q), fun q => absurd h q.1⟩
  · rw [if_neg h]; exact ⟨fun q => ⟨h, q⟩, fun q => q.2⟩
theorem zw_mono {α : Type} {c : Option α} {P Q : α → Prop} (h : zw c P) (hpq : ∀ v, P v → Q v) : zw c Q := by
  obtain ⟨v, h1, h2⟩ := h
  exact ⟨v, h1, hpq v h2⟩
theorem zw_eq {α : Type} {c : Option α} {v : α} (h : c = some v) {Q : α → Prop} : zw c Q ↔ Q v := by rw [h]; exact zw_some
theorem zw_of {α : Type} {c : Option α} {v : α} (h : zw c (fun x => x = v)) : c = some v := by
  obtain ⟨x, h1, h2⟩ := h
  rw [h1, h2]
/-- a loop: invariant and a measure that falls -/
theorem zw_loop {α β : Type} {b : (α → Option β) → α → Option β} {Q : β → Prop} (I : α → Prop) (μ : α → Nat) (h : ∀ v, I v → ∀ self : α → Option β, (∀ v', I v' → μ v' < μ v → zw (self v') Q) → zw (b self v) Q) : ∀ (n : Nat) (v : α), I v → μ v < n → zw (zq_loop b n v) Q := by
  intro n
  induction n with
  | zero => intro v _ hm; omega
  | succ n ih => exact fun v hi hm => h v hi (zq_loop b n) (fun v' hi' hm' => ih v' hi' (by omega))
/-- a loop that counts up from i to e: the state at count j is g j, at the end k -/
theorem zw_up {α β : Type} {b : (α → Option β) → α → Option β} {Q : β → Prop} (e : Nat) (g : Nat → α) (hx : ∀ self, zw (b self (g e)) Q) (hs : ∀ (self : α → Option β) (j : Nat), j < e → zw (self (g (j + 1))) Q → zw (b self (g j)) Q) : ∀ (n j : Nat), j ≤ e → e - j < n → zw (zq_loop b n (g j)) Q := by
  intro n
  induction n with
  | zero => intro j _ h; omega
  | succ n ih =>
    intro j hj hn
    rw [zq_loop_s]
    by_cases h : j = e
    · rw [h]; exact hx _
    · exact hs _ j (by omega) (ih (j + 1) (by omega) (by omega))
/-- the same with equations -/
theorem zq_up {α β : Type} {b : (α → Option β) → α → Option β} {r : Option β} (e : Nat) (g : Nat → α) (hx : ∀ self, b self (g e) = r) (hs : ∀ (self : α → Option β) (j : Nat), j < e → b self (g j) = self (g (j + 1))) : ∀ (n j : Nat), j ≤ e → e - j < n → zq_loop b n (g j) = r := by
  intro n
  induction n with
  | zero => intro j _ h; omega
  | succ n ih =>
    intro j hj hn
    rw [zq_loop_s]
    by_cases h : j = e
    · rw [h]; exact hx _
    · rw [hs _ j (by omega)]; exact ih (j + 1) (by omega) (by omega)
-- state
def zA (s : zq_S) (k : Nat) : Nat → Int32 := s.2.2.1 k
def zL (s : zq_S) (k : Nat) : Nat → Int64 := s.2.2.2 k
theorem zga_eq (s : zq_S) (k : Nat) (i : Int32) : zga s k i = zA s k i.toNatClampNeg := rfl
theorem zgl_eq (s : zq_S) (k : Nat) (i : Int32) : zgl s k i = zL s k i.toNatClampNeg := rfl
theorem zpa_eq (s : zq_S) (k : Nat) (i v : Int32) : zpa s k i v = zsA s k (upd (zA s k) i.toNatClampNeg v) := rfl
theorem zpab_eq (s : zq_S) (k : Nat) (i v : Int32) : zpab s k i v = zsA s k (upd (zA s k) i.toNatClampNeg (vp_nar .byte v)) := rfl
theorem zpaz_eq (s : zq_S) (k : Nat) (i v : Int32) : zpaz s k i v = zsA s k (upd (zA s k) i.toNatClampNeg (vp_nar .boolean v)) := rfl
theorem zpl_eq (s : zq_S) (k : Nat) (i : Int32) (v : Int64) : zpl s k i v = zsL s k (vp_updL (zL s k) i.toNatClampNeg v) := rfl
theorem zpfi_eq (s : zq_S) (k n : Nat) (v : Int32) : zpfi s k n v = zsA s k (fun j => if j < n then v else zA s k j) := rfl
theorem zpfl_eq (s : zq_S) (k n : Nat) (v : Int64) : zpfl s k n v = zsL s k (fun j => if j < n then v else zL s k j) := rfl
theorem zgf_pf (s : zq_S) (k j a b : Nat) (v : Int32) : zgf (zpf s k j v) a b = if a = k ∧ b = j then v else zgf s a b := rfl
theorem zgf_sA (s : zq_S) (k a b : Nat) (f : Nat → Int32) : zgf (zsA s k f) a b = zgf s a b := rfl
theorem zgf_sL (s : zq_S) (k a b : Nat) (f : Nat → Int64) : zgf (zsL s k f) a b = zgf s a b := rfl
theorem zgf_pb (s : zq_S) (i a b : Nat) (c : Bool) : zgf (zpb s i c) a b = zgf s a b := rfl
theorem zA_sA (s : zq_S) (k a : Nat) (f : Nat → Int32) : zA (zsA s k f) a = if a = k then f else zA s a := rfl
theorem zA_sL (s : zq_S) (k a : Nat) (f : Nat → Int64) : zA (zsL s k f) a = zA s a := rfl
theorem zA_pf (s : zq_S) (k j a : Nat) (v : Int32) : zA (zpf s k j v) a = zA s a := rfl
theorem zA_pb (s : zq_S) (i a : Nat) (c : Bool) : zA (zpb s i c) a = zA s a := rfl
theorem zL_sL (s : zq_S) (k a : Nat) (f : Nat → Int64) : zL (zsL s k f) a = if a = k then f else zL s a := rfl
theorem zL_sA (s : zq_S) (k a : Nat) (f : Nat → Int32) : zL (zsA s k f) a = zL s a := rfl
theorem zL_pf (s : zq_S) (k j a : Nat) (v : Int32) : zL (zpf s k j v) a = zL s a := rfl
theorem zL_pb (s : zq_S) (i a : Nat) (c : Bool) : zL (zpb s i c) a = zL s a := rfl
theorem zgb_pb (s : zq_S) (i j : Nat) (c : Bool) : zgb (zpb s i c) j = if j = i then c else zgb s j := rfl
theorem zgb_pf (s : zq_S) (k j a : Nat) (v : Int32) : zgb (zpf s k j v) a = zgb s a := rfl
theorem zgb_sA (s : zq_S) (k a : Nat) (f : Nat → Int32) : zgb (zsA s k f) a = zgb s a := rfl
theorem zgb_sL (s : zq_S) (k a : Nat) (f : Nat → Int64) : zgb (zsL s k f) a = zgb s a := rfl
theorem zs_ext {s t : zq_S} (h1 : ∀ k j, zgf s k j = zgf t k j) (h2 : ∀ i, zgb s i = zgb t i) (h3 : ∀ k, zA s k = zA t k) (h4 : ∀ k, zL s k = zL t k) : s = t := by
  obtain ⟨a, b, c, d⟩ := s
  obtain ⟨a', b', c', d'⟩ := t
  have e1 : a = a' := funext fun k => funext fun j => h1 k j
  have e2 : b = b' := funext h2
  have e3 : c = c' := funext h3
  have e4 : d = d' := funext h4
  rw [e1, e2, e3, e4]
theorem zsA_same (s : zq_S) (k : Nat) : zsA s k (zA s k) = s := by
  refine zs_ext (fun _ _ => rfl) (fun _ => rfl) (fun a => ?_) (fun _ => rfl)
  rw [zA_sA]
  split
  · rename_i h; rw [h]
  · rfl
theorem zsL_same (s : zq_S) (k : Nat) : zsL s k (zL s k) = s := by
  refine zs_ext (fun _ _ => rfl) (fun _ => rfl) (fun _ => rfl) (fun a => ?_)
  rw [zL_sL]
  split
  · rename_i h; rw [h]
  · rfl
theorem zsA_sA (s : zq_S) (k : Nat) (f g : Nat → Int32) : zsA (zsA s k f) k g = zsA s k g := by
  refine zs_ext (fun _ _ => rfl) (fun _ => rfl) (fun a => ?_) (fun _ => rfl)
  rw [zA_sA, zA_sA, zA_sA]
  split <;> rfl
theorem zsL_sL (s : zq_S) (k : Nat) (f g : Nat → Int64) : zsL (zsL s k f) k g = zsL s k g := by
  refine zs_ext (fun _ _ => rfl) (fun _ => rfl) (fun _ => rfl) (fun a => ?_)
  rw [zL_sL, zL_sL, zL_sL]
  split <;> rfl
theorem zpf_pf (s : zq_S) (k j : Nat) (u v : Int32) : zpf (zpf s k j u) k j v = zpf s k j v := by
  refine zs_ext (fun a b => ?_) (fun _ => rfl) (fun _ => rfl) (fun _ => rfl)
  rw [zgf_pf, zgf_pf, zgf_pf]
  split <;> rfl
theorem zpf_same (s : zq_S) (k j : Nat) : zpf s k j (zgf s k j) = s := by
  refine zs_ext (fun a b => ?_) (fun _ => rfl) (fun _ => rfl) (fun _ => rfl)
  rw [zgf_pf]
  split
  · rename_i h; rw [h.1, h.2]
  · rfl
theorem zpf_sA (s : zq_S) (k j a : Nat) (v : Int32) (f : Nat → Int32) : zpf (zsA s a f) k j v = zsA (zpf s k j v) a f := rfl
theorem zpf_sL (s : zq_S) (k j a : Nat) (v : Int32) (f : Nat → Int64) : zpf (zsL s a f) k j v = zsL (zpf s k j v) a f := rfl
theorem zsA_sL (s : zq_S) (k a : Nat) (f : Nat → Int32) (g : Nat → Int64) : zsA (zsL s a g) k f = zsL (zsA s k f) a g := rfl
-- numbers
theorem zn_bv (a : Nat) : (nI a).toBitVec = BitVec.ofNat 32 a := by
  show (Int32.ofNat a).toBitVec = _
  rfl
theorem zn_or (a b : Nat) : nI a ||| nI b = nI (a ||| b) := by
  apply Int32.toBitVec_inj.mp
  rw [Int32.toBitVec_or, zn_bv, zn_bv, zn_bv, BitVec.ofNat_or]
theorem zn_and (a b : Nat) : nI a &&& nI b = nI (a &&& b) := by
  apply Int32.toBitVec_inj.mp
  rw [Int32.toBitVec_and, zn_bv, zn_bv, zn_bv, BitVec.ofNat_and]
theorem zn_xor (a b : Nat) : nI a ^^^ nI b = nI (a ^^^ b) := by
  apply Int32.toBitVec_inj.mp
  rw [Int32.toBitVec_xor, zn_bv, zn_bv, zn_bv, BitVec.ofNat_xor]
theorem zn_31 {j : Nat} (h : j < 32) : nI j &&& 31 = nI j := by
  rw [pk_andN (by omega) 5 rfl, Nat.mod_eq_of_lt (by omega)]
theorem zn_sm {j : Nat} (h : j < 32) : ((nI j).toBitVec.smod 32).toNat = j := by
  have : ∀ j, j < 32 → ((nI j).toBitVec.smod 32).toNat = j := by decide +kernel
  exact this j h
theorem zn_shr {S j : Nat} (hS : S < 2 ^ 31) (hj : j < 32) : nI S >>> (nI j &&& 31) = nI (S / 2 ^ j) := by
  rw [zn_31 hj, pk_shrN hS _ j (zn_sm hj)]
theorem zn_bit {S j : Nat} (hS : S < 2 ^ 31) (hj : j < 32) : (nI S >>> (nI j &&& 31)) &&& 1 = if S.testBit j then 1 else 0 := by
  rw [zn_shr hS hj, pk_andN (by have := Nat.div_le_self S (2 ^ j); omega) 1 rfl, Nat.testBit_eq_decide_div_mod_eq]
  have h := Nat.mod_two_eq_zero_or_one (S / 2 ^ j)
  rcases h with h | h <;> simp [h] <;> rfl
theorem zn_shl {j : Nat} (hj : j < 31) : (1 : Int32) <<< (nI j &&& 31) = nI (2 ^ j) := by
  rw [zn_31 (by omega)]
  have := pk_shlN (n := 1) (nI j) j (zn_sm (by omega)) (by
    rw [Nat.one_mul]
    exact Nat.pow_lt_pow_right (by decide) (by omega))
  rw [Nat.one_mul] at this
  exact this
theorem zn_not {a b : Nat} : (nI a &&& (nI b ^^^ (-1))) = 0 ↔ (nI a &&& nI b) = nI a := by
  rw [← Int32.toBitVec_inj, ← Int32.toBitVec_inj, Int32.toBitVec_and, Int32.toBitVec_and, Int32.toBitVec_xor]
  have e : (-1 : Int32).toBitVec = BitVec.allOnes 32 := by decide
  rw [e, BitVec.xor_allOnes]
  constructor
  · intro h
    apply BitVec.eq_of_getLsbD_eq
    intro i hi
    have := congrArg (fun x => BitVec.getLsbD x i) h
    simp [hi] at this ⊢
    exact this
  · intro h
    apply BitVec.eq_of_getLsbD_eq
    intro i hi
    have := congrArg (fun x => BitVec.getLsbD x i) h
    simp [hi] at this ⊢
    exact this
theorem zn_m1 (a : Nat) : nI (a + 1) - 1 = nI a := nI_pred a
theorem zn_pow {n : Nat} (h : n ≤ 10) : 2 ^ n ≤ 1024 := Nat.pow_le_pow_right (by decide) h
theorem zn_full {n : Nat} (h : n ≤ 10) : ((1 : Int32) <<< (nI n &&& 31)) - 1 = nI (2 ^ n - 1) := by
  rw [zn_shl (by omega)]
  have h1 : 2 ^ n = (2 ^ n - 1) + 1 := by have := Nat.pow_pos (n := n) (show 0 < 2 by decide); omega
  rw [h1, zn_m1]
  rfl
theorem zn_neg {x : Int32} (h : x < 0) (a : Nat) (ha : a < 2 ^ 31) : ¬ nI a ≤ x := by
  rw [Int32.le_iff_toInt_le, nI_toInt ha]
  rw [Int32.lt_iff_toInt_lt, Int32.toInt_zero] at h
  omega
