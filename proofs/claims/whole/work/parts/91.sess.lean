/-! sessions: the closure is closed, some mark may always come next, the least costs -/
theorem zwar_tr {n : Nat} (h : Nat → Nat) : ∀ k, k ≤ n → ∀ m j l, m < n → j < k → (zwar n h k m).testBit j = true → (zwar n h k j).testBit l = true → (zwar n h k m).testBit l = true := by
  intro k
  induction k with
  | zero => intro _ m j l _ hj; omega
  | succ k ih =>
    intro hk m j l hm hj h1 h2
    have T := ih (by omega)
    have st : ∀ a b, a < n → ((zwar n h (k + 1) a).testBit b = true ↔ ((zwar n h k a).testBit b = true ∨ ((zwar n h k a).testBit k = true ∧ (zwar n h k k).testBit b = true))) := by
      intro a b ha
      show (zfw n k (zwar n h k) a).testBit b = true ↔ _
      unfold zfw
      by_cases q : (zwar n h k a).testBit k = true
      · rw [if_pos ⟨ha, q⟩, Nat.testBit_or, Bool.or_eq_true]
        exact ⟨fun z => z.elim Or.inl (fun y => Or.inr ⟨q, y⟩), fun z => z.elim Or.inl (fun y => Or.inr y.2)⟩
      · rw [if_neg (fun z => q z.2)]
        exact ⟨Or.inl, fun z => z.elim id (fun y => absurd y.1 q)⟩
    have hjn : j < n := by omega
    rw [st m j hm] at h1
    rw [st j l hjn] at h2
    rw [st m l hm]
    by_cases c : j = k
    · subst c
      have a : (zwar n h j m).testBit j = true := h1.elim id (fun y => y.1)
      have b : (zwar n h j j).testBit l = true := h2.elim id (fun y => y.2)
      exact Or.inr ⟨a, b⟩
    · have hj' : j < k := by omega
      rcases h1 with h1 | ⟨h1, h1'⟩ <;> rcases h2 with h2 | ⟨h2, h2'⟩
      · exact Or.inl (T m j l hm hj' h1 h2)
      · exact Or.inr ⟨T m j k hm hj' h1 h2, h2'⟩
      · exact Or.inr ⟨h1, T k j l (by omega) hj' h1' h2⟩
      · exact Or.inr ⟨h1, h2'⟩
theorem zbc_cn (S : Nat) : ∀ k, zbc S k = zcn (fun i => S.testBit i) k := by
  intro k
  induction k with
  | zero => rfl
  | succ k ih => unfold zbc zcn; rw [ih]
theorem zcy_no {mu : Nat → Nat} : ∀ n, zcy mu n = false → ∀ m, m < n → (mu m).testBit m = false := by
  intro n
  induction n with
  | zero => intro _ m hm; omega
  | succ n ih =>
    intro h m hm
    have h' : (zcy mu n || (mu n).testBit n) = false := h
    rw [Bool.or_eq_false_iff] at h'
    by_cases e : m = n
    · subst e; exact h'.2
    · exact ih h'.1 m (by omega)
theorem znext_ex {g : zG} (hW : zGW g) {S : Nat} (hS : S < 2 ^ g.n) (hg : zgd g.mu S g.n = true) (hf : S ≠ 2 ^ g.n - 1) : ∃ m, m < g.n ∧ zed g.n g.mu S m = true := by
  have tr : ∀ m j l, m < g.n → j < g.n → (g.mu m).testBit j = true → (g.mu j).testBit l = true → (g.mu m).testBit l = true := fun m j l hm hj => zwar_tr _ g.n (Nat.le_refl _) m j l hm hj
  have irr := zcy_no g.n hW.cy
  have key : ∀ c m, m < g.n → S.testBit m = false → zbc (g.mu m) g.n ≤ c → ∃ m, m < g.n ∧ zed g.n g.mu S m = true := by
    intro c
    induction c with
    | zero =>
      intro m hm hb hz
      refine ⟨m, hm, ?_⟩
      have : zsb (g.mu m) S = true := by
        rw [zsb_iff (hW.mu m hm)]
        intro i hi hbi
        rw [zbc_cn] at hz
        have := zcn_0 (P := fun i => (g.mu m).testBit i) g.n (by omega) i hi
        rw [hbi] at this
        cases this
      unfold zed
      rw [hg, znx_bit, decide_eq_true hm, hb, this]
      rfl
    | succ c ih =>
      intro m hm hb hz
      cases q : zsb (g.mu m) S with
      | true =>
        refine ⟨m, hm, ?_⟩
        unfold zed
        rw [hg, znx_bit, decide_eq_true hm, hb, q]
        rfl
      | false =>
        have : ¬ ∀ i, i < g.n → (g.mu m).testBit i = true → S.testBit i = true := by
          intro z
          rw [(zsb_iff (hW.mu m hm)).mpr z] at q
          cases q
        obtain ⟨k, hk⟩ := Classical.not_forall.mp this
        have k1 : k < g.n := Classical.byContradiction fun z => hk (fun y => absurd y z)
        have k2 : (g.mu m).testBit k = true := Classical.byContradiction fun z => hk (fun _ y => absurd y z)
        have k3 : S.testBit k = false := by
          cases z : S.testBit k with
          | false => rfl
          | true => exact absurd (fun _ _ => z) hk
        refine ih k k1 k3 ?_
        have := zcn_lt (P := fun i => (g.mu k).testBit i) (Q := fun i => (g.mu m).testBit i) (p := k) (irr k k1) k2 g.n (fun i _ hi => tr m k i hm k1 k2 hi) k1
        rw [zbc_cn] at hz ⊢
        omega
  have : ∃ m, m < g.n ∧ S.testBit m = false := by
    apply Classical.byContradiction
    intro z
    apply hf
    refine zbit_ext hS (by have := Nat.pow_pos (n := g.n) (show 0 < 2 by decide); omega) (fun i hi => ?_)
    rw [zfull_bit hi]
    cases q : S.testBit i with
    | true => rfl
    | false => exact absurd ⟨i, hi, q⟩ z
  obtain ⟨m, hm, hb⟩ := this
  exact key _ m hm hb (Nat.le_refl _)
-- the costs
theorem zbst_congr {E : Nat → Bool} {c d : Nat → Nat × Nat} : ∀ n, (∀ m, m < n → E m = true → c m = d m) → zbst E c n = zbst E d n := by
  intro n
  induction n with
  | zero => intro _; rfl
  | succ n ih =>
    intro h
    unfold zbst
    rw [ih (fun m hm => h m (by omega))]
    cases q : E n with
    | false => rfl
    | true => rw [if_pos rfl, if_pos rfl, h n (by omega) q]
theorem zPF_fuel {n : Nat} (mu ik br : Nat → Nat) : ∀ d e S i, S < 2 ^ n → 2 ^ n - S ≤ d → 2 ^ n - S ≤ e → zPF n mu ik br d S i = zPF n mu ik br e S i := by
  intro d
  induction d with
  | zero => intro e S i h1 h2; omega
  | succ d ih =>
    intro e S i h1 h2 h3
    obtain ⟨e, rfl⟩ : ∃ e', e = e' + 1 := ⟨e - 1, by omega⟩
    unfold zPF
    split
    · rfl
    · refine zbst_congr n (fun m hm he => ?_)
      have h4 := zed_gt S m he
      have h5 := zor_lt h1 hm
      unfold zcd
      rw [ih e _ (ik m) h5 (by omega) (by omega)]
theorem zP_rec {n : Nat} (mu ik br : Nat → Nat) {S : Nat} (hS : S < 2 ^ n) (i : Nat) : zP n mu ik br S i = if S = 2 ^ n - 1 then (0, if n = 0 then 0 else br S) else zbst (zed n mu S) (zcd ik br (zP n mu ik br) S i) n := by
  unfold zP
  obtain ⟨d, hd⟩ : ∃ d, 2 ^ n - S = d + 1 := ⟨2 ^ n - S - 1, by omega⟩
  rw [hd]
  conv => lhs; unfold zPF
  split
  · rfl
  · refine zbst_congr n (fun m hm he => ?_)
    have h4 := zed_gt S m he
    have h5 := zor_lt hS hm
    unfold zcd
    rw [zPF_fuel mu ik br d (2 ^ n - (S ||| 2 ^ m)) _ (ik m) h5 (by omega) (Nat.le_refl _)]
/-- bounds of the best, where candidates are small and there is one -/
theorem zbst_bd {E : Nat → Bool} {c : Nat → Nat × Nat} {A B : Nat} (hA : A < 1000) : ∀ n, (∀ m, m < n → E m = true → (c m).1 ≤ A ∧ (c m).2 ≤ B) → (∃ m, m < n ∧ E m = true) → (zbst E c n).1 ≤ A ∧ (zbst E c n).2 ≤ B := by
  intro n
  induction n with
  | zero => rintro _ ⟨m, hm, _⟩; omega
  | succ n ih =>
    intro h hex
    unfold zbst
    cases q : E n with
    | false =>
      rw [if_neg (by decide)]
      refine ih (fun m hm => h m (by omega)) ?_
      obtain ⟨m, hm, he⟩ := hex
      refine ⟨m, ?_, he⟩
      by_cases e : m = n
      · rw [e, q] at he; cases he
      · omega
    | true =>
      rw [if_pos rfl]
      have hn := h n (by omega) q
      by_cases ex : ∃ m, m < n ∧ E m = true
      · have := ih (fun m hm => h m (by omega)) ex
        unfold zlx
        split
        · exact hn
        · exact this
      · have hz : zbst E c n = (1000000, 0) := by
          clear ih
          have : ∀ k, k ≤ n → zbst E c k = (1000000, 0) := by
            intro k
            induction k with
            | zero => intro _; rfl
            | succ k ihk =>
              intro hk
              unfold zbst
              rw [if_neg (fun z => ex ⟨k, by omega, z⟩)]
              exact ihk (by omega)
          exact this n (Nat.le_refl _)
        rw [hz]
        unfold zlx
        rw [if_pos (Or.inl (by show (c n).1 < 1000000; omega))]
        exact hn
theorem zP_bd {g : zG} (hW : zGW g) {br : Nat → Nat} (hb : ∀ S, br S ≤ 40) (ik : Nat → Nat) : ∀ r, r ≤ 100 → ∀ S i, S < 2 ^ g.n → zgd g.mu S g.n = true → g.n ≤ zbc S g.n + r → (zP g.n g.mu ik br S i).1 ≤ r ∧ (zP g.n g.mu ik br S i).2 ≤ 40 * (r + 1) := by
  have hn := hW.n
  intro r
  induction r with
  | zero =>
    intro _ S i hS hg hr
    have e : S = 2 ^ g.n - 1 := by
      refine zbit_ext hS (by have := Nat.pow_pos (n := g.n) (show 0 < 2 by decide); omega) (fun i hi => ?_)
      rw [zfull_bit hi]
      cases q : S.testBit i with
      | true => rfl
      | false =>
        have := zcn_no (P := fun i => S.testBit i) (p := i) q g.n hi
        rw [zbc_cn] at hr
        omega
    rw [zP_rec _ _ _ hS, if_pos e]
    refine ⟨Nat.le_refl _, ?_⟩
    have := hb S
    dsimp only
    split <;> omega
  | succ r ih =>
    intro hr1 S i hS hg hr
    rw [zP_rec _ _ _ hS]
    by_cases e : S = 2 ^ g.n - 1
    · rw [if_pos e]
      have := hb S
      dsimp only
      split <;> omega
    · rw [if_neg e]
      refine zbst_bd (by omega) g.n (fun m hm he => ?_) (znext_ex hW hS hg e)
      have h3 := zbc_or (zed_lt he).2.1 g.n
      rw [if_pos hm] at h3
      have := ih (by omega) (S ||| 2 ^ m) (ik m) (zor_lt hS hm) (zgd_next he) (by omega)
      have hbS := hb S
      unfold zcd
      dsimp only
      constructor
      · split <;> omega
      · split <;> omega
theorem zP_small {g : zG} (hW : zGW g) {br : Nat → Nat} (hb : ∀ S, br S ≤ 40) (ik : Nat → Nat) {S : Nat} (i : Nat) (hS : S < 2 ^ g.n) (hg : zgd g.mu S g.n = true) : (zP g.n g.mu ik br S i).1 ≤ 10 ∧ (zP g.n g.mu ik br S i).2 ≤ 440 := by
  have hn := hW.n
  have := zP_bd hW hb ik g.n (by omega) S i hS hg (by omega)
  omega
/-- least of the named values, at most a million -/
def zmi (E : Nat → Bool) (V : Nat → Nat) : Nat → Nat
  | 0 => 1000000
  | m + 1 => if E m then min (zmi E V m) (V m) else zmi E V m
theorem zmi_le (E : Nat → Bool) (V : Nat → Nat) : ∀ n, zmi E V n ≤ 1000000 := by
  intro n
  induction n with
  | zero => exact Nat.le_refl _
  | succ n ih => unfold zmi; split <;> omega
theorem zmi_A (E : Nat → Bool) (V : Nat → Nat) (I : Nat → Bool) (b : Nat) : ∀ n, min (zmi (fun m => E m && I m) V n) (1000 + zmi E V n + b) = zmi E (fun m => V m + (if I m then 0 else 1000 + b)) n := by
  intro n
  induction n with
  | zero => show min 1000000 (1000 + 1000000 + b) = 1000000; omega
  | succ n ih =>
    unfold zmi
    cases q : E n with
    | false => rw [Bool.false_and, if_neg (by decide), if_neg (by decide), if_neg (by decide)]; exact ih
    | true =>
      rw [Bool.true_and, if_pos rfl, if_pos rfl, ← ih]
      cases q2 : I n with
      | false => rw [if_neg (by decide), if_neg (by decide)]; omega
      | true => rw [if_pos rfl, if_pos rfl]; omega
theorem zmi_1000 (E : Nat → Bool) (V : Nat → Nat) : ∀ n, zmi E (fun m => V m + 1000) n = min 1000000 (1000 + zmi E V n) := by
  intro n
  induction n with
  | zero => show 1000000 = min 1000000 (1000 + 1000000); omega
  | succ n ih =>
    unfold zmi
    rw [ih]
    split <;> omega
theorem zmi_congr {E : Nat → Bool} {V U : Nat → Nat} : ∀ n, (∀ m, m < n → E m = true → V m = U m) → zmi E V n = zmi E U n := by
  intro n
  induction n with
  | zero => intro _; rfl
  | succ n ih =>
    intro h
    unfold zmi
    rw [ih (fun m hm => h m (by omega))]
    cases q : E n with
    | false => rfl
    | true => rw [if_pos rfl, if_pos rfl, h n (by omega) q]
/-- the best's cost is the least cost -/
theorem zmi_B {E : Nat → Bool} {c : Nat → Nat × Nat} : ∀ n, (∀ m, m < n → E m = true → (c m).1 ≤ 900 ∧ (c m).2 < 1000) →
    ((∀ m, m < n → E m = false) ∧ zbst E c n = (1000000, 0) ∧ zmi E (fun m => 1000 * (c m).1 + (c m).2) n = 1000000) ∨ ((zbst E c n).1 ≤ 900 ∧ (zbst E c n).2 < 1000 ∧ zmi E (fun m => 1000 * (c m).1 + (c m).2) n = 1000 * (zbst E c n).1 + (zbst E c n).2) := by
  intro n
  induction n with
  | zero => intro _; exact Or.inl ⟨fun m hm => absurd hm (Nat.not_lt_zero _), rfl, rfl⟩
  | succ n ih =>
    intro h
    have ih := ih (fun m hm => h m (by omega))
    unfold zbst zmi
    cases q : E n with
    | false =>
      rw [if_neg (by decide), if_neg (by decide)]
      rcases ih with ⟨a, b⟩ | b
      · refine Or.inl ⟨fun m hm => ?_, b⟩
        by_cases e : m = n
        · rw [e, q]
        · exact a m (by omega)
      · exact Or.inr b
    | true =>
      rw [if_pos rfl, if_pos rfl]
      obtain ⟨h1, h2⟩ := h n (by omega) q
      right
      rcases ih with ⟨_, b, d⟩ | ⟨b, d, e⟩
      · rw [b, d]
        unfold zlx
        rw [if_pos (Or.inl (by show (c n).1 < 1000000; omega))]
        exact ⟨h1, h2, by omega⟩
      · rw [e]
        unfold zlx
        split
        · rename_i z
          exact ⟨h1, h2, by omega⟩
        · rename_i z
          exact ⟨b, d, by omega⟩
theorem zbst_1 {E : Nat → Bool} {c : Nat → Nat × Nat} : ∀ n, (zbst E c n).1 = zmi E (fun m => (c m).1) n := by
  intro n
  induction n with
  | zero => rfl
  | succ n ih =>
    unfold zbst zmi
    rw [← ih]
    split
    · unfold zlx
      split
      · omega
      · omega
    · rfl
/-- the fewest sessions do not depend on the breaks -/
theorem zP_br {n : Nat} (mu ik br : Nat → Nat) : ∀ d S i, S < 2 ^ n → 2 ^ n - S ≤ d → (zP n mu ik br S i).1 = (zP n mu ik (fun _ => 0) S i).1 := by
  intro d
  induction d with
  | zero => intro S i h1 h2; omega
  | succ d ih =>
    intro S i h1 h2
    rw [zP_rec _ _ _ h1, zP_rec _ _ _ h1]
    split
    · rfl
    · rw [zbst_1, zbst_1]
      refine zmi_congr n (fun m hm he => ?_)
      have h4 := zed_gt S m he
      have h5 := zor_lt h1 hm
      unfold zcd
      dsimp only
      rw [ih _ (ik m) h5 (by omega)]
theorem zbst_2 {E : Nat → Bool} {c : Nat → Nat × Nat} : ∀ n, (∀ m, m < n → E m = true → (c m).2 = 0) → (zbst E c n).2 = 0 := by
  intro n
  induction n with
  | zero => intro _; rfl
  | succ n ih =>
    intro h
    have ih := ih (fun m hm => h m (by omega))
    unfold zbst
    cases q : E n with
    | false => exact ih
    | true =>
      rw [if_pos rfl]
      unfold zlx
      split
      · exact h n (by omega) q
      · exact ih
theorem zP_0 {n : Nat} (mu ik : Nat → Nat) : ∀ d S i, S < 2 ^ n → 2 ^ n - S ≤ d → (zP n mu ik (fun _ => 0) S i).2 = 0 := by
  intro d
  induction d with
  | zero => intro S i h1 h2; omega
  | succ d ih =>
    intro S i h1 h2
    rw [zP_rec _ _ _ h1]
    split
    · dsimp only; split <;> rfl
    · refine zbst_2 n (fun m hm he => ?_)
      have h4 := zed_gt S m he
      have h5 := zor_lt h1 hm
      unfold zcd
      dsimp only
      rw [ih _ (ik m) h5 (by omega)]
      split <;> rfl
