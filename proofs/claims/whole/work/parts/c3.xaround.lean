/-! the class: the open brackets -/
def pzXs (s : zq_S) : List Nat → Prop
  | [] => True
  | q :: l => zA s 28 l.length = nI q ∧ pzXs s l
theorem pzXs_app {s : zq_S} : ∀ a c, pzXs s (a ++ c) → pzXs s c := by
  intro a
  induction a with
  | nil => intro c h; exact h
  | cons q a ih => intro c h; exact ih c h.2
theorem pzXs_eq {s t : zq_S} : ∀ l, (∀ d, d < l.length → zA t 28 d = zA s 28 d) → pzXs s l → pzXs t l := by
  intro l
  induction l with
  | nil => intro _ _; trivial
  | cons q l ih =>
    intro h hs
    rw [List.length_cons] at h
    exact ⟨(h _ (by omega)).trans hs.1, ih (fun d hd => h d (by omega)) hs.2⟩
/-- the class holds an open bracket q with its sign and mark -/
def pzXo (b : Bool) (R : List zIt) (s : zq_S) (q : Nat) : Prop := q < 100 ∧ zA s (zs b + 2) q = zcode (pzat R q).sg ∧ zA s (zs b + 3) q = nI (pzat R q).mk ∧ (pzat R q).mk < 10 ∧ 1 ≤ (pzat R q).sg ∧ (pzat R q).sg ≤ 3
theorem zcode_1 : ∀ g, 1 ≤ g → g ≤ 3 → (zcode g = 123 ↔ g = 1) ∧ (zcode g = 91 ↔ g = 2) ∧ (zcode g = 60 ↔ g = 3) := by
  intro g h1 h2
  rcases (show g = 1 ∨ g = 2 ∨ g = 3 by omega) with z | z | z <;> subst z <;> decide
theorem pz_snoc : ∀ (a : List Nat), a ≠ [] → ∃ c q, a = c ++ [q] := by
  intro a
  induction a with
  | nil => intro h; exact absurd rfl h
  | cons x a ih =>
    intro _
    cases a with
    | nil => exact ⟨[], x, rfl⟩
    | cons y a =>
      obtain ⟨c, q, e⟩ := ih (List.cons_ne_nil _ _)
      exact ⟨x :: c, q, by rw [e]; rfl⟩
theorem mX5_putInAround_eq (N : Nat) (hN : 5000 ≤ N) {b : Bool} {R : List zIt} {s : zq_S} (hb : zgb s 2 = b) {L : List Nat} (hL : pzXs s L) (h8 : L.length ≤ 8) (ho : ∀ q, q ∈ L → pzXo b R s q) : mX5_putInAround N (nI L.length) s = some (nI (pzor R L), s) := by
  have key : ∀ d pre suf M, pre.length = d → L = pre ++ suf → d < M → zq_loop (bX5_putInAround_4 N (nI L.length) (fun e4 => jX5_putInAround_j68 N e4.1 e4.2)) M (nI (pzor R suf), nI suf.length, s) = some (nI (pzor R L), s) := by
    intro d
    induction d with
    | zero =>
      intro pre suf M h1 h2 hM
      obtain ⟨M, rfl⟩ : ∃ M', M = M' + 1 := ⟨M - 1, by omega⟩
      have e : pre = [] := List.eq_nil_of_length_eq_zero h1
      subst e
      rw [List.nil_append] at h2
      subst h2
      rw [zq_loop_s]
      dsimp only [bX5_putInAround_4]
      rw [if_pos (nI_le (Nat.le_refl _) (by omega))]
      rfl
    | succ d ih =>
      intro pre suf M h1 h2 hM
      obtain ⟨M, rfl⟩ : ∃ M', M = M' + 1 := ⟨M - 1, by omega⟩
      obtain ⟨c, q, hcq⟩ := pz_snoc pre (by intro y; rw [y] at h1; cases h1)
      subst hcq
      rw [List.length_append, List.length_singleton] at h1
      have h2' : L = c ++ q :: suf := by rw [h2, List.append_assoc]; rfl
      have hlen : L.length = c.length + (suf.length + 1) := by rw [h2', List.length_append, List.length_cons]
      have h28 : zA s 28 suf.length = nI q := by
        rw [h2'] at hL
        exact (pzXs_app c _ hL).1
      obtain ⟨o1, o2, o3, o4, o5, o6⟩ := ho q (by rw [h2']; exact List.mem_append_right _ List.mem_cons_self)
      rw [zq_loop_s]
      dsimp only [bX5_putInAround_4, zq_let]
      rw [if_neg (by rw [nI_leI (by omega) (by omega)]; omega), if_neg (by rw [show (8 : Int32) = nI 8 from rfl, nI_leI (by decide) (by omega)]; omega), zck_nI (by omega) (by decide), zga_nI _ _ (by omega), h28, zck_nI o1 (by decide), zck_nI (by omega) (by decide), zck_nI o1 (by decide), hb, zga_nI _ _ (by omega), zga_nI _ _ (by omega), o2, o3, if_neg (nI_nneg (by omega)), zn_shl (by omega), zn_or, nI_1]
      have e : (if zcode (pzat R q).sg = (123 : Int32) then nI (pzor R suf ||| 2 ^ (pzat R q).mk) else nI (pzor R suf)) = nI (pzor R (q :: suf)) := by
        rw [pzor]
        by_cases z : (pzat R q).sg = 1
        · rw [if_pos ((zcode_1 _ o5 o6).1.2 z), if_pos z]
        · rw [if_neg (fun y => z ((zcode_1 _ o5 o6).1.1 y)), if_neg z, Nat.or_zero]
      rw [e]
      exact ih c (q :: suf) M (by omega) h2' (by omega)
  exact key L.length L [] N rfl (List.append_nil L).symm (by omega)
theorem mX5_isWithinArrow_eq (N : Nat) (hN : 5000 ≤ N) {b : Bool} {R : List zIt} {s : zq_S} (hb : zgb s 2 = b) {L : List Nat} (hL : pzXs s L) (h8 : L.length ≤ 8) (hd : zgf s 26 6 = nI L.length) (ho : ∀ q, q ∈ L → pzXo b R s q) : mX5_isWithinArrow N s = some (zib (L.any (fun q => (pzat R q).sg == 3)), s) := by
  have key : ∀ d pre suf M, pre.length = d → L = pre ++ suf → (∀ q, q ∈ suf → (pzat R q).sg ≠ 3) → d < M → zq_loop (bX5_isWithinArrow_2 N (fun e2 => jX5_isWithinArrow_j43 N e2)) M (nI suf.length, s) = some (zib (L.any (fun q => (pzat R q).sg == 3)), s) := by
    intro d
    induction d with
    | zero =>
      intro pre suf M h1 h2 h3 hM
      obtain ⟨M, rfl⟩ : ∃ M', M = M' + 1 := ⟨M - 1, by omega⟩
      have e : pre = [] := List.eq_nil_of_length_eq_zero h1
      subst e
      rw [List.nil_append] at h2
      subst h2
      have e2 : L.any (fun q => (pzat R q).sg == 3) = false := by
        rw [List.any_eq_false]
        intro q hq
        rw [beq_iff_eq]
        exact h3 q hq
      rw [zq_loop_s]
      dsimp only [bX5_isWithinArrow_2]
      rw [hd, if_pos (nI_le (Nat.le_refl _) (by omega)), e2]
      rfl
    | succ d ih =>
      intro pre suf M h1 h2 h3 hM
      obtain ⟨M, rfl⟩ : ∃ M', M = M' + 1 := ⟨M - 1, by omega⟩
      obtain ⟨c, q, hcq⟩ := pz_snoc pre (by intro y; rw [y] at h1; cases h1)
      subst hcq
      rw [List.length_append, List.length_singleton] at h1
      have h2' : L = c ++ q :: suf := by rw [h2, List.append_assoc]; rfl
      have hlen : L.length = c.length + (suf.length + 1) := by rw [h2', List.length_append, List.length_cons]
      have h28 : zA s 28 suf.length = nI q := by
        rw [h2'] at hL
        exact (pzXs_app c _ hL).1
      have hq : q ∈ L := by rw [h2']; exact List.mem_append_right _ List.mem_cons_self
      obtain ⟨o1, o2, o3, o4, o5, o6⟩ := ho q hq
      rw [zq_loop_s]
      dsimp only [bX5_isWithinArrow_2, zq_let]
      rw [hd, if_neg (by rw [nI_leI (by omega) (by omega)]; omega), if_neg (by rw [show (8 : Int32) = nI 8 from rfl, nI_leI (by decide) (by omega)]; omega), zck_nI (by omega) (by decide), zga_nI _ _ (by omega), h28, zck_nI o1 (by decide), hb, zga_nI _ _ (by omega), o2, nI_1]
      by_cases z : (pzat R q).sg = 3
      · rw [if_pos ((zcode_1 _ o5 o6).2.2.2 z)]
        have e2 : L.any (fun q => (pzat R q).sg == 3) = true := List.any_eq_true.2 ⟨q, hq, by rw [z]; rfl⟩
        rw [e2]; rfl
      · rw [if_neg (fun y => z ((zcode_1 _ o5 o6).2.2.1 y))]
        exact ih c (q :: suf) M (by omega) h2' (fun q' hq' => (List.mem_cons.1 hq').elim (fun y => by rw [y]; exact z) (h3 q')) (by omega)
  exact key L.length L [] N rfl (List.append_nil L).symm (fun q hq => by cases hq) (by omega)
theorem mX5_innermost_eq (N : Nat) {s : zq_S} {q : Nat} {l : List Nat} (hL : pzXs s (q :: l)) (h8 : l.length + 1 ≤ 8) (hd : zgf s 26 6 = nI (l.length + 1)) : mX5_innermost N s = some (nI q, s) := by
  unfold mX5_innermost jX5_innermost_j22
  rw [hd, if_neg (by rw [show (0 : Int32) = nI 0 from rfl, nI_leI (by omega) (by decide)]; omega), zn_m1, zck_nI (by omega) (by decide), zga_nI _ _ (by omega), hL.1]
