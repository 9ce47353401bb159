/-! words within, and the printing -/
def pzct (R : List zIt) (m : Nat) : List Nat → Nat
  | [] => 0
  | q :: l => pzct R m l + (if (pzat R q).mk = m then 1 else 0) + (if (pzat R q).sd = m + 1 then 1 else 0)
def pzns : List zIt → Nat → Nat
  | [], _ => 0
  | x :: R, m => (if x.sg = 9 ∧ x.mk = m then 1 else pzns R m) + (if x.sg = 0 ∨ x.sg = 8 ∨ x.sg = 9 then pzct R m (pzstk R) else 0)
def pzcw : List zIt → Nat → Nat
  | [], _ => 0
  | x :: R, p => pzcw R p + (if (x.sg = 0 ∨ x.sg = 8 ∨ x.sg = 9) ∧ p ∈ pzstk R then 1 else 0)
theorem pzstk_nd {R : List zIt} (h : pzV R) : (pzstk R).Nodup := by
  induction R with
  | nil => exact List.nodup_nil
  | cons x R ih =>
    have a := ih h.1
    rcases pz_cases x with y | y | y
    · rw [pzstk_o R y]
      refine List.nodup_cons.2 ⟨fun z => ?_, a⟩
      have := (pzstk_mem h.1 z).1
      omega
    · obtain ⟨q, l, e1, _⟩ := h.2.2.2.2.1 y
      rw [e1] at a
      rw [pzstk_c R y, e1]
      exact (List.nodup_cons.1 a).2
    · rw [pzstk_e R y]; exact a
theorem pz_tlo {R : List zIt} (h : pzV R) {q m : Nat} (hq : q < R.length) (ho : 1 ≤ (pzat R q).sg ∧ (pzat R q).sg ≤ 3) : ((pzat R q).mk = m ∨ (pzat R q).sd = m + 1) ↔ pztl (pzat R q) m := by
  constructor
  · rintro (a | a)
    · exact Or.inl ⟨Or.inl ho, a⟩
    · refine Or.inr ⟨?_, a⟩
      by_cases z : (pzat R q).sg = 2
      · exact z
      · have := (pzV_at h hq).1.2.2.2.2 z
        omega
  · rintro (a | a)
    · exact Or.inl a.2
    · exact Or.inr a.2
theorem pzct_0 {R : List zIt} (h : pzV R) {m : Nat} : ∀ l, (∀ q, q ∈ l → q < R.length ∧ (1 ≤ (pzat R q).sg ∧ (pzat R q).sg ≤ 3) ∧ ¬ pztl (pzat R q) m) → pzct R m l = 0 := by
  intro l
  induction l with
  | nil => intro _; rfl
  | cons q l ih =>
    intro hq
    obtain ⟨a, b, c⟩ := hq q List.mem_cons_self
    rw [pzct, ih (fun q' z => hq q' (List.mem_cons_of_mem _ z)), if_neg (fun z => c ((pz_tlo h a b).1 (Or.inl z))), if_neg (fun z => c ((pz_tlo h a b).1 (Or.inr z)))]
theorem pzct_1 {R : List zIt} (h : pzV R) {m p : Nat} (hp : p < R.length) (ht : pztl (pzat R p) m) : ∀ l, l.Nodup → (∀ q, q ∈ l → q < R.length ∧ (1 ≤ (pzat R q).sg ∧ (pzat R q).sg ≤ 3)) → pzct R m l = if p ∈ l then 1 else 0 := by
  intro l
  induction l with
  | nil => intro _ _; rfl
  | cons q l ih =>
    intro hn hq
    obtain ⟨a, b⟩ := hq q List.mem_cons_self
    obtain ⟨n1, n2⟩ := List.nodup_cons.1 hn
    have i := ih n2 (fun q' z => hq q' (List.mem_cons_of_mem _ z))
    by_cases z : p = q
    · subst z
      rw [pzct, i, if_neg n1, if_pos List.mem_cons_self]
      have hf := ((pzV_at h hp).2.2.1 b).2.2
      rcases (pz_tlo h a b).2 ht with y | y
      · rw [if_pos y, if_neg (fun w => by have := (hf (by omega)).1; omega)]
      · rw [if_neg (fun w => by have := (hf (by omega)).1; omega), if_pos y]
    · have nt : ¬ pztl (pzat R q) m := fun y => z (pz_one h hp a ht y)
      rw [pzct, i, if_neg (fun w => nt ((pz_tlo h a b).1 (Or.inl w))), if_neg (fun w => nt ((pz_tlo h a b).1 (Or.inr w)))]
      by_cases y : p ∈ l
      · rw [if_pos y, if_pos (List.mem_cons_of_mem _ y)]
      · rw [if_neg y, if_neg (fun w => (List.mem_cons.1 w).elim z y)]
theorem pzct_no {R : List zIt} (h : pzV R) {m : Nat} (hm : (pzmk R).testBit m = false) : pzct R m (pzstk R) = 0 := by
  refine pzct_0 h _ (fun q hq => ?_)
  obtain ⟨a, b⟩ := pzstk_mem h hq
  refine ⟨a, b, fun y => ?_⟩
  rw [pz_told q a y] at hm
  cases hm
theorem pzns_0 {R : List zIt} (h : pzV R) {m : Nat} (hm : (pzmk R).testBit m = false) : pzns R m = 0 := by
  induction R with
  | nil => rfl
  | cons x R ih =>
    rw [pzmk_t, Bool.or_eq_false_iff, decide_eq_false_iff_not] at hm
    rw [pzns, if_neg (fun y => hm.2 (Or.inl ⟨Or.inr y.1, y.2⟩)), ih h.1 hm.1, pzct_no h.1 hm.1, ite_self]
theorem pzcw_0 {R : List zIt} (h : pzV R) : ∀ p, R.length ≤ p → pzcw R p = 0 := by
  induction R with
  | nil => intro p _; rfl
  | cons x R ih =>
    intro p hp
    rw [List.length_cons] at hp
    rw [pzcw, ih h.1 p (by omega), if_neg]
    intro y
    have := (pzstk_mem h.1 y.2).1
    omega
theorem pzns_o {R : List zIt} (h : pzV R) {m : Nat} : ∀ p, p < R.length → (1 ≤ (pzat R p).sg ∧ (pzat R p).sg ≤ 3) → pztl (pzat R p) m → pzns R m = pzcw R p := by
  induction R with
  | nil => intro p hp; rw [List.length_nil] at hp; omega
  | cons x R ih =>
    intro p hp ho ht
    rw [List.length_cons] at hp
    by_cases z : p < R.length
    · rw [pzat_old x z] at ho ht
      have nx : ¬ (x.sg = 9 ∧ x.mk = m) := by
        intro y
        have := pz_fresh h.2 (m := m) (Or.inl ⟨Or.inr y.1, y.2⟩)
        rw [pz_told p z ht] at this
        cases this
      rw [pzns, pzcw, if_neg nx, ih h.1 p z ho ht, pzct_1 h.1 z ht _ (pzstk_nd h.1) (fun q hq => pzstk_mem h.1 hq)]
      by_cases w : x.sg = 0 ∨ x.sg = 8 ∨ x.sg = 9
      · rw [if_pos w]
        by_cases y : p ∈ pzstk R
        · rw [if_pos y, if_pos ⟨w, y⟩]
        · rw [if_neg y, if_neg (fun v => y v.2)]
      · rw [if_neg w, if_neg (fun v => w v.1)]
    · obtain rfl : p = R.length := by omega
      rw [pzat_new] at ho ht
      rw [pzns, if_neg (by omega), if_neg (by omega), pzns_0 h.1 (pz_fresh h.2 ht), pzcw, pzcw_0 h.1 _ (Nat.le_refl _), if_neg (by omega)]
theorem pzns_9 {R : List zIt} (h : pzV R) : ∀ p, p < R.length → (pzat R p).sg = 9 → pzns R (pzat R p).mk = 1 := by
  induction R with
  | nil => intro p hp; rw [List.length_nil] at hp; omega
  | cons x R ih =>
    intro p hp h9
    rw [List.length_cons] at hp
    by_cases z : p < R.length
    · rw [pzat_old x z] at h9 ⊢
      have t := pz_tlm (x := pzat R p) (Or.inr h9)
      have nx : ¬ (x.sg = 9 ∧ x.mk = (pzat R p).mk) := by
        intro y
        have := pz_fresh h.2 (m := (pzat R p).mk) (Or.inl ⟨Or.inr y.1, y.2⟩)
        rw [pz_told p z t] at this
        cases this
      rw [pzns, if_neg nx, ih h.1 p z h9, pzct_0 h.1, ite_self]
      intro q hq
      obtain ⟨a, b⟩ := pzstk_mem h.1 hq
      refine ⟨a, b, fun y => ?_⟩
      have := pz_one h.1 a z y t
      subst this
      omega
    · obtain rfl : p = R.length := by omega
      rw [pzat_new] at h9 ⊢
      rw [pzns, if_pos ⟨h9, rfl⟩, pzct_no h.1 (pz_fresh h.2 (pz_tlm (Or.inr h9))), ite_self]
/-- words in a bracket: those between its ends -/
theorem pz_cw {R : List zIt} (h : pzV R) : ∀ p, p < R.length → (1 ≤ (pzat R p).sg ∧ (pzat R p).sg ≤ 3) → (p ∈ pzstk R → pzwn (pzpre R (p + 1)) + pzcw R p = pzwn R) ∧ (p ∉ pzstk R → pzwn (pzpre R (p + 1)) + pzcw R p = pzwn (pzpre R (pzlk R p))) := by
  induction R with
  | nil => intro p hp; rw [List.length_nil] at hp; omega
  | cons x R ih =>
    intro p hp ho
    rw [List.length_cons] at hp
    by_cases z : p < R.length
    · rw [pzat_old x z] at ho
      obtain ⟨a, b⟩ := ih h.1 p z ho
      rw [pzpre_old x (show p + 1 ≤ R.length by omega), pzcw]
      by_cases y : p ∈ pzstk R
      · have a' := a y
        rcases pz_cases x with w | w | w
        · rw [pzstk_o R w, pzwn, if_neg (show ¬ (x.sg = 0 ∨ x.sg = 8 ∨ x.sg = 9) by omega), if_neg (by omega)]
          exact ⟨fun _ => a', fun v => absurd (List.mem_cons_of_mem _ y) v⟩
        · obtain ⟨q, l, e1, e2, e3, e4⟩ := h.2.2.2.2.1 w
          rw [pzstk_c R w, pzwn, if_neg (show ¬ (x.sg = 0 ∨ x.sg = 8 ∨ x.sg = 9) by omega), if_neg (by omega)]
          refine ⟨fun _ => a', fun v => ?_⟩
          rw [e1, List.tail_cons] at v
          rw [e1] at y
          have e : p = q := (List.mem_cons.1 y).resolve_right v
          subst e
          have el : pzlk (x :: R) p = R.length := if_pos (Or.inl ⟨w.1, w.2, by rw [e1]; rfl⟩)
          rw [el, pzpre_old x (Nat.le_refl _), pzpre_all]
          exact a'
        · rw [pzstk_e R w, pzwn]
          refine ⟨fun _ => ?_, fun v => absurd y v⟩
          by_cases u : x.sg = 0 ∨ x.sg = 8 ∨ x.sg = 9
          · rw [if_pos u, if_pos ⟨u, y⟩]; omega
          · rw [if_neg u, if_neg (fun v => u v.1)]; exact a'
      · have b' := b y
        have no10 : ¬ (x.sg = 10 ∧ pzrw R = p) := by
          rintro ⟨y1, y2⟩
          have := (pzrw_ok h.1 (pz_10 h.2 y1)).2.1
          rw [y2] at this
          omega
        have el : pzlk (x :: R) p = pzlk R p := pzlk_old (fun v => y (List.mem_of_mem_head? v.2.2)) no10
        have hlt : pzlk R p < R.length := by
          rcases pz_opn h.1 p z ho with v | v
          · exact absurd v y
          · exact v.2.2.1
        rw [if_neg (fun v => y v.2), el, pzpre_old x (Nat.le_of_lt hlt)]
        refine ⟨fun v => ?_, fun _ => b'⟩
        rcases pz_cases x with w | w | w
        · rw [pzstk_o R w] at v
          rcases List.mem_cons.1 v with v | v
          · omega
          · exact absurd v y
        · rw [pzstk_c R w] at v; exact absurd (List.mem_of_mem_tail v) y
        · rw [pzstk_e R w] at v; exact absurd v y
    · obtain rfl : p = R.length := by omega
      have e : pzpre (x :: R) (R.length + 1) = x :: R := if_pos (by omega)
      rw [pzat_new] at ho
      have e0 : pzcw (x :: R) R.length = 0 := by rw [pzcw, pzcw_0 h.1 _ (Nat.le_refl _), if_neg (by omega)]
      rw [e, e0, pzstk_o R ho]
      exact ⟨fun _ => rfl, fun v => absurd List.mem_cons_self v⟩
-- the printing
def pzpx (l : List Nat) (x : zIt) : List Nat :=
  if x.sg = 0 then zpn l x.wd
  else if x.sg = 1 then zpn (l ++ [123]) x.mk ++ [58]
  else if x.sg = 2 then (if x.sd = 0 then zpn (l ++ [91]) x.mk else zpn (zpn (l ++ [91]) x.mk ++ [33]) (x.sd - 1)) ++ [58]
  else if x.sg = 3 then zpn (l ++ [60]) x.mk ++ [58]
  else if x.sg = 4 then l ++ [125]
  else if x.sg = 5 then l ++ [93]
  else if x.sg = 6 then l ++ [62]
  else if x.sg = 7 then zpn (l ++ [42]) x.mk
  else if x.sg = 8 then zpn (l ++ [40]) x.wd
  else if x.sg = 9 then zpn (zpn (l ++ [47]) x.mk) x.wd
  else l ++ [41]
def pzpr : List zIt → List Nat
  | [] => []
  | x :: R => pzpx (pzpr R) x
theorem pz_pl {R : List zIt} (h : pzV R) : ∀ k, k ≤ R.length → zpl' (pzT R) k = pzpr (pzpre R k) := by
  intro k
  induction k with
  | zero => intro _; rw [pzpre_0]; rfl
  | succ k ih =>
    intro hk
    rw [pzpre_s R k hk, pzpr, zpl', ih (by omega)]
    have e1 : (pzT R).sg k = (pzat R k).sg := rfl
    have e2 : (pzT R).mk k = (pzat R k).mk := rfl
    have e3 : (pzT R).wd k = (pzat R k).wd := rfl
    have e4 : (pzT R).sd (pzat R k).mk = pzsd R (pzat R k).mk := rfl
    unfold zpi pzpx
    rw [e1, e2, e3, e4]
    by_cases z : (pzat R k).sg = 2
    · have n0 : ¬ (pzat R k).sg = 0 := by omega
      have n1 : ¬ (pzat R k).sg = 1 := by omega
      rw [if_neg n0, if_neg n1, if_pos z, if_neg n0, if_neg n1, if_pos z, pzsd_at h hk (by omega)]
      by_cases y : (pzat R k).sd = 0
      · rw [if_pos y, if_pos y]
      · rw [if_neg y, if_neg y]
    · rw [if_neg z, if_neg z]
