def zq_XL (L : Nat) (xs : Nat → Int32) (pc : Nat) (ls st : List Value) (s : zq_S) (code : Option (Int32 × zq_S)) : Prop :=
  ∀ (y : MethodName) (v : Int32 × zq_S), code = some v → zq_R (some (L, xs)) y RL cL_law 4 (some .boolean) room_1 98 97389 0 (none, []) pc ls st (zq_en s) 98 97389
section zlRules
variable {L : Nat} {xs : Nat → Int32} {pc pc' : Nat} {ls st : List Value} {s : zq_S} {code : Option (Int32 × zq_S)}
theorem zl_lift {pc' : Nat} {ls' st' : List Value} (f : ∀ y : MethodName, zq_R (some (L, xs)) y RL cL_law 4 (some .boolean) room_1 98 97389 0 (none, []) pc' ls' st' (zq_en s) 98 97389 → zq_R (some (L, xs)) y RL cL_law 4 (some .boolean) room_1 98 97389 0 (none, []) pc ls st (zq_en s) 98 97389) (K : zq_XL L xs pc' ls' st' s code) : zq_XL L xs pc ls st s code := fun y v h => f y (K y v h)
theorem zl_less (ls' : List Value) (hl : zq_le ls' ls) (K : zq_XL L xs pc ls' st s code) : zq_XL L xs pc ls st s code := fun y v h => zq_less ls' (zq_le_get hl) (K y v h)
theorem zl_lessJ {ls' : List Value} (hl : zq_le ls' ls) (K : zq_XL L xs pc ls' st s code) : zq_XL L xs pc ls st s code := fun y v h => zq_less ls' (zq_le_get hl) (K y v h)
theorem zl_none : zq_XL L xs pc ls st s none := fun y v h => by cases h
theorem zl_ite {c : Prop} [Decidable c] {a b : Option (Int32 × zq_S)} (Kt : c → zq_XL L xs pc ls st s a) (Kf : ¬ c → zq_XL L xs pc ls st s b) : zq_XL L xs pc ls st s (if c then a else b) := by
  intro y v h
  by_cases hc : c
  · rw [if_pos hc] at h; exact Kt hc y v h
  · rw [if_neg hc] at h; exact Kf hc y v h
theorem zl_litE {α : Type} {c : Prop} [Decidable c] {a b : α} {f : α → Option (Int32 × zq_S)} (Kt : c → zq_XL L xs pc ls st s (zq_let a f)) (Kf : ¬ c → zq_XL L xs pc ls st s (zq_let b f)) : zq_XL L xs pc ls st s (zq_let (if c then a else b) f) := by
  intro y v h
  by_cases hc : c
  · rw [if_pos hc] at h; exact Kt hc y v h
  · rw [if_neg hc] at h; exact Kf hc y v h
theorem zl_tern {α : Type} {e : α} {f : α → Option (Int32 × zq_S)} {pcJ : Nat} {lsJ stJ : α → List Value} (h1 : ∀ x, zq_XL L xs pcJ (lsJ x) (stJ x) s (f x)) (h2 : ∀ f : α → Option (Int32 × zq_S), (∀ x, zq_XL L xs pcJ (lsJ x) (stJ x) s (f x)) → zq_XL L xs pc ls st s (zq_let e f)) : zq_XL L xs pc ls st s (zq_let e f) := h2 f h1
theorem zl_if_eq {x : Int32} {off : Int} {tgt : Nat} {a b : Option (Int32 × zq_S)} (hd : decode cL_law pc = .ok (.ifCond .eq off, 3)) (ht : (pc : Int) + off = (tgt : Int)) (hn : pc + 3 = pc') (Kt : x = 0 → zq_XL L xs tgt ls st s a) (Kf : ¬ (x = 0) → zq_XL L xs pc' ls st s b) : zq_XL L xs pc ls (.int x :: st) s (if x = 0 then a else b) := by
  refine zl_ite (fun hc => ?_) (fun hc => ?_)
  · exact fun y v h => zq_if_eq hd ht hn (fun _ => Kt hc y v h) (fun q => absurd hc q)
  · exact fun y v h => zq_if_eq hd ht hn (fun q => absurd q hc) (fun _ => Kf hc y v h)
theorem zl_lif_eq {x : Int32} {off : Int} {tgt : Nat} {α : Type} {a b : α} {f : α → Option (Int32 × zq_S)} (hd : decode cL_law pc = .ok (.ifCond .eq off, 3)) (ht : (pc : Int) + off = (tgt : Int)) (hn : pc + 3 = pc') (Kt : x = 0 → zq_XL L xs tgt ls st s (zq_let a f)) (Kf : ¬ (x = 0) → zq_XL L xs pc' ls st s (zq_let b f)) : zq_XL L xs pc ls (.int x :: st) s (zq_let (if x = 0 then a else b) f) := by
  refine zl_litE (fun hc => ?_) (fun hc => ?_)
  · exact fun y v h => zq_if_eq hd ht hn (fun _ => Kt hc y v h) (fun q => absurd hc q)
  · exact fun y v h => zq_if_eq hd ht hn (fun q => absurd q hc) (fun _ => Kf hc y v h)
theorem zl_if_ne {x : Int32} {off : Int} {tgt : Nat} {a b : Option (Int32 × zq_S)} (hd : decode cL_law pc = .ok (.ifCond .ne off, 3)) (ht : (pc : Int) + off = (tgt : Int)) (hn : pc + 3 = pc') (Kt : ¬ (x = 0) → zq_XL L xs tgt ls st s b) (Kf : x = 0 → zq_XL L xs pc' ls st s a) : zq_XL L xs pc ls (.int x :: st) s (if x = 0 then a else b) := by
  refine zl_ite (fun hc => ?_) (fun hc => ?_)
  · exact fun y v h => zq_if_ne hd ht hn (fun q => absurd hc q) (fun _ => Kf hc y v h)
  · exact fun y v h => zq_if_ne hd ht hn (fun _ => Kt hc y v h) (fun q => absurd q hc)
theorem zl_lif_ne {x : Int32} {off : Int} {tgt : Nat} {α : Type} {a b : α} {f : α → Option (Int32 × zq_S)} (hd : decode cL_law pc = .ok (.ifCond .ne off, 3)) (ht : (pc : Int) + off = (tgt : Int)) (hn : pc + 3 = pc') (Kt : ¬ (x = 0) → zq_XL L xs tgt ls st s (zq_let b f)) (Kf : x = 0 → zq_XL L xs pc' ls st s (zq_let a f)) : zq_XL L xs pc ls (.int x :: st) s (zq_let (if x = 0 then a else b) f) := by
  refine zl_litE (fun hc => ?_) (fun hc => ?_)
  · exact fun y v h => zq_if_ne hd ht hn (fun q => absurd hc q) (fun _ => Kf hc y v h)
  · exact fun y v h => zq_if_ne hd ht hn (fun _ => Kt hc y v h) (fun q => absurd q hc)
theorem zl_if_lt {x : Int32} {off : Int} {tgt : Nat} {a b : Option (Int32 × zq_S)} (hd : decode cL_law pc = .ok (.ifCond .lt off, 3)) (ht : (pc : Int) + off = (tgt : Int)) (hn : pc + 3 = pc') (Kt : x < 0 → zq_XL L xs tgt ls st s a) (Kf : ¬ (x < 0) → zq_XL L xs pc' ls st s b) : zq_XL L xs pc ls (.int x :: st) s (if x < 0 then a else b) := by
  refine zl_ite (fun hc => ?_) (fun hc => ?_)
  · exact fun y v h => zq_if_lt hd ht hn (fun _ => Kt hc y v h) (fun q => absurd hc q)
  · exact fun y v h => zq_if_lt hd ht hn (fun q => absurd q hc) (fun _ => Kf hc y v h)
theorem zl_lif_lt {x : Int32} {off : Int} {tgt : Nat} {α : Type} {a b : α} {f : α → Option (Int32 × zq_S)} (hd : decode cL_law pc = .ok (.ifCond .lt off, 3)) (ht : (pc : Int) + off = (tgt : Int)) (hn : pc + 3 = pc') (Kt : x < 0 → zq_XL L xs tgt ls st s (zq_let a f)) (Kf : ¬ (x < 0) → zq_XL L xs pc' ls st s (zq_let b f)) : zq_XL L xs pc ls (.int x :: st) s (zq_let (if x < 0 then a else b) f) := by
  refine zl_litE (fun hc => ?_) (fun hc => ?_)
  · exact fun y v h => zq_if_lt hd ht hn (fun _ => Kt hc y v h) (fun q => absurd hc q)
  · exact fun y v h => zq_if_lt hd ht hn (fun q => absurd q hc) (fun _ => Kf hc y v h)
theorem zl_if_ge {x : Int32} {off : Int} {tgt : Nat} {a b : Option (Int32 × zq_S)} (hd : decode cL_law pc = .ok (.ifCond .ge off, 3)) (ht : (pc : Int) + off = (tgt : Int)) (hn : pc + 3 = pc') (Kt : 0 ≤ x → zq_XL L xs tgt ls st s a) (Kf : ¬ (0 ≤ x) → zq_XL L xs pc' ls st s b) : zq_XL L xs pc ls (.int x :: st) s (if 0 ≤ x then a else b) := by
  refine zl_ite (fun hc => ?_) (fun hc => ?_)
  · exact fun y v h => zq_if_ge hd ht hn (fun _ => Kt hc y v h) (fun q => absurd hc q)
  · exact fun y v h => zq_if_ge hd ht hn (fun q => absurd q hc) (fun _ => Kf hc y v h)
theorem zl_lif_ge {x : Int32} {off : Int} {tgt : Nat} {α : Type} {a b : α} {f : α → Option (Int32 × zq_S)} (hd : decode cL_law pc = .ok (.ifCond .ge off, 3)) (ht : (pc : Int) + off = (tgt : Int)) (hn : pc + 3 = pc') (Kt : 0 ≤ x → zq_XL L xs tgt ls st s (zq_let a f)) (Kf : ¬ (0 ≤ x) → zq_XL L xs pc' ls st s (zq_let b f)) : zq_XL L xs pc ls (.int x :: st) s (zq_let (if 0 ≤ x then a else b) f) := by
  refine zl_litE (fun hc => ?_) (fun hc => ?_)
  · exact fun y v h => zq_if_ge hd ht hn (fun _ => Kt hc y v h) (fun q => absurd hc q)
  · exact fun y v h => zq_if_ge hd ht hn (fun q => absurd q hc) (fun _ => Kf hc y v h)
theorem zl_if_gt {x : Int32} {off : Int} {tgt : Nat} {a b : Option (Int32 × zq_S)} (hd : decode cL_law pc = .ok (.ifCond .gt off, 3)) (ht : (pc : Int) + off = (tgt : Int)) (hn : pc + 3 = pc') (Kt : 0 < x → zq_XL L xs tgt ls st s a) (Kf : ¬ (0 < x) → zq_XL L xs pc' ls st s b) : zq_XL L xs pc ls (.int x :: st) s (if 0 < x then a else b) := by
  refine zl_ite (fun hc => ?_) (fun hc => ?_)
  · exact fun y v h => zq_if_gt hd ht hn (fun _ => Kt hc y v h) (fun q => absurd hc q)
  · exact fun y v h => zq_if_gt hd ht hn (fun q => absurd q hc) (fun _ => Kf hc y v h)
theorem zl_lif_gt {x : Int32} {off : Int} {tgt : Nat} {α : Type} {a b : α} {f : α → Option (Int32 × zq_S)} (hd : decode cL_law pc = .ok (.ifCond .gt off, 3)) (ht : (pc : Int) + off = (tgt : Int)) (hn : pc + 3 = pc') (Kt : 0 < x → zq_XL L xs tgt ls st s (zq_let a f)) (Kf : ¬ (0 < x) → zq_XL L xs pc' ls st s (zq_let b f)) : zq_XL L xs pc ls (.int x :: st) s (zq_let (if 0 < x then a else b) f) := by
  refine zl_litE (fun hc => ?_) (fun hc => ?_)
  · exact fun y v h => zq_if_gt hd ht hn (fun _ => Kt hc y v h) (fun q => absurd hc q)
  · exact fun y v h => zq_if_gt hd ht hn (fun q => absurd q hc) (fun _ => Kf hc y v h)
theorem zl_if_le {x : Int32} {off : Int} {tgt : Nat} {a b : Option (Int32 × zq_S)} (hd : decode cL_law pc = .ok (.ifCond .le off, 3)) (ht : (pc : Int) + off = (tgt : Int)) (hn : pc + 3 = pc') (Kt : x ≤ 0 → zq_XL L xs tgt ls st s a) (Kf : ¬ (x ≤ 0) → zq_XL L xs pc' ls st s b) : zq_XL L xs pc ls (.int x :: st) s (if x ≤ 0 then a else b) := by
  refine zl_ite (fun hc => ?_) (fun hc => ?_)
  · exact fun y v h => zq_if_le hd ht hn (fun _ => Kt hc y v h) (fun q => absurd hc q)
  · exact fun y v h => zq_if_le hd ht hn (fun q => absurd q hc) (fun _ => Kf hc y v h)
theorem zl_lif_le {x : Int32} {off : Int} {tgt : Nat} {α : Type} {a b : α} {f : α → Option (Int32 × zq_S)} (hd : decode cL_law pc = .ok (.ifCond .le off, 3)) (ht : (pc : Int) + off = (tgt : Int)) (hn : pc + 3 = pc') (Kt : x ≤ 0 → zq_XL L xs tgt ls st s (zq_let a f)) (Kf : ¬ (x ≤ 0) → zq_XL L xs pc' ls st s (zq_let b f)) : zq_XL L xs pc ls (.int x :: st) s (zq_let (if x ≤ 0 then a else b) f) := by
  refine zl_litE (fun hc => ?_) (fun hc => ?_)
  · exact fun y v h => zq_if_le hd ht hn (fun _ => Kt hc y v h) (fun q => absurd hc q)
  · exact fun y v h => zq_if_le hd ht hn (fun q => absurd q hc) (fun _ => Kf hc y v h)
theorem zl_icmp_eq {x z : Int32} {off : Int} {tgt : Nat} {a b : Option (Int32 × zq_S)} (hd : decode cL_law pc = .ok (.if_icmp .eq off, 3)) (ht : (pc : Int) + off = (tgt : Int)) (hn : pc + 3 = pc') (Kt : x = z → zq_XL L xs tgt ls st s a) (Kf : ¬ (x = z) → zq_XL L xs pc' ls st s b) : zq_XL L xs pc ls (.int z :: .int x :: st) s (if x = z then a else b) := by
  refine zl_ite (fun hc => ?_) (fun hc => ?_)
  · exact fun y v h => zq_icmp_eq hd ht hn (fun _ => Kt hc y v h) (fun q => absurd hc q)
  · exact fun y v h => zq_icmp_eq hd ht hn (fun q => absurd q hc) (fun _ => Kf hc y v h)
theorem zl_licmp_eq {x z : Int32} {off : Int} {tgt : Nat} {α : Type} {a b : α} {f : α → Option (Int32 × zq_S)} (hd : decode cL_law pc = .ok (.if_icmp .eq off, 3)) (ht : (pc : Int) + off = (tgt : Int)) (hn : pc + 3 = pc') (Kt : x = z → zq_XL L xs tgt ls st s (zq_let a f)) (Kf : ¬ (x = z) → zq_XL L xs pc' ls st s (zq_let b f)) : zq_XL L xs pc ls (.int z :: .int x :: st) s (zq_let (if x = z then a else b) f) := by
  refine zl_litE (fun hc => ?_) (fun hc => ?_)
  · exact fun y v h => zq_icmp_eq hd ht hn (fun _ => Kt hc y v h) (fun q => absurd hc q)
  · exact fun y v h => zq_icmp_eq hd ht hn (fun q => absurd q hc) (fun _ => Kf hc y v h)
theorem zl_icmp_ne {x z : Int32} {off : Int} {tgt : Nat} {a b : Option (Int32 × zq_S)} (hd : decode cL_law pc = .ok (.if_icmp .ne off, 3)) (ht : (pc : Int) + off = (tgt : Int)) (hn : pc + 3 = pc') (Kt : ¬ (x = z) → zq_XL L xs tgt ls st s b) (Kf : x = z → zq_XL L xs pc' ls st s a) : zq_XL L xs pc ls (.int z :: .int x :: st) s (if x = z then a else b) := by
  refine zl_ite (fun hc => ?_) (fun hc => ?_)
  · exact fun y v h => zq_icmp_ne hd ht hn (fun q => absurd hc q) (fun _ => Kf hc y v h)
  · exact fun y v h => zq_icmp_ne hd ht hn (fun _ => Kt hc y v h) (fun q => absurd q hc)
theorem zl_licmp_ne {x z : Int32} {off : Int} {tgt : Nat} {α : Type} {a b : α} {f : α → Option (Int32 × zq_S)} (hd : decode cL_law pc = .ok (.if_icmp .ne off, 3)) (ht : (pc : Int) + off = (tgt : Int)) (hn : pc + 3 = pc') (Kt : ¬ (x = z) → zq_XL L xs tgt ls st s (zq_let b f)) (Kf : x = z → zq_XL L xs pc' ls st s (zq_let a f)) : zq_XL L xs pc ls (.int z :: .int x :: st) s (zq_let (if x = z then a else b) f) := by
  refine zl_litE (fun hc => ?_) (fun hc => ?_)
  · exact fun y v h => zq_icmp_ne hd ht hn (fun q => absurd hc q) (fun _ => Kf hc y v h)
  · exact fun y v h => zq_icmp_ne hd ht hn (fun _ => Kt hc y v h) (fun q => absurd q hc)
theorem zl_icmp_lt {x z : Int32} {off : Int} {tgt : Nat} {a b : Option (Int32 × zq_S)} (hd : decode cL_law pc = .ok (.if_icmp .lt off, 3)) (ht : (pc : Int) + off = (tgt : Int)) (hn : pc + 3 = pc') (Kt : x < z → zq_XL L xs tgt ls st s a) (Kf : ¬ (x < z) → zq_XL L xs pc' ls st s b) : zq_XL L xs pc ls (.int z :: .int x :: st) s (if x < z then a else b) := by
  refine zl_ite (fun hc => ?_) (fun hc => ?_)
  · exact fun y v h => zq_icmp_lt hd ht hn (fun _ => Kt hc y v h) (fun q => absurd hc q)
  · exact fun y v h => zq_icmp_lt hd ht hn (fun q => absurd q hc) (fun _ => Kf hc y v h)
theorem zl_licmp_lt {x z : Int32} {off : Int} {tgt : Nat} {α : Type} {a b : α} {f : α → Option (Int32 × zq_S)} (hd : decode cL_law pc = .ok (.if_icmp .lt off, 3)) (ht : (pc : Int) + off = (tgt : Int)) (hn : pc + 3 = pc') (Kt : x < z → zq_XL L xs tgt ls st s (zq_let a f)) (Kf : ¬ (x < z) → zq_XL L xs pc' ls st s (zq_let b f)) : zq_XL L xs pc ls (.int z :: .int x :: st) s (zq_let (if x < z then a else b) f) := by
  refine zl_litE (fun hc => ?_) (fun hc => ?_)
  · exact fun y v h => zq_icmp_lt hd ht hn (fun _ => Kt hc y v h) (fun q => absurd hc q)
  · exact fun y v h => zq_icmp_lt hd ht hn (fun q => absurd q hc) (fun _ => Kf hc y v h)
theorem zl_icmp_ge {x z : Int32} {off : Int} {tgt : Nat} {a b : Option (Int32 × zq_S)} (hd : decode cL_law pc = .ok (.if_icmp .ge off, 3)) (ht : (pc : Int) + off = (tgt : Int)) (hn : pc + 3 = pc') (Kt : z ≤ x → zq_XL L xs tgt ls st s a) (Kf : ¬ (z ≤ x) → zq_XL L xs pc' ls st s b) : zq_XL L xs pc ls (.int z :: .int x :: st) s (if z ≤ x then a else b) := by
  refine zl_ite (fun hc => ?_) (fun hc => ?_)
  · exact fun y v h => zq_icmp_ge hd ht hn (fun _ => Kt hc y v h) (fun q => absurd hc q)
  · exact fun y v h => zq_icmp_ge hd ht hn (fun q => absurd q hc) (fun _ => Kf hc y v h)
theorem zl_licmp_ge {x z : Int32} {off : Int} {tgt : Nat} {α : Type} {a b : α} {f : α → Option (Int32 × zq_S)} (hd : decode cL_law pc = .ok (.if_icmp .ge off, 3)) (ht : (pc : Int) + off = (tgt : Int)) (hn : pc + 3 = pc') (Kt : z ≤ x → zq_XL L xs tgt ls st s (zq_let a f)) (Kf : ¬ (z ≤ x) → zq_XL L xs pc' ls st s (zq_let b f)) : zq_XL L xs pc ls (.int z :: .int x :: st) s (zq_let (if z ≤ x then a else b) f) := by
  refine zl_litE (fun hc => ?_) (fun hc => ?_)
  · exact fun y v h => zq_icmp_ge hd ht hn (fun _ => Kt hc y v h) (fun q => absurd hc q)
  · exact fun y v h => zq_icmp_ge hd ht hn (fun q => absurd q hc) (fun _ => Kf hc y v h)
theorem zl_icmp_gt {x z : Int32} {off : Int} {tgt : Nat} {a b : Option (Int32 × zq_S)} (hd : decode cL_law pc = .ok (.if_icmp .gt off, 3)) (ht : (pc : Int) + off = (tgt : Int)) (hn : pc + 3 = pc') (Kt : z < x → zq_XL L xs tgt ls st s a) (Kf : ¬ (z < x) → zq_XL L xs pc' ls st s b) : zq_XL L xs pc ls (.int z :: .int x :: st) s (if z < x then a else b) := by
  refine zl_ite (fun hc => ?_) (fun hc => ?_)
  · exact fun y v h => zq_icmp_gt hd ht hn (fun _ => Kt hc y v h) (fun q => absurd hc q)
  · exact fun y v h => zq_icmp_gt hd ht hn (fun q => absurd q hc) (fun _ => Kf hc y v h)
theorem zl_licmp_gt {x z : Int32} {off : Int} {tgt : Nat} {α : Type} {a b : α} {f : α → Option (Int32 × zq_S)} (hd : decode cL_law pc = .ok (.if_icmp .gt off, 3)) (ht : (pc : Int) + off = (tgt : Int)) (hn : pc + 3 = pc') (Kt : z < x → zq_XL L xs tgt ls st s (zq_let a f)) (Kf : ¬ (z < x) → zq_XL L xs pc' ls st s (zq_let b f)) : zq_XL L xs pc ls (.int z :: .int x :: st) s (zq_let (if z < x then a else b) f) := by
  refine zl_litE (fun hc => ?_) (fun hc => ?_)
  · exact fun y v h => zq_icmp_gt hd ht hn (fun _ => Kt hc y v h) (fun q => absurd hc q)
  · exact fun y v h => zq_icmp_gt hd ht hn (fun q => absurd q hc) (fun _ => Kf hc y v h)
theorem zl_icmp_le {x z : Int32} {off : Int} {tgt : Nat} {a b : Option (Int32 × zq_S)} (hd : decode cL_law pc = .ok (.if_icmp .le off, 3)) (ht : (pc : Int) + off = (tgt : Int)) (hn : pc + 3 = pc') (Kt : x ≤ z → zq_XL L xs tgt ls st s a) (Kf : ¬ (x ≤ z) → zq_XL L xs pc' ls st s b) : zq_XL L xs pc ls (.int z :: .int x :: st) s (if x ≤ z then a else b) := by
  refine zl_ite (fun hc => ?_) (fun hc => ?_)
  · exact fun y v h => zq_icmp_le hd ht hn (fun _ => Kt hc y v h) (fun q => absurd hc q)
  · exact fun y v h => zq_icmp_le hd ht hn (fun q => absurd q hc) (fun _ => Kf hc y v h)
theorem zl_licmp_le {x z : Int32} {off : Int} {tgt : Nat} {α : Type} {a b : α} {f : α → Option (Int32 × zq_S)} (hd : decode cL_law pc = .ok (.if_icmp .le off, 3)) (ht : (pc : Int) + off = (tgt : Int)) (hn : pc + 3 = pc') (Kt : x ≤ z → zq_XL L xs tgt ls st s (zq_let a f)) (Kf : ¬ (x ≤ z) → zq_XL L xs pc' ls st s (zq_let b f)) : zq_XL L xs pc ls (.int z :: .int x :: st) s (zq_let (if x ≤ z then a else b) f) := by
  refine zl_litE (fun hc => ?_) (fun hc => ?_)
  · exact fun y v h => zq_icmp_le hd ht hn (fun _ => Kt hc y v h) (fun q => absurd hc q)
  · exact fun y v h => zq_icmp_le hd ht hn (fun q => absurd q hc) (fun _ => Kf hc y v h)
theorem zl_iinc {i : Nat} {n : Int} {x c : Int32} {f : Int32 → Option (Int32 × zq_S)} {ls' : Int32 → List Value} (hx : ls[i]? = some (.int x)) (hv : Int32.ofInt n = c) (hb : i < 4) (hok : zq_ok ls i = true) (hl : ∀ x, ls.set i (.int x) = ls' x) (hd : decode cL_law pc = .ok (.iinc i n, 3)) (hn : pc + 3 = pc') (K : ∀ x, zq_XL L xs pc' (ls' x) st s (f x)) : zq_XL L xs pc ls st s (zq_let (x + c) f) := fun y v h => zq_iinc hx (by rw [hv]) hb hok (hl _) hd hn (K _ y v h)
theorem zl_tabIn {dflt lo hi : Int} {offs : Array Int} {len : Nat} {x c : Int32} {off : Int} {tgt : Nat} (hc : x = c) (hd : decode cL_law pc = .ok (.tableswitch dflt lo hi offs, len)) (h1 : ¬ c.toInt < lo) (h2 : ¬ hi < c.toInt) (ho : offs[(c.toInt - lo).toNat]? = some off) (ht : (pc : Int) + off = (tgt : Int)) (K : zq_XL L xs tgt ls st s code) : zq_XL L xs pc ls (.int x :: st) s code := by
  subst hc
  exact fun y v h => zq_tabIn hd h1 h2 ho ht (K y v h)
theorem zl_tabOut {dflt lo hi : Int} {offs : Array Int} {len : Nat} {x : Int32} {tgt : Nat} (hd : decode cL_law pc = .ok (.tableswitch dflt lo hi offs, len)) (h1 : x.toInt < lo ∨ hi < x.toInt) (ht : (pc : Int) + dflt = (tgt : Int)) (K : zq_XL L xs tgt ls st s code) : zq_XL L xs pc ls (.int x :: st) s code := fun y v h => zq_tabOut hd h1 ht (K y v h)
theorem zl_sld {i : Int32} (hd : decode cL_law pc = .ok (.iaload, 1)) (hn : pc + 1 = pc') (K : zq_XL L xs pc' ls (.int (xs i.toNatClampNeg) :: st) s code) : zq_XL L xs pc ls (.int i :: .ref 1000000 :: st) s (zq_ck i L code) := fun y v h => zq_sld (zq_ck_some h).1 hd hn (K y v (zq_ck_some h).2)
theorem zl_ret (hd : decode cL_law pc = .ok (.ireturn, 1)) : zq_XL L xs pc ls [.int 1] s (some (1, s)) := fun y v h => zq_lawret rfl (by decide) (by decide) hd
theorem zl_cVi {y' : MethodName} {cc' : ByteArray} {nL' : Nat} {ret' : Option FieldType} {rm' : Room} {idx ci n k : Nat} {As rest st1 : List Value} {fc : Option (Int32 × zq_S)} {K : Int32 → zq_S → Option (Int32 × zq_S)} (cv : zq_cV RL idx ci y' cc' nL' ret' n) (hM : ∀ v, fc = some v → zq_MC y' cc' nL' ret' rm' 0 0 (.ref k :: As) (zq_en s) (zv_i v.1, zq_en v.2)) (hk : zq_ob k ci) (hn : As.length = n) (hrm : rm'.cells = 0 ∧ rm'.slots = 0 ∧ rm'.frames + 1 ≤ room_1.frames ∧ 8 + (nL' + 11) + rm'.locals ≤ room_1.locals) (hst : (rest.map fun v => v.category).sum ≤ 8) (hd : decode cL_law pc = .ok (.invokevirtual idx, 3)) (hpc : pc + 3 = pc') (hs1 : st1 = As.reverse ++ .ref k :: rest) (KK : ∀ r s', zq_XL L xs pc' ls (.int r :: rest) s' (K r s')) : zq_XL L xs pc ls st1 s (zq_b2 fc K) := by
  intro y v h
  cases hf : fc with
  | none => rw [hf] at h; cases h
  | some u =>
    rw [hf] at h
    obtain ⟨fts, hk⟩ := hk
    exact zq_callV cv (hM u hf) (zq_en_get hk) hn hrm ⟨by decide, by decide⟩ hst hd hpc hs1 (KK u.1 u.2 y v h)
theorem zl_cVl {y' : MethodName} {cc' : ByteArray} {nL' : Nat} {ret' : Option FieldType} {rm' : Room} {idx ci n k : Nat} {As rest st1 : List Value} {fc : Option (Int64 × zq_S)} {K : Int64 → zq_S → Option (Int32 × zq_S)} (cv : zq_cV RL idx ci y' cc' nL' ret' n) (hM : ∀ v, fc = some v → zq_MC y' cc' nL' ret' rm' 0 0 (.ref k :: As) (zq_en s) (zv_l v.1, zq_en v.2)) (hk : zq_ob k ci) (hn : As.length = n) (hrm : rm'.cells = 0 ∧ rm'.slots = 0 ∧ rm'.frames + 1 ≤ room_1.frames ∧ 8 + (nL' + 11) + rm'.locals ≤ room_1.locals) (hst : (rest.map fun v => v.category).sum ≤ 8) (hd : decode cL_law pc = .ok (.invokevirtual idx, 3)) (hpc : pc + 3 = pc') (hs1 : st1 = As.reverse ++ .ref k :: rest) (KK : ∀ r s', zq_XL L xs pc' ls (.long r :: rest) s' (K r s')) : zq_XL L xs pc ls st1 s (zq_b2 fc K) := by
  intro y v h
  cases hf : fc with
  | none => rw [hf] at h; cases h
  | some u =>
    rw [hf] at h
    obtain ⟨fts, hk⟩ := hk
    exact zq_callV cv (hM u hf) (zq_en_get hk) hn hrm ⟨by decide, by decide⟩ hst hd hpc hs1 (KK u.1 u.2 y v h)
end zlRules
