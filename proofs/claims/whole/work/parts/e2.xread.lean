/-! the class: readInto -/
def pzFR (b : Bool) (s t : zq_S) : Prop :=
  (∀ k j, k ≠ 26 → k ≠ zs b → zgf t k j = zgf s k j) ∧ (∀ i, i ≠ 2 → zgb t i = zgb s i) ∧ (∀ k, (k < zs b ∨ zs b + 11 < k) → k ≠ 28 → k ≠ 29 → k ≠ 30 → zA t k = zA s k) ∧ (∀ k, zL t k = zL s k)
theorem pzFR_tr {b : Bool} {s t u : zq_S} (h1 : pzFR b s t) (h2 : pzFR b t u) : pzFR b s u :=
  ⟨fun k j a c => (h2.1 k j a c).trans (h1.1 k j a c), fun i a => (h2.2.1 i a).trans (h1.2.1 i a), fun k a c d e => (h2.2.2.1 k a c d e).trans (h1.2.2.1 k a c d e), fun k => (h2.2.2.2 k).trans (h1.2.2.2 k)⟩
theorem pzFR_of {b : Bool} {s t : zq_S} (f : pzFX b s t) : pzFR b s t := by
  refine ⟨fun k j a c => f.f k j ?_, fun i _ => f.b i, fun k a c d e => f.a k ?_, fun k => f.l k List.not_mem_nil⟩
  · simp only [List.mem_cons, Prod.mk.injEq, List.not_mem_nil, or_false]
    omega
  · simp only [List.mem_cons, List.not_mem_nil, or_false]
    omega
theorem mX5_start_w (N : Nat) {h : List Nat} {b : Bool} {s : zq_S} (hs : zHX h s) : zw (mX5_start N b s) (fun v => pzFR b s v.2 ∧ pzCX h b [] 0 v.2) := by
  have hb := zs_c b
  unfold mX5_start mX7_wipe
  dsimp only [zq_let]
  rw [zb2_some]
  refine zw_some.2 ?_
  dsimp only
  simp only [zpfi_eq]
  refine ⟨⟨fun k j a c => ?_, fun i a => ?_, fun k a c d e => ?_, fun k => rfl⟩, ⟨?_, ?_, hs.2.2⟩, ?_, ?_, ?_, ?_, fun y => absurd rfl y, trivial, ?_, ?_, ⟨?_, fun i hi => absurd hi (Nat.not_lt_zero i), ?_⟩, fun k hk => absurd hk (Nat.not_lt_zero k), fun m hm => ⟨?_, ?_, ?_, fun y => ?_, fun y => ?_, fun y => ?_, ?_, ?_⟩⟩
  · simp only [zgf_sA, zgf_pf, zgf_pb]
    repeat rw [if_neg (by omega)]
  · simp only [zgb_sA, zgb_pf, zgb_pb]
    rw [if_neg a]
  · simp only [zA_sA, zA_pf, zA_pb]
    repeat rw [if_neg (by omega)]
  · simp only [zgf_sA, zgf_pf, zgf_pb]
    repeat rw [if_neg (by omega)]
    exact hs.1
  · simp only [zA_sA, zA_pf, zA_pb]
    repeat rw [if_neg (by omega)]
    exact hs.2.1
  · simp only [zgb_sA, zgb_pf, zgb_pb]
    rw [if_pos trivial]
  · simp only [zgf_sA, zgf_pf, zgf_pb]
    simp
  · simp only [zgf_sA, zgf_pf, zgf_pb]
    simp
    rfl
  · simp only [zgf_sA, zgf_pf, zgf_pb]
    simp
    rfl
  · simp only [zgf_sA, zgf_pf, zgf_pb]
    rcases hb with y | y <;> rw [y] <;> rfl
  · simp only [zgf_sA, zgf_pf, zgf_pb]
    rcases hb with y | y <;> rw [y] <;> rfl
  · simp only [zgf_sA, zgf_pf, zgf_pb]
    rcases hb with y | y <;> rw [y] <;> rfl
  · simp only [zgf_sA, zgf_pf, zgf_pb]
    rcases hb with y | y <;> rw [y] <;> rfl
  · simp only [zA_sA, zA_pf, zA_pb]
    rw [if_neg (by omega), if_neg (by omega), if_neg (by omega), if_neg (by omega), if_pos trivial]
    rw [if_pos hm]; rfl
  · simp only [zA_sA, zA_pf, zA_pb]
    rw [if_neg (by omega), if_neg (by omega), if_neg (by omega), if_pos trivial]
    rw [if_pos hm]; rfl
  · simp only [zA_sA, zA_pf, zA_pb]
    rw [if_neg (by omega), if_neg (by omega), if_pos trivial]
    rw [if_pos hm]; rfl
  · rw [pzmk, Nat.zero_testBit] at y; cases y
  · rw [pzmv, Nat.zero_testBit] at y; cases y
  · rw [pzsr, Nat.zero_testBit] at y; cases y
  · simp only [zA_sA, zA_pf, zA_pb]
    rw [if_neg (by omega), if_pos trivial]
    rw [if_pos hm, pzsr, Nat.zero_testBit]; rfl
  · simp only [zA_sA, zA_pf, zA_pb]
    rw [if_pos trivial]
    rw [if_pos hm, pzmv, Nat.zero_testBit]; rfl
theorem mX5_j106 (N : Nat) (b : Bool) (w2 w3 : Int32) (s : zq_S) : ∃ r, jX5_readInto_j106 N b w2 w3 s = some ((if w3 = (0 : Int32) then (if ((zgf s 26 7) &&& ((zgf s 26 7) + (1 : Int32))) = (0 : Int32) then w3 else (7 : Int32)) else w3), zpf (zpf (zpf s 26 2 (if (if w3 = (0 : Int32) then (if ((zgf s 26 7) &&& ((zgf s 26 7) + (1 : Int32))) = (0 : Int32) then w3 else (7 : Int32)) else w3) = (0 : Int32) then (-1 : Int32) else w2)) (zs b) 7 r) 26 1 0) ∧ (∀ S, S < 1024 → zgf s 26 7 = nI S → r = nI (zbc S 10)) := by
  have hbc : ∀ (x : Int32) (t : zq_S), ∃ r, mJ6_bitCount_0f7a4 N x t = some (r, t) ∧ (∀ S, S < 1024 → x = nI S → r = nI (zbc S 10)) := by
    intro x t
    refine ⟨_, rfl, fun S hS e => ?_⟩
    have a := mJ6_bc N hS t
    rw [← e] at a
    have := congrArg (Option.map Prod.fst) a
    exact Option.some.inj this
  unfold jX5_readInto_j106
  dsimp only [zq_let]
  generalize hx : (if (if w3 = (0 : Int32) then (if ((zgf s 26 7) &&& ((zgf s 26 7) + (1 : Int32))) = (0 : Int32) then w3 else (7 : Int32)) else w3) = (0 : Int32) then (-1 : Int32) else w2) = x14
  obtain ⟨r, e1, e2⟩ := hbc (zgf (zpf s 26 2 x14) 26 7) (zpf s 26 2 x14)
  refine ⟨r, ?_, fun S hS e => e2 S hS (by rw [zgf_pf, if_neg (by decide)]; exact e)⟩
  rw [e1, zb2_some]
def pzOut (h : List Nat) (c pl : Nat) (R : List zIt) : Prop :=
  ((pzG h [] 0).1 ≠ 0 ∧ c = (pzG h [] 0).1 ∧ pl = (pzG h [] 0).2.1) ∨ ((pzG h [] 0).1 = 0 ∧ R = (pzG h [] 0).2.2 ∧
   ((c = 6 ∧ ∃ k0, k0 < R.length ∧ pzln R k0 ∧ (∀ k, k < k0 → ¬ pzln R k) ∧ pl = (pzat R k0).ps) ∨
    ((∀ k, k < R.length → ¬ pzln R k) ∧ ((c = 7 ∧ pl = h.length ∧ pzmk R &&& (pzmk R + 1) ≠ 0) ∨ (c = 0 ∧ pzmk R &&& (pzmk R + 1) = 0)))))
theorem pzOut_ex (h : List Nat) : ∃ c pl R, pzOut h c pl R := by
  by_cases a : (pzG h [] 0).1 = 0
  · rcases pzln_first (pzG h [] 0).2.2 with y | ⟨k0, y1, y2, y3⟩
    · by_cases z : pzmk (pzG h [] 0).2.2 &&& (pzmk (pzG h [] 0).2.2 + 1) = 0
      · exact ⟨0, 0, _, Or.inr ⟨a, rfl, Or.inr ⟨y, Or.inr ⟨rfl, z⟩⟩⟩⟩
      · exact ⟨7, h.length, _, Or.inr ⟨a, rfl, Or.inr ⟨y, Or.inl ⟨rfl, rfl, z⟩⟩⟩⟩
    · exact ⟨6, _, _, Or.inr ⟨a, rfl, Or.inl ⟨rfl, k0, y1, y2, y3, rfl⟩⟩⟩
  · exact ⟨_, _, [], Or.inl ⟨a, rfl, rfl⟩⟩
theorem pzI_0 (h : List Nat) : pzI h [] 0 := by
  refine ⟨trivial, ⟨Nat.le_refl _, Nat.zero_le _, fun y => ?_⟩, fun k hk => absurd hk (Nat.not_lt_zero k), fun j k _ hk => absurd hk (Nat.not_lt_zero k)⟩
  exact absurd y.1 (by decide)
theorem pzgo_le (h : List Nat) : ∀ d R p, pzI h R p → (pzgo h d R p).1 ≤ 5 := by
  intro d
  induction d with
  | zero => intro R p _; exact Nat.zero_le _
  | succ d ih =>
    intro R p hI
    rw [pzgo]
    by_cases a : zskp h p < h.length
    · rw [if_pos a]
      by_cases c : (pzS h R (zskp h p)).1.1 = 0
      · rw [if_pos c]; exact ih _ _ (pzS_ok hI a c).1
      · rw [if_neg c]; exact pzS_le h R (zskp h p)
    · rw [if_neg a]
      by_cases c : pzph R = 0 ∧ pzstk R = []
      · rw [if_pos c]; exact Nat.zero_le _
      · rw [if_neg c]; show 1 ≤ 5; omega
theorem pzG_le (h : List Nat) : (pzG h [] 0).1 ≤ 5 := pzgo_le h _ _ _ (pzI_0 h)
/-- what the class's spare sheet holds at the end -/
def pzFin (b : Bool) (R : List zIt) (s : zq_S) : Prop :=
  zgf s (zs b) 6 = nI R.length ∧ zgf s (zs b) 7 = nI (zbc (pzmk R) 10) ∧ zgf s (zs b) 8 = nI (pzwn R) ∧ pzPr b s (pzpr R) (pznl (pzpr R)) ∧ (∀ k, k < R.length → pzXi b R s k) ∧ (∀ m, m < 10 → pzXm b R s m)
theorem mX5_readInto_w (N : Nat) (hN : 5000 ≤ N) {h : List Nat} {b : Bool} {s : zq_S} (hs : zHX h s) {c pl : Nat} {R : List zIt} (hO : pzOut h c pl R) :
    zw (mX5_readInto N b s) (fun v => v.1 = nI c ∧ pzFR b s v.2 ∧ zgb v.2 2 = b ∧ zgf v.2 26 2 = (if c = 0 then -1 else nI pl) ∧ zgf v.2 26 1 = 0 ∧ (c = 0 → pzFin b R v.2)) := by
  have hb := zs_c b
  have hh := hs.2.2.1
  have h5 := pzG_le h
  have z0 : ∀ k, k ≠ 0 → k < 100 → ¬ nI k = (0 : Int32) := fun k a1 a2 => by rw [show (0 : Int32) = nI 0 from rfl, nI_eq (by omega) (by decide)]; exact a1
  unfold mX5_readInto
  refine zw_call (mX5_start_w N hs) ?_
  intro r0 s2 ⟨F0, C0⟩
  dsimp only at F0 C0 ⊢
  have hc : c < 100 := by
    rcases hO with ⟨_, a, _⟩ | ⟨_, _, ⟨a, _⟩ | ⟨_, ⟨a, _⟩ | ⟨a, _⟩⟩⟩ <;> omega
  -- behind j106
  have fin : ∀ (t : zq_S) (w2 w3 : Int32), pzFX b s2 t → (if w3 = (0 : Int32) then (if ((zgf t 26 7) &&& ((zgf t 26 7) + (1 : Int32))) = (0 : Int32) then w3 else (7 : Int32)) else w3) = nI c → (c ≠ 0 → w2 = nI pl) → (c = 0 → pzCX h b R 0 t) → (c = 0 → pzV R) →
      zw (jX5_readInto_j106 N b w2 w3 t) (fun v => v.1 = nI c ∧ pzFR b s v.2 ∧ zgb v.2 2 = b ∧ zgf v.2 26 2 = (if c = 0 then -1 else nI pl) ∧ zgf v.2 26 1 = 0 ∧ (c = 0 → pzFin b R v.2)) := by
    intro t w2 w3 F e1 e2 e3 eV
    obtain ⟨r, e4, e5⟩ := mX5_j106 N b w2 w3 t
    rw [e4, e1]
    refine zw_some.2 ⟨rfl, ?_, ?_, ?_, rfl, fun y => ?_⟩
    · refine pzFR_tr (pzFR_tr F0 (pzFR_of F)) ⟨fun k j a1 a2 => ?_, fun i _ => rfl, fun k _ _ _ _ => rfl, fun k => rfl⟩
      dsimp only
      rw [zgf_pf, if_neg (by omega), zgf_pf, if_neg (by omega), zgf_pf, if_neg (by omega)]
    · show zgb t 2 = b
      rw [F.b 2]; exact C0.2.1
    · dsimp only
      rw [zgf_pf, if_neg (by decide), zgf_pf, if_neg (by omega), zgf_pf, if_pos ⟨rfl, rfl⟩]
      by_cases y : c = 0
      · rw [if_pos y, if_pos (by rw [y]; rfl)]
      · rw [if_neg y, if_neg (z0 c y hc)]; exact e2 y
    · obtain ⟨c1, c2, c3, c4, c5, c6, c7, c8, c9, c10, c11, c12⟩ := e3 y
      refine ⟨?_, ?_, ?_, ?_, c11, c12⟩
      · dsimp only
        rw [zgf_pf, if_neg (by omega), zgf_pf, if_neg (by omega), zgf_pf, if_neg (by omega)]; exact c8
      · dsimp only
        rw [zgf_pf, if_neg (by omega), zgf_pf, if_pos ⟨rfl, rfl⟩]
        exact e5 _ (pzmk_lt (eV y)) c5
      · dsimp only
        rw [zgf_pf, if_neg (by omega), zgf_pf, if_neg (by omega), zgf_pf, if_neg (by omega)]; exact c9
      · refine pzPr_fr c10 ?_ ?_ rfl
        · dsimp only
          rw [zgf_pf, if_neg (by omega), zgf_pf, if_neg (by omega), zgf_pf, if_neg (by omega)]
        · dsimp only
          rw [zgf_pf, if_neg (by omega), zgf_pf, if_neg (by omega), zgf_pf, if_neg (by omega)]
  have road := X_road (N := N) (h := h) (b := b) (K := fun e9 => jX5_readInto_j64 N b e9.1 e9.2.1 e9.2.2) (Q := fun v => v.1 = nI c ∧ pzFR b s v.2 ∧ zgb v.2 2 = b ∧ zgf v.2 26 2 = (if c = 0 then -1 else nI pl) ∧ zgf v.2 26 1 = 0 ∧ (c = 0 → pzFin b R v.2)) hN (h.length + 1) [] 0 s2 (by omega) (pzI_0 h) C0
  refine road (fun a => ?_) (fun a t p' F hI C h0 he => ?_) N 0 (Nat.le_refl _) (by omega)
  · rcases hO with ⟨_, a1, a2⟩ | ⟨a1, _⟩
    · rw [← a1, ← a2]
      have c0 : c ≠ 0 := by rw [a1]; exact a
      refine ⟨fun t F _ => ?_, fun c1 p1 t F hE => ?_⟩
      · unfold jX5_readInto_j64
        dsimp only [zq_let]
        rw [if_neg (z0 c c0 hc), mX5_loneArrow_eq N hN, zb2_some, if_neg (z0 c c0 hc)]
        exact fin t _ _ F (if_neg (z0 c c0 hc)) (fun _ => rfl) (fun y => absurd y c0) (fun y => absurd y c0)
      · unfold jX5_readInto_j64
        dsimp only [zq_let]
        have e10 : (if (0 : Int32) = 0 then (if (zgf t 26 4) = (0 : Int32) then (if (zgf t 26 6) ≤ (0 : Int32) then (0 : Int32) else (1 : Int32)) else (1 : Int32)) else 0) = 1 := by
          rw [if_pos rfl]
          by_cases y : zgf t 26 4 = 0
          · rw [if_pos y, if_neg (hE.elim (fun w => absurd y w) id)]
          · rw [if_neg y]
        rw [e10, mX5_loneArrow_eq N hN, zb2_some, if_neg (show ¬ (1 : Int32) = 0 by decide)]
        exact fin t _ _ F (by rw [if_neg (show ¬ (1 : Int32) = 0 by decide), c1]; rfl) (fun _ => by rw [p1]) (fun y => absurd y c0) (fun y => absurd y c0)
    · exact absurd a1 a
  · rcases hO with ⟨a1, _⟩ | ⟨_, a2, hO⟩
    · exact absurd a a1
    · rw [← a2] at hI C h0 he
      have hV := hI.1
      have r29 : ∀ m, m < 10 → zA t 29 m = (if (pzsr R).testBit m then nI (pzat R (pzsx R m)).ps else -1) := fun m hm => (C.2.2.2.2.2.2.2.2.2.2.2 m hm).2.2.2.2.2.2.1
      have r30 : ∀ m, m < 10 → zA t 30 m = (if (pzmv R).testBit m then nI (pzat R (pzop R m)).ps else -1) := fun m hm => (C.2.2.2.2.2.2.2.2.2.2.2 m hm).2.2.2.2.2.2.2
      unfold jX5_readInto_j64
      dsimp only [zq_let]
      have e10 : (if (0 : Int32) = 0 then (if (zgf t 26 4) = (0 : Int32) then (if (zgf t 26 6) ≤ (0 : Int32) then (0 : Int32) else (1 : Int32)) else (1 : Int32)) else 0) = 0 := by
        rw [if_pos rfl, if_pos C.2.2.1, C.2.2.2.1, he, if_pos (by decide)]
      rw [e10, mX5_loneArrow_eq N hN, zb2_some]
      dsimp only
      rw [if_pos rfl]
      rcases hO with ⟨b1, k0, b2, b3, b4, b5⟩ | ⟨b1, hO⟩
      · obtain ⟨m1, m2⟩ := pzlm_first hh hI r29 r30 b2 b3 b4
        rw [m1, if_neg (zlm_nn _ m2).1]
        exact fin t _ _ F (by rw [if_neg (show ¬ (6 : Int32) = 0 by decide), b1]; rfl) (fun _ => by rw [b5]) (fun y => by omega) (fun y => by omega)
      · rw [pzlm_none hh hI r29 r30 b1, if_pos rfl]
        have hM := pzmk_lt hV
        have e7 : (zgf t 26 7 &&& (zgf t 26 7 + 1) = 0) ↔ pzmk R &&& (pzmk R + 1) = 0 := by
          rw [C.2.2.2.2.1, nI_1, zn_and, show (0 : Int32) = nI 0 from rfl]
          have := @Nat.and_le_left (pzmk R) (pzmk R + 1)
          exact nI_eq (by omega) (by decide)
        rcases hO with ⟨b2, b3, b4⟩ | ⟨b2, b3⟩
        · exact fin t _ _ F (by rw [if_pos rfl, if_neg (fun y => b4 (e7.1 y)), b2]; rfl) (fun _ => by rw [b3]) (fun y => by omega) (fun y => by omega)
        · exact fin t _ _ F (by rw [if_pos rfl, if_pos (e7.2 b3), b2]; rfl) (fun y => absurd b2 y) (fun _ => C) (fun _ => hV)
