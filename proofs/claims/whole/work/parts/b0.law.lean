/-! the law's loop -/
theorem law_i {k : Nat} {g : zG} {cx cm : zq_S → Option (Int32 × zq_S)} (h : zStep k g cx cm) {s : zq_S} (hx : zXI g s) (hm : zMI g s) {F : zq_S → Option (Int32 × zq_S)} {Q : Int32 × zq_S → Prop} (hF : ∀ g' t, zOk (k + 1) g' → zXI g' t → zMI g' t → zw (F t) Q) :
    zw (zq_b2 (cx s) (fun r s2 => zq_b2 (cm s2) (fun r3 s4 => if r = r3 then F s4 else none))) Q := by
  obtain ⟨g', hk, hA⟩ := h
  obtain ⟨r0, ⟨⟨a, t⟩, e1, e2, e3, e4⟩, -⟩ := hA s s hx hm
  dsimp only at e2 e3 e4
  have hmt := zMI_SM hm e4
  obtain ⟨r1, ⟨⟨a', t'⟩, f1, f2, f3, f4⟩, ⟨⟨b, u⟩, g1, g2, g3, g4⟩⟩ := hA s t hx hmt
  dsimp only at f2 g2 g3 g4
  rw [e1] at f1
  cases f1
  rw [e1, zb2_some]
  dsimp only
  rw [g1, zb2_some]
  dsimp only
  rw [if_pos (by rw [f2, g2])]
  exact hF g' u hk (zXI_SX e3 g4) g3
theorem law_l {k : Nat} {g : zG} {cx cm : zq_S → Option (Int64 × zq_S)} (h : zStep k g cx cm) {s : zq_S} (hx : zXI g s) (hm : zMI g s) {F : zq_S → Option (Int32 × zq_S)} {Q : Int32 × zq_S → Prop} (hF : ∀ g' t, zOk (k + 1) g' → zXI g' t → zMI g' t → zw (F t) Q) :
    zw (zq_b2 (cx s) (fun r s2 => zq_b2 (cm s2) (fun r3 s4 => if lg_cmp r r3 = 0 then F s4 else none))) Q := by
  obtain ⟨g', hk, hA⟩ := h
  obtain ⟨r0, ⟨⟨a, t⟩, e1, e2, e3, e4⟩, -⟩ := hA s s hx hm
  dsimp only at e2 e3 e4
  have hmt := zMI_SM hm e4
  obtain ⟨r1, ⟨⟨a', t'⟩, f1, f2, f3, f4⟩, ⟨⟨b, u⟩, g1, g2, g3, g4⟩⟩ := hA s t hx hmt
  dsimp only at f2 g2 g3 g4
  rw [e1] at f1
  cases f1
  rw [e1, zb2_some]
  dsimp only
  rw [g1, zb2_some]
  dsimp only
  rw [if_pos ((lgc_eq _ _).mpr (by rw [f2, g2]))]
  exact hF g' u hk (zXI_SX e3 g4) g3
theorem zifib (x : Int32) : (if x = 0 then (0 : Int32) else 1) = zib (!decide (x = 0)) := by
  by_cases q : x = 0
  · rw [if_pos q, decide_eq_true q]; rfl
  · rw [if_neg q, decide_eq_false q]; rfl
set_option maxHeartbeats 4000000 in
theorem law_body (N : Nat) (hN : 5000 ≤ N) (hsh : ∀ k, k < 900 → ∀ g, zOk k g → zStep k g (mX11_sheet N) (mX12_sheet N)) {L : Nat} (hL : L ≤ 256) (xs : Nat → Int32) {k : Nat} (hkl : 4 * k + 4 ≤ L) {g : zG} (hk : zOk k g) {s : zq_S} (hx : zXI g s) (hm : zMI g s) {self : Int32 × zq_S → Option (Int32 × zq_S)} {Q : Int32 × zq_S → Prop} (hself : ∀ g' t, zOk (k + 1) g' → zXI g' t → zMI g' t → zw (self (nI (4 * (k + 1)), t)) Q) :
    zw (bL_law_18 N L xs self (nI (4 * k), s)) Q := by
  have hk9 : k < 900 := by omega
  have e1 : nI (4 * k) + 1 = nI (4 * k + 1) := nI_1 _
  have e2 : nI (4 * k) + 2 = nI (4 * k + 2) := by rw [show (2 : Int32) = nI 2 from rfl, nI_add]
  have e3 : nI (4 * k) + 3 = nI (4 * k + 3) := by rw [show (3 : Int32) = nI 3 from rfl, nI_add]
  have e4 : nI (4 * k) + 4 = nI (4 * (k + 1)) := by rw [show (4 : Int32) = nI 4 from rfl, nI_add]; rfl
  have hF : ∀ g' t, zOk (k + 1) g' → zXI g' t → zMI g' t → zw (jL_law_j1115 N L xs self (nI (4 * k)) t) Q := by
    intro g' t a b c
    unfold jL_law_j1115
    dsimp only [zq_let]
    rw [e4]
    exact hself g' t a b c
  have hend : ¬ Int32.ofNat L - 4 < nI (4 * k) := by
    show ¬ nI L - nI 4 < nI (4 * k)
    rw [Int32.lt_iff_toInt_lt, pk_sub_toInt (by omega) (by omega), nI_toInt (by omega)]
    omega
  have c0 : ∀ {α : Type} (c : Option α), zq_ck (nI (4 * k)) L c = c := fun c => zck_nI (by omega) (by omega) c
  have c1 : ∀ {α : Type} (c : Option α), zq_ck (nI (4 * k + 1)) L c = c := fun c => zck_nI (by omega) (by omega) c
  have c2 : ∀ {α : Type} (c : Option α), zq_ck (nI (4 * k + 2)) L c = c := fun c => zck_nI (by omega) (by omega) c
  have c3 : ∀ {α : Type} (c : Option α), zq_ck (nI (4 * k + 3)) L c = c := fun c => zck_nI (by omega) (by omega) c
  unfold bL_law_18
  dsimp only [zq_let]
  simp only [e1, e2, e3, c0, c1, c2, c3, zifib]
  rw [if_neg hend]
  generalize (xs (nI (4 * k)).toNatClampNeg &&& 63) = d
  by_cases q0 : d = 0
  · rw [if_pos q0]
    exact law_i (step_feed N hN hk _ _) hx hm hF
  rw [if_neg q0]
  by_cases q1 : d = 1
  · rw [if_pos q1]
    exact law_i (hsh k hk9 g hk) hx hm hF
  rw [if_neg q1]
  by_cases q2 : d = 2
  · rw [if_pos q2]
    exact law_i (zStep_q hk (zAg_2 (pub_fault N))) hx hm hF
  rw [if_neg q2]
  by_cases q3 : d = 3
  · rw [if_pos q3]
    exact law_i (zStep_q hk (zAg_2 (pub_print N hN hk.1 _))) hx hm hF
  rw [if_neg q3]
  by_cases q4 : d = 4
  · rw [if_pos q4]
    exact law_i (zStep_q hk (zAg_2 (pub_mark N hN hk.1 _ _))) hx hm hF
  rw [if_neg q4]
  by_cases q5 : d = 5
  · rw [if_pos q5]
    exact law_i (step_ink N hN hk9 hk _ _) hx hm hF
  rw [if_neg q5]
  by_cases q6 : d = 6
  · rw [if_pos q6]
    exact law_i (step_earlier N hN hk9 hk _ _ _) hx hm hF
  rw [if_neg q6]
  by_cases q7 : d = 7
  · rw [if_pos q7]
    exact law_i (zStep_q hk (zAg_2 (pub_count N hN hk.1 hk.2.1 _))) hx hm hF
  rw [if_neg q7]
  by_cases q8 : d = 8
  · rw [if_pos q8]
    exact law_i (zStep_q hk (zAg_2 (pub_good N hN hk.1 _))) hx hm hF
  rw [if_neg q8]
  by_cases q9 : d = 9
  · rw [if_pos q9]
    exact law_i (zStep_q hk (zAg_2 (pub_next N hN hk.1 _))) hx hm hF
  rw [if_neg q9]
  by_cases q10 : d = 10
  · rw [if_pos q10]
    exact law_l (zStep_q hk (zAg_2 (pub_orders N hN hk.1))) hx hm hF
  rw [if_neg q10]
  by_cases q11 : d = 11
  · rw [if_pos q11]
    exact law_i (zStep_q hk (zAg_2 (pub_order N hN hk.1 _ _))) hx hm hF
  rw [if_neg q11]
  by_cases q12 : d = 12
  · rw [if_pos q12]
    exact law_l (zStep_q hk (pub_ahead N hN hk.1 _ _)) hx hm hF
  rw [if_neg q12]
  by_cases q13 : d = 13
  · rw [if_pos q13]
    exact law_i (zStep_q hk (zAg_2 (pub_place N hN hk.1 _ _))) hx hm hF
  rw [if_neg q13]
  by_cases q14 : d = 14
  · rw [if_pos q14]
    exact law_i (zStep_q hk (zAg_2 (pub_session N hN hk.1 hk.2.1 _))) hx hm hF
  rw [if_neg q14]
  by_cases q15 : d = 15
  · rw [if_pos q15]
    exact law_i (zStep_q hk (zAg_2 (pub_text N hN hk.1 _ _))) hx hm hF
  rw [if_neg q15]
  by_cases q16 : d = 16
  · rw [if_pos q16]
    exact law_i (zStep_q hk (zAg_2 (pub_view N hN hk.1 hk.2.1 _))) hx hm hF
  rw [if_neg q16]
  by_cases q17 : d = 17
  · rw [if_pos q17]
    exact law_i (zStep_q hk (zAg_2 (pub_word N hN hk.1 _ _))) hx hm hF
  rw [if_neg q17]
  by_cases q18 : d = 18
  · rw [if_pos q18]
    exact law_i (zStep_q hk (zAg_2 (pub_idle N hN hk.1))) hx hm hF
  rw [if_neg q18]
  by_cases q19 : d = 19
  · rw [if_pos q19]
    exact law_i (zStep_q hk (zAg_2 (pub_apart N hN hk.1 _ _))) hx hm hF
  rw [if_neg q19]
  by_cases q20 : d = 20
  · rw [if_pos q20]
    exact law_i (zStep_q hk (zAg_2 (pub_without N hN hk.1 _ _))) hx hm hF
  rw [if_neg q20]
  by_cases q21 : d = 21
  · rw [if_pos q21]
    exact law_i (step_write N hN hk _) hx hm hF
  rw [if_neg q21]
  by_cases q22 : d = 22
  · rw [if_pos q22]
    exact law_i (step_see N hN hk _) hx hm hF
  rw [if_neg q22]
  by_cases q23 : d = 23
  · rw [if_pos q23]
    exact law_i (step_copy N hN hk) hx hm hF
  rw [if_neg q23]
  by_cases q24 : d = 24
  · rw [if_pos q24]
    exact law_i (step_drop N hk) hx hm hF
  rw [if_neg q24]
  by_cases q25 : d = 25
  · rw [if_pos q25]
    exact law_i (zStep_q hk (zAg_2 (pub_times N hN hk.1 _ _))) hx hm hF
  rw [if_neg q25]
  by_cases q26 : d = 26
  · rw [if_pos q26]
    exact law_l (zStep_q hk (zAg_2 (pub_holds N hN hk.1))) hx hm hF
  rw [if_neg q26]
  by_cases q27 : d = 27
  · rw [if_pos q27]
    exact law_i (zStep_q hk (zAg_2 (pub_when N hN hk.1 _ _))) hx hm hF
  rw [if_neg q27]
  by_cases q28 : d = 28
  · rw [if_pos q28]
    exact law_i (zStep_q hk (zAg_2 (pub_nearest N hN hk.1 _ _))) hx hm hF
  rw [if_neg q28]
  by_cases q29 : d = 29
  · rw [if_pos q29]
    exact law_i (step_bar N hk _ _ _) hx hm hF
  rw [if_neg q29]
  by_cases q30 : d = 30
  · rw [if_pos q30]
    exact law_i (zStep_q hk (zAg_2 (pub_breaks N hN hk.1 _))) hx hm hF
  rw [if_neg q30]
  by_cases q31 : d = 31
  · rw [if_pos q31]
    exact law_l (zStep_q hk (pub_clean N hN hk.1)) hx hm hF
  rw [if_neg q31]
  by_cases q32 : d = 32
  · rw [if_pos q32]
    exact law_i (zStep_q hk (zAg_2 (pub_least N hN hk.1))) hx hm hF
  rw [if_neg q32]
  exact hF g s ⟨hk.1, hk.2.1, by have := hk.2.2; omega⟩ hx hm
-- the start
def zT0 : zSh := (0, fun _ => 0, fun _ => 0, fun _ => 0, fun _ => 0, fun _ => none, fun _ => 0, fun _ => 0, fun _ => [])
def zg0 : zG := ((zT0, 0, 0, fun _ => 0, fun _ => 0, fun _ => 0, fun _ => 0, []), (fun _ => 0, fun _ _ => false), ([], []), (fun _ _ => false, 0), ([], -1), (0, false))
theorem zcn_f (n : Nat) : zcn (fun _ => false) n = 0 := by
  induction n with
  | zero => rfl
  | succ n ih => unfold zcn; rw [ih]; rfl
theorem zSW_0 : zSW zg0.S := by
  refine ⟨Nat.zero_le _, ?_, ?_, ?_, fun m hm => absurd hm (Nat.not_lt_zero _), rfl, Nat.zero_le _⟩
  · refine ⟨Nat.zero_le _, rfl, rfl, fun p hp q hq => absurd hq List.not_mem_nil, ?_, ?_, ?_, ?_, ?_⟩ <;> exact fun p hp => absurd hp (Nat.not_lt_zero _)
  · exact ⟨fun p hp => absurd hp (Nat.not_lt_zero _), fun p hp => absurd hp (Nat.not_lt_zero _), fun h => absurd h (Nat.lt_irrefl _)⟩
  · exact ⟨Nat.zero_le _, fun p hp => absurd hp (Nat.not_lt_zero _)⟩
theorem zGW_0 : zGW zg0 := by
  refine ⟨zSW_0, fun m hm => absurd hm (Nat.not_lt_zero _), rfl, ⟨Nat.zero_le _, fun x hx => absurd hx List.not_mem_nil⟩, ⟨Nat.zero_le _, fun x hx => absurd hx List.not_mem_nil⟩, ⟨Nat.zero_le _, zcn_f _⟩, ⟨Nat.zero_le _, fun x hx => absurd hx List.not_mem_nil⟩, Nat.zero_le _⟩
theorem zrow0 (b : Bool) (r : Nat) (w : Nat → Nat) : zRow b zq_s0 r 0 w := ⟨rfl, Nat.zero_le _, fun k hk => absurd hk (Nat.not_lt_zero _), zRw_0 (fun _ _ => rfl)⟩
theorem zXI_0 : zXI zg0 zq_s0 := by
  refine ⟨zGW_0, ?_, ?_, ?_, ?_, ?_, ?_⟩
  · refine ⟨rfl, rfl, rfl, rfl, rfl, ⟨rfl, ?_, ?_, ?_, ?_, ?_, ?_, ?_⟩, ?_, ?_, ?_, ?_, rfl, ?_, rfl⟩ <;> exact fun p hp => absurd hp (Nat.not_lt_zero _)
  · refine ⟨fun p hp => absurd hp (Nat.not_lt_zero _), ⟨fun _ => 0, fun a ha => rfl, fun a b ha hb => ⟨show (0 : Nat) < 16 by decide, Nat.zero_testBit b⟩⟩, ?_, ?_⟩ <;> exact fun p hp => absurd hp (Nat.not_lt_zero _)
  · refine ⟨rfl, zrow0 true 4 _, rfl, fun c l hc => ?_⟩
    have : (([] : List (List Nat))[c]?) = some l := hc
    simp at this
  · exact ⟨rfl, fun x y hx hy => zbt_0 _⟩
  · exact ⟨rfl, fun i hi => absurd hi (Nat.not_lt_zero _), rfl⟩
  · refine ⟨⟨0, Nat.le_refl _, rfl, Or.inl rfl, Or.inl rfl, Or.inl rfl, Or.inl rfl⟩, fun h => absurd h (by decide), fun h => absurd h (by decide), fun S hS => Or.inr (zrow0 false S _), fun _ h => absurd h (by decide), fun _ h => absurd h (by decide)⟩
theorem zMI_0 : zMI zg0 zq_s0 := by
  refine ⟨zGW_0, ?_, ?_, ?_, ?_, ?_, ?_⟩
  · refine ⟨rfl, rfl, ⟨rfl, ?_, ?_, ?_, ?_, ?_, ?_, ?_⟩, ?_, ?_, ?_, ?_, ?_⟩ <;> exact fun p hp => absurd hp (Nat.not_lt_zero _)
  · refine ⟨fun p hp => absurd hp (Nat.not_lt_zero _), fun a b ha hb => rfl, fun p hp => absurd hp (Nat.not_lt_zero _)⟩
  · refine ⟨rfl, fun i hi => absurd hi (Nat.not_lt_zero _), rfl, fun c l hc => ?_⟩
    have : (([] : List (List Nat))[c]?) = some l := hc
    simp at this
  · exact ⟨rfl, fun x y hx hy => rfl⟩
  · exact ⟨rfl, fun i hi => absurd hi (Nat.not_lt_zero _), rfl⟩
  · exact ⟨Or.inl rfl, Or.inl rfl⟩
theorem zq_run (N : Nat) (hN : 5000 ≤ N) (hsh : ∀ k, k < 900 → ∀ g, zOk k g → zStep k g (mX11_sheet N) (mX12_sheet N)) {L : Nat} (hL : L ≤ 256) (xs : Nat → Int32) : ∃ v, mL_law N L xs zq_s0 = some v := by
  have key : zw (mL_law N L xs zq_s0) (fun _ => True) := by
    unfold mL_law
    refine zw_cnt (L / 4) (fun k v => ∃ g t, v = (nI (4 * k), t) ∧ zOk k g ∧ zXI g t ∧ zMI g t) ?_ ?_ N 0 _ (by omega) (by omega) ⟨zg0, zq_s0, rfl, ⟨zGW_0, rfl, Nat.le_refl _⟩, zXI_0, zMI_0⟩
    · rintro self v ⟨g, t, rfl, hk, hx, hm⟩
      unfold bL_law_18
      dsimp only
      rw [if_pos]
      · exact ⟨_, rfl, trivial⟩
      · show nI L - nI 4 < nI (4 * (L / 4))
        rw [Int32.lt_iff_toInt_lt, pk_sub_toInt (by omega) (by omega), nI_toInt (by omega)]
        omega
    · rintro self k v hkl ⟨g, t, rfl, hk, hx, hm⟩ hself
      exact law_body N hN hsh hL xs (by omega) hk hx hm (fun g' t' a b c => hself _ ⟨g', t', rfl, a, b, c⟩)
  obtain ⟨v, e, _⟩ := key
  exact ⟨v, e⟩
