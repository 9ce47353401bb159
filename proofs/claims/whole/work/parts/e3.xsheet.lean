/-! the new sheet in the middle; the class's side of sheet -/
theorem pzgo_fin (h : List Nat) : ∀ d R p, h.length - p < d → pzI h R p → (pzgo h d R p).1 = 0 → ∃ p', pzI h (pzgo h d R p).2.2 p' ∧ pzph (pzgo h d R p).2.2 = 0 ∧ pzstk (pzgo h d R p).2.2 = [] := by
  intro d
  induction d with
  | zero => intro R p h1; omega
  | succ d ih =>
    intro R p h1 hI h0
    have hpl := hI.2.1.2.1
    have sk := pzsk h hpl
    rw [pzgo] at h0 ⊢
    by_cases a : zskp h p < h.length
    · rw [if_pos a] at h0 ⊢
      by_cases c : (pzS h R (zskp h p)).1.1 = 0
      · rw [if_pos c] at h0 ⊢
        have ok := pzS_ok hI a c
        exact ih _ _ (by omega) ok.1 h0
      · rw [if_neg c] at h0
        exact absurd h0 c
    · rw [if_neg a] at h0 ⊢
      by_cases c : pzph R = 0 ∧ pzstk R = []
      · rw [if_pos c]; exact ⟨p, hI, c⟩
      · rw [if_neg c] at h0; cases h0
theorem pzG_fin (h : List Nat) (h0 : (pzG h [] 0).1 = 0) : ∃ p', pzI h (pzG h [] 0).2.2 p' ∧ pzph (pzG h [] 0).2.2 = 0 ∧ pzstk (pzG h [] 0).2.2 = [] := pzgo_fin h _ _ _ (by omega) (pzI_0 h) h0
theorem pz_full : ∀ M, M < 1024 → M &&& (M + 1) = 0 → zbc M 10 ≤ 10 ∧ M = 2 ^ zbc M 10 - 1 := by decide +kernel
def pzEnd (h : List Nat) (R : List zIt) : Prop := (∃ p, pzI h R p) ∧ pzph R = 0 ∧ pzstk R = [] ∧ (∀ m, (pzmv R).testBit m = (pzsr R).testBit m) ∧ zbc (pzmk R) 10 ≤ 10 ∧ pzmk R = 2 ^ zbc (pzmk R) 10 - 1
theorem pzOut_end {h : List Nat} {pl : Nat} {R : List zIt} (hO : pzOut h 0 pl R) : pzEnd h R := by
  rcases hO with ⟨a, b, _⟩ | ⟨a, b, c | ⟨c, d | d⟩⟩
  · exact absurd b.symm a
  · exact absurd c.1 (by decide)
  · exact absurd d.1 (by decide)
  · obtain ⟨p', e1, e2, e3⟩ := pzG_fin h a
    rw [← b] at e1 e2 e3
    exact ⟨⟨p', e1⟩, e2, e3, pzln_no c, pz_full _ (pzmk_lt e1.1) d.2⟩
def pzGs (R : List zIt) : zGs := (pzT R, zbc (pzmk R) 10, pzwn R, pzba R, pzkd R, pzns R, pzdp R, pzpr R)
def pzGh (g : zG) (R : List zIt) : zG := (pzGs R, (fun _ => 0, fun _ _ => false), g.2.2.1, g.2.2.2.1, ([], -1), (g.vc + 1, false))
theorem pzEnd_bit {h : List Nat} {R : List zIt} (hE : pzEnd h R) (m : Nat) : (pzmk R).testBit m = decide (m < zbc (pzmk R) 10) := by
  have := hE.2.2.2.2.2
  conv => lhs; rw [this]
  rw [Nat.testBit_two_pow_sub_one]
theorem pzEnd_ba {h : List Nat} {R : List zIt} (hE : pzEnd h R) (m : Nat) : pzba R m < 2 ^ zbc (pzmk R) 10 := by
  obtain ⟨⟨p, hI⟩, _, _, h4, _⟩ := id hE
  refine Nat.lt_pow_two_of_testBit _ (fun i hi => ?_)
  cases e : (pzba R m).testBit i with
  | false => rfl
  | true =>
    have := (pz_rank hI.1 (fun m _ => h4 m) e).2
    rw [pzEnd_bit hE, decide_eq_true_eq] at this
    omega
theorem pzEnd_SW {h : List Nat} {R : List zIt} (hE : pzEnd h R) (hh : h.length ≤ 400) : zSW (pzGs R) := by
  obtain ⟨⟨p, hI⟩, h2, h3, h4, h5, h6⟩ := id hE
  have hV := hI.1
  refine ⟨h5, pz_ShW hV h3 (fun m _ => h4 m), pz_ShR hV h2, pz_Sh40 hV, fun m _ => pzEnd_ba hE m, ?_, ?_⟩
  · show pzpr R = zpl' (pzT R) R.length
    rw [pz_pl hV R.length (Nat.le_refl _), pzpre_all]
  · have a := hI.2.1.1
    have c := hI.2.1.2.1
    show (pzpr R).length ≤ 400
    omega
theorem pzGh_W {h : List Nat} {R : List zIt} {g : zG} (hW : zGW g) (hv : g.vc < 1000) (hE : pzEnd h R) (hh : h.length ≤ 400) : zGW (pzGh g R) := by
  obtain ⟨⟨p, hI⟩, h2, h3, h4, h5, h6⟩ := id hE
  obtain ⟨_, _, _, w4, w5, w6, _, _⟩ := hW
  exact ⟨pzEnd_SW hE hh, fun m _ => show 0 < 4 by decide, pz_cy hI.1 (fun m _ => h4 m) _ _, w4, w5, w6, ⟨Nat.zero_le _, fun x hx => absurd hx List.not_mem_nil⟩, show g.vc + 1 ≤ 1000 by omega⟩
/-- the class's new sheet -/
theorem pzFin_X1 {h : List Nat} {R : List zIt} {b : Bool} {t : zq_S} (hE : pzEnd h R) (hF : pzFin b R t) (b0 : zgb t 0 = b) (b1 : zgb t 1 = !b) (b3 : zgb t 3 = b) (b4 : zgb t 4 = b) (h39 : zgf t 39 0 = nI 1024) : zX1 (pzGs R) t := by
  obtain ⟨⟨p, hI⟩, h2, h3, h4, h5, h6⟩ := id hE
  have hV := hI.1
  obtain ⟨f1, f2, f3, f4, f5, f6⟩ := hF
  have bit := pzEnd_bit hE
  have told : ∀ m, m < zbc (pzmk R) 10 → (pzmk R).testBit m = true := fun m hm => by rw [bit, decide_eq_true_eq]; exact hm
  unfold zX1
  rw [b0]
  refine ⟨b3, b4, b1, f2, f3, ⟨f1, fun p hp => ?_, fun p hp hc => ?_, fun p hp hc => ?_, fun p hp hc => ?_, fun p hp hc => ?_, fun p hp hc => ?_, fun p hp hc => ?_⟩, fun m hm => ?_, fun m hm => ?_, fun m hm => ?_, fun m hm => ?_, f4.1, f4.2.1, h39⟩
  · exact ⟨(pzV_at hV hp).1.1, (f5 p hp).1⟩
  · refine ⟨(pzV_at hV hp).1.2.1, (f5 p hp).2.1 ?_⟩
    have hc : (pzat R p).sg = 1 ∨ (pzat R p).sg = 2 ∨ (pzat R p).sg = 3 ∨ (pzat R p).sg = 6 ∨ (pzat R p).sg = 7 ∨ (pzat R p).sg = 9 := hc
    omega
  · exact (f5 p hp).2.2.1 hc
  · have hc : (pzat R p).sg = 1 ∨ (pzat R p).sg = 2 ∨ (pzat R p).sg = 3 := hc
    exact (f5 p hp).2.2.2 (by omega) (by rw [h3]; exact List.not_mem_nil)
  · have hc : (pzat R p).sg = 7 := hc
    obtain ⟨c1, c2⟩ := pz_sx1 hV p hp hc
    rw [← h4] at c2
    exact (f6 _ (pzV_at hV hp).1.2.1).2.2.2.2.1 c2
  · have hc : (pzat R p).sg = 6 := hc
    obtain ⟨q, c1, c2, c3, c4, c5, c6⟩ := pz_cls hV p hp (by omega)
    obtain ⟨d1, d2⟩ := pz_op1 hV q (by have : p < R.length := hp; omega) (by omega)
    rw [h4, c3] at d2
    exact (f6 _ (pzV_at hV hp).1.2.1).2.2.2.2.2.1 d2
  · have hc : (pzat R p).sg = 2 := hc
    have hok := pzV_at hV hp
    have e11 := (f6 _ hok.1.2.1).2.2.1
    have es := pzsd_at hV hp (by omega)
    show (pzsd R (pzat R p).mk = none ∧ zA t (zs b + 11) (pzat R p).mk = -1) ∨ (∃ d, d < 10 ∧ pzsd R (pzat R p).mk = some d ∧ zA t (zs b + 11) (pzat R p).mk = nI d)
    by_cases z : (pzat R p).sd = 0
    · rw [if_pos z] at es
      rw [es] at e11 ⊢
      exact Or.inl ⟨rfl, e11⟩
    · rw [if_neg z] at es
      rw [es] at e11 ⊢
      have := hok.1.2.2.2.1
      exact Or.inr ⟨_, by omega, rfl, e11⟩
  · have hm' : m < zbc (pzmk R) 10 := hm
    exact (f6 m (by omega)).1
  · have hm' : m < zbc (pzmk R) 10 := hm
    exact ((f6 m (by omega)).2.2.2.1 (told m hm')).1
  · have hm' : m < zbc (pzmk R) 10 := hm
    exact (f6 m (by omega)).2.1
  · have hm' : m < zbc (pzmk R) 10 := hm
    exact ((f6 m (by omega)).2.2.2.1 (told m hm')).2
/-- all but the spare sheet, the reader and the fault's place -/
def pzFQ (b : Bool) (s t : zq_S) : Prop :=
  (∀ k j, k ≠ 26 → k ≠ zs b → k ≠ 0 → zgf t k j = zgf s k j) ∧ (∀ i, i ≠ 2 → zgb t i = zgb s i) ∧ (∀ k, (k < zs b ∨ zs b + 11 < k) → k ≠ 28 → k ≠ 29 → k ≠ 30 → zA t k = zA s k) ∧ (∀ k, zL t k = zL s k)
theorem zXI_bad {g : zG} {s t : zq_S} {b : Bool} {fp : Int32} (h : zXI g s) (hb : b = !zgb s 0) (hq : pzFQ b s t) (h1 : zgf t 26 1 = 0) (h2 : zgf t 0 12 = fp) (hW : zGW (g.setD ((g.dr, g.cp), (g.bs, g.nb), ([], fp)))) : zXI (g.setD ((g.dr, g.cp), (g.bs, g.nb), ([], fp))) t ∧ zSM s t := by
  have hb' := zs_c b
  obtain ⟨h0, x1, x2, x3, x4, x5, hc⟩ := h
  obtain ⟨hf, hbb, ha, hl⟩ := hq
  have b0 := hbb 0 (by decide)
  have b1 := hbb 1 (by decide)
  have b3 := hbb 3 (by decide)
  have b4 := hbb 4 (by decide)
  refine ⟨⟨hW, ?_, ?_, ?_, ?_, ⟨h1, fun i hi => absurd hi (Nat.not_lt_zero i), h2⟩, ?_⟩, ?_⟩
  · unfold zX1 zXS at x1 ⊢
    cases q : zgb s 0 with
    | false =>
      rw [q] at hb
      subst hb
      simp only [b0, b1, b3, b4, q] at x1 ⊢
      simp (disch := decide) only [hf, ha, hl] at x1 ⊢
      exact x1
    | true =>
      rw [q] at hb
      subst hb
      simp only [b0, b1, b3, b4, q] at x1 ⊢
      simp (disch := decide) only [hf, ha, hl] at x1 ⊢
      exact x1
  · unfold zX2 at x2 ⊢
    cases b <;> simp (disch := decide) only [hf, ha, hl] at x2 ⊢ <;> exact x2
  · unfold zX3 zRow at x3 ⊢
    cases b <;> simp (disch := decide) only [hf, ha, hl] at x3 ⊢ <;> exact x3
  · unfold zX4 at x4 ⊢
    cases b <;> simp (disch := decide) only [hf, ha, hl] at x4 ⊢ <;> exact x4
  · unfold zCa zGD zWV zTc zRow zSV zVV at hc ⊢
    cases b <;> simp (disch := decide) only [hf, ha, hl] at hc ⊢ <;> exact hc
  · exact ⟨fun k j hk => hf k j (by omega) (by omega) (by omega), fun k hk => ha k (by omega) (by omega) (by omega) (by omega), fun k _ => hl k⟩
theorem mX11_sheet_w (N : Nat) (hN : 5000 ≤ N) {g : zG} {s : zq_S} (h : zXI g s) (hv : g.vc < 1000) {c pl : Nat} {R : List zIt} (hO : pzOut g.hd c pl R) :
    (c ≠ 0 → zw (mX11_sheet N s) (fun v => v.1 = (-10 : Int32) - nI c ∧ zXI (g.setD ((g.dr, g.cp), (g.bs, g.nb), ([], nI pl))) v.2 ∧ zSM s v.2)) ∧
    (c = 0 → zw (mX11_sheet N s) (fun v => v.1 = nI (zbc (pzmk R) 10) ∧ zXI (pzGh g R) v.2 ∧ zSM s v.2)) := by
  obtain ⟨h0, x1, x2, x3, x4, x5, hca⟩ := id h
  obtain ⟨w1, w2, w3, w4, w5, w6, w7, w8⟩ := id h0
  have hHX : zHX g.hd s := ⟨x5.1, x5.2.1, w7.1, w7.2⟩
  have p1 : zgb s 1 = !zgb s 0 := x1.2.2.1
  have hz := zs_c (zgb s 1)
  have rd := mX5_readInto_w N hN (b := zgb s 1) hHX hO
  have z0 : c ≠ 0 → ¬ nI c = (0 : Int32) := fun a => by
    have hc : c < 100 := by
      have := pzG_le g.hd
      rcases hO with ⟨_, a, _⟩ | ⟨_, _, ⟨a, _⟩ | ⟨_, ⟨a, _⟩ | ⟨a, _⟩⟩⟩ <;> omega
    rw [show (0 : Int32) = nI 0 from rfl, nI_eq (by omega) (by decide)]; exact a
  refine ⟨fun hc => ?_, fun hc => ?_⟩
  · unfold mX11_sheet
    refine zw_call rd ?_
    intro r t ⟨a1, a2, a3, a4, a5, _⟩
    dsimp only [zq_let] at a1 a2 a3 a4 a5 ⊢
    subst a1
    rw [if_neg (z0 hc)]
    rw [if_neg hc] at a4
    refine zw_some.2 ⟨rfl, zXI_bad (b := zgb s 1) h p1 ⟨fun k j q1 q2 q3 => ?_, a2.2.1, a2.2.2.1, a2.2.2.2⟩ ?_ ?_ ?_⟩
    · dsimp only
      rw [zgf_pf, if_neg (by omega)]; exact a2.1 k j q1 q2
    · dsimp only
      rw [zgf_pf, if_neg (by omega)]; exact a5
    · dsimp only
      rw [zgf_pf, if_pos ⟨rfl, rfl⟩]; exact a4
    · exact ⟨w1, w2, w3, w4, w5, w6, ⟨Nat.zero_le _, fun x hx => absurd hx List.not_mem_nil⟩, w8⟩
  · subst hc
    have hE := pzOut_end hO
    have hW' := pzGh_W h0 hv hE w7.1
    unfold mX11_sheet
    refine zw_call rd ?_
    intro r t ⟨a1, a2, a3, a4, a5, a6⟩
    dsimp only [zq_let] at a1 a2 a3 a4 a5 a6 ⊢
    subst a1
    have hF := a6 rfl
    rw [if_pos (show nI 0 = (0 : Int32) from rfl)]
    rw [if_pos rfl] at a4
    rw [a4]
    have t1 : zgb t 1 = zgb s 1 := a2.2.1 1 (by decide)
    have t0 : zgb t 0 = zgb s 0 := a2.2.1 0 (by decide)
    generalize hb : zgb s 1 = b at *
    have nb : zgb s 0 = !b := by rw [p1]; cases zgb s 0 <;> rfl
    have e1 : zgb (zpf t 0 12 (-1)) 1 = b := t1
    have e0 : zgb (zpf t 0 12 (-1)) 0 = !b := t0.trans nb
    rw [e1, e0]
    have e5 : zgb (zpb (zpb (zpf t 0 12 (-1)) 0 b) 1 (!b)) 0 = b := rfl
    rw [e5]
    unfold mX3_startOn
    dsimp only [zq_let]
    simp only [zpfi_eq]
    generalize hu : zsA (zsA (zpb (zpb (zpb (zpf t 0 12 (-1)) 0 b) 1 (!b)) 3 b) 32 (fun j => if j < 10 then 0 else zA (zpb (zpb (zpb (zpf t 0 12 (-1)) 0 b) 1 (!b)) 3 b) 32 j)) 33 (fun j => if j < 4 then 0 else zA (zsA (zpb (zpb (zpb (zpf t 0 12 (-1)) 0 b) 1 (!b)) 3 b) 32 (fun j => if j < 10 then 0 else zA (zpb (zpb (zpb (zpf t 0 12 (-1)) 0 b) 1 (!b)) 3 b) 32 j)) 33 j) = u
    have uf : ∀ k j, zgf u k j = if k = 0 ∧ j = 12 then -1 else zgf t k j := fun k j => by rw [← hu]; rfl
    have uA : ∀ k, k ≠ 32 → k ≠ 33 → zA u k = zA t k := fun k q1 q2 => by rw [← hu, zA_ne _ q2, zA_ne _ q1]; rfl
    have u32 : ∀ m, m < 10 → zA u 32 m = 0 := fun m hm => by rw [← hu, zA_ne _ (by decide), zA_sA, if_pos rfl, if_pos hm]
    have u33 : ∀ m, m < 4 → zA u 33 m = 0 := fun m hm => by rw [← hu, zA_sA, if_pos rfl, if_pos hm]
    have uL : ∀ k, zL u k = zL t k := fun k => by rw [← hu]; rfl
    have ub : zgb u 0 = b ∧ zgb u 1 = (!b) ∧ zgb u 3 = b ∧ zgb u 2 = zgb t 2 ∧ zgb u 4 = zgb t 4 := by rw [← hu]; exact ⟨rfl, rfl, rfl, rfl, rfl⟩
    clear hu
    have hn := hE.2.2.2.2.1
    obtain ⟨f, o, es⟩ := mX3_settle_eq N hN hn (s := u) (ba := pzba R) (ik := fun _ => 0) (em := fun _ => 0) (er := fun _ _ => false) (b := b) ub.2.2.1 (by rw [uf, if_neg (by omega)]; exact hF.2.1) (fun m hm => by rw [uA _ (by omega) (by omega)]; exact (hF.2.2.2.2.2 m (by omega)).1) (fun m _ => pzEnd_ba hE m) (fun m hm => ⟨u32 m (by omega), by decide⟩) (fun a ha => u33 a ha) (fun a c _ _ => ⟨show 0 < 16 by decide, Nat.zero_testBit _⟩)
    obtain ⟨⟨p, hI⟩, k2, k3, k4, k5, k6⟩ := id hE
    rw [pz_cy hI.1 (fun m _ => k4 m), if_neg (by decide)] at es
    rw [es, zb2_some, zb2_some]
    dsimp only
    unfold mX9_startOn mX8_unmakeAll
    dsimp only [zq_let]
    rw [zb2_some, zb2_some]
    simp only [zpfi_eq]
    refine zw_some.2 ?_
    dsimp only
    have key : ∀ w : zq_S, (∀ k j, zgf w k j = if k = 31 ∧ j = 8 then zgf u 31 8 + 1 else zgf u k j) → (∀ k, k ≠ 34 → k ≠ 35 → k ≠ 36 → k ≠ 41 → zA w k = zA u k) → (∀ m, m < zbc (pzmk R) 10 → zA w 34 m = nI (zmu (zbc (pzmk R) 10) (pzba R) (fun _ => 0) (fun _ _ => false) m)) → (∀ m, m < zbc (pzmk R) 10 → zA w 35 m = nI (zbh (zmu (zbc (pzmk R) 10) (pzba R) (fun _ => 0) (fun _ _ => false)) m (zbc (pzmk R) 10))) → (∀ S, S < 1024 → zA w 41 S = -1) → (∀ k, zL w k = zL u k) → (zgb w 0 = b ∧ zgb w 1 = (!b) ∧ zgb w 3 = b ∧ zgb w 4 = b) →
        (zgf w (zs (zgb w 0)) 7 = nI (zbc (pzmk R) 10) ∧ zXI (pzGh g R) w ∧ zSM s w) := by
      intro w wf wA w34 w35 w41 wL wb
      have Wf : ∀ k j, k ≠ 26 → k ≠ zs b → k ≠ 0 → k ≠ 31 → zgf w k j = zgf s k j := fun k j q1 q2 q3 q4 => by
        rw [wf, if_neg (by omega), uf, if_neg (by omega)]; exact a2.1 k j q1 q2
      have Wf31 : ∀ j, j ≠ 8 → zgf w 31 j = zgf s 31 j := fun j q1 => by
        rw [wf, if_neg (by omega), uf, if_neg (by omega)]; exact a2.1 31 j (by decide) (by omega)
      have Wv : zgf w 31 8 = zgf s 31 8 + 1 := by
        rw [wf, if_pos ⟨rfl, rfl⟩, uf, if_neg (by decide)]
        rw [a2.1 31 8 (by decide) (by omega)]
      have WS : ∀ j, zgf w (zs b) j = zgf t (zs b) j := fun j => by rw [wf, if_neg (by omega), uf, if_neg (by omega)]
      have WT : ∀ k, k ≠ 32 → k ≠ 33 → k ≠ 34 → k ≠ 35 → k ≠ 36 → k ≠ 41 → zA w k = zA t k := fun k q1 q2 q3 q4 q5 q6 => by rw [wA k q3 q4 q5 q6, uA k q1 q2]
      have WA : ∀ k, (k < zs b ∨ zs b + 11 < k) → k ≠ 28 → k ≠ 29 → k ≠ 30 → k ≠ 32 → k ≠ 33 → k ≠ 34 → k ≠ 35 → k ≠ 36 → k ≠ 41 → zA w k = zA s k := fun k q0 r1 r2 r3 q1 q2 q3 q4 q5 q6 => by
        rw [WT k q1 q2 q3 q4 q5 q6]; exact a2.2.2.1 k q0 r1 r2 r3
      have WL : ∀ k, zL w k = zL s k := fun k => by rw [wL, uL]; exact a2.2.2.2 k
      have hF' : pzFin b R w := by
        obtain ⟨f1, f2, f3, f4, f5, f6⟩ := hF
        refine ⟨by rw [WS]; exact f1, by rw [WS]; exact f2, by rw [WS]; exact f3, pzPr_fr f4 (WS 1) (WS 2) (WT _ (by omega) (by omega) (by omega) (by omega) (by omega) (by omega)), fun k hk => ?_, fun m hm => ?_⟩
        · exact pzXi_eq (f5 k hk) (by rw [WT _ (by omega) (by omega) (by omega) (by omega) (by omega) (by omega)]) (by rw [WT _ (by omega) (by omega) (by omega) (by omega) (by omega) (by omega)]) (by rw [WT _ (by omega) (by omega) (by omega) (by omega) (by omega) (by omega)])
        · exact pzXm_eq (f6 m hm) (by rw [WT _ (by omega) (by omega) (by omega) (by omega) (by omega) (by omega)]) (by rw [WT _ (by omega) (by omega) (by omega) (by omega) (by omega) (by omega)]) (by rw [WT _ (by omega) (by omega) (by omega) (by omega) (by omega) (by omega)]) (by rw [WT _ (by omega) (by omega) (by omega) (by omega) (by omega) (by omega)]) (by rw [WT _ (by omega) (by omega) (by omega) (by omega) (by omega) (by omega)]) (by rw [WT _ (by omega) (by omega) (by omega) (by omega) (by omega) (by omega)]) (by rw [WT _ (by omega) (by omega) (by omega) (by omega) (by omega) (by omega)]) (by rw [WT _ (by omega) (by omega) (by omega) (by omega) (by omega) (by omega)]) (by rw [WT _ (by omega) (by omega) (by omega) (by omega) (by omega) (by omega)])
      refine ⟨by rw [wb.1, WS]; exact hF.2.1, ⟨hW', ?_, ?_, ?_, ?_, ⟨?_, fun i hi => absurd hi (Nat.not_lt_zero i), ?_⟩, ?_⟩, ?_⟩
      · refine pzFin_X1 hE hF' wb.1 wb.2.1 wb.2.2.1 wb.2.2.2 ?_
        rw [Wf 39 0 (by decide) (by omega) (by decide) (by decide)]
        exact x1.2.2.2.2.2.2.2.2.2.2.2.2
      · refine ⟨fun m hm => ?_, ⟨fun _ => 0, fun a ha => ?_, fun a c _ _ => ⟨show 0 < 16 by decide, Nat.zero_testBit _⟩⟩, w34, w35⟩
        · rw [wA 32 (by decide) (by decide) (by decide) (by decide)]
          have hm' : m < zbc (pzmk R) 10 := hm
          exact u32 m (by omega)
        · rw [wA 33 (by decide) (by decide) (by decide) (by decide)]
          exact u33 a ha
      · show zX3 g.dr g.cp w
        unfold zX3 zRow at x3 ⊢
        cases b <;> simp (disch := decide) only [Wf, WA, WL] at x3 ⊢ <;> exact x3
      · show zX4 g.bs g.nb w
        unfold zX4 at x4 ⊢
        cases b <;> simp (disch := decide) only [Wf, WA, WL] at x4 ⊢ <;> exact x4
      · rw [wf, if_neg (by decide), uf, if_neg (by decide)]; exact a5
      · rw [wf, if_neg (by decide), uf, if_pos ⟨rfl, rfl⟩]; rfl
      · obtain ⟨⟨v, c1, c2, c3, c4, c5, c6⟩, _⟩ := hca
        have hv2 : zgf w 31 8 = nI (v + 1) := by rw [Wv, c2, nI_1]
        have old : ∀ x, zvo v x → x ≠ nI (v + 1) ∧ zvo (v + 1) x := by
          rintro x (rfl | ⟨y, hy, rfl⟩)
          · exact ⟨fun z => nI_nm1 (by omega) z.symm, Or.inl rfl⟩
          · refine ⟨?_, Or.inr ⟨y, by omega, rfl⟩⟩
            rw [Ne, nI_eq (by omega) (by omega)]
            omega
        refine ⟨⟨v + 1, show v + 1 ≤ g.vc + 1 by omega, hv2, ?_, ?_, ?_, ?_⟩, ?_, ?_, fun S hS => Or.inl (w41 S hS), ?_, ?_⟩
        · rw [Wf31 9 (by decide)]; exact (old _ c3).2
        · rw [Wf 44 5 (by decide) (by omega) (by decide) (by decide)]; exact (old _ c4).2
        · rw [Wf 46 7 (by decide) (by omega) (by decide) (by decide)]; exact (old _ c5).2
        · rw [Wf 49 5 (by decide) (by omega) (by decide) (by decide)]; exact (old _ c6).2
        · rw [Wf31 9 (by decide), hv2]; exact fun z => absurd z (old _ c3).1
        · rw [Wf 44 5 (by decide) (by omega) (by decide) (by decide), hv2]; exact fun z => absurd z (old _ c4).1
        · rw [Wf 46 7 (by decide) (by omega) (by decide) (by decide), hv2]; exact fun _ z => absurd z (old _ c5).1
        · rw [Wf 49 5 (by decide) (by omega) (by decide) (by decide), hv2]; exact fun _ z => absurd z (old _ c6).1
      · exact ⟨fun k j hk => Wf k j (by omega) (by omega) (by omega) (by omega), fun k hk => WA k (by omega) (by omega) (by omega) (by omega) (by omega) (by omega) (by omega) (by omega) (by omega) (by omega), fun k _ => WL k⟩
    refine key _ (fun k j => rfl) (fun k q1 q2 q3 q4 => ?_) (fun m hm => ?_) (fun m hm => ?_) (fun S hS => ?_) (fun k => rfl) ⟨ub.1, ub.2.1, ub.2.2.1, ?_⟩
    · rw [zA_ne _ (show k ≠ zf false + 2 from q4), zA_pb, zA_pf, zA_ne _ q2, zA_ne _ q1, zA_ne _ q3]
    · rw [zA_ne _ (show 34 ≠ zf false + 2 by decide), zA_pb, zA_pf, zA_ne _ (by decide), zA_sA, if_pos rfl, zarr_get _ _ hm]
    · rw [zA_ne _ (show 35 ≠ zf false + 2 by decide), zA_pb, zA_pf, zA_sA, if_pos rfl, zarr_get _ _ hm]
    · rw [zA_sA, if_pos (show 41 = zf false + 2 from rfl), if_pos (show S < zfS false from hS)]
    · exact ub.1
