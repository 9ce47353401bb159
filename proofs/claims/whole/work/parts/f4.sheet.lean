/-! sheet: class and reference agree -/
theorem zkd2_zkd : ∀ g, g < 9 → zkd2 g = zkd g := by decide
theorem pzK_M1 {h : List Nat} {R : List zIt} {t : zq_S} (hE : pzEnd h R) (h0 : zgf t 57 0 = nI R.length) (h5 : zgf t 57 5 = nI (pzwn R)) (h6 : zgf t 57 6 = nI (zbc (pzmk R) 10)) (hK : ∀ k, k < R.length → pzKi R t k) (hm : ∀ m, m < 10 → pzFm R R (zbc (pzmk R) 10) t m) : zM1 (pzGs R) t := by
  obtain ⟨⟨p, hI⟩, e2, e3, e4, e5, e6⟩ := id hE
  have hV := hI.1
  have bit := pzEnd_bit hE
  have told : ∀ m, m < zbc (pzmk R) 10 → (pzmk R).testBit m = true := fun m hm => by rw [bit, decide_eq_true_eq]; exact hm
  refine ⟨h6, h5, ⟨h0, fun p hp => ?_, fun p hp hc => ?_, fun p hp hc => ?_, fun p hp hc => ?_, fun p hp hc => ?_, fun p hp hc => ?_, fun p hp hc => ?_⟩, fun m hm' => ?_, fun m hm' => ?_, fun m hm' => ?_, fun m hm' => ?_, fun p hp => ⟨?_, fun hc => ?_, fun hc => ?_⟩⟩
  · have := (pzV_at hV hp).1.1
    refine ⟨this, fun y => ?_⟩
    have y : (pzat R p).sg ≤ 8 := y
    rw [(hK p hp).1]
    exact zkd2_zkd _ (by omega)
  · have hc : (pzat R p).sg = 1 ∨ (pzat R p).sg = 2 ∨ (pzat R p).sg = 3 ∨ (pzat R p).sg = 7 := hc
    exact ⟨(pzV_at hV hp).1.2.1, (hK p hp).2.2.1 (by omega)⟩
  · exact (hK p hp).2.1 hc
  · exact ⟨(pzV_at hV hp).1.2.1, (hK p hp).2.2.2.2.2.1 hc⟩
  · have hc : (pzat R p).sg = 1 ∨ (pzat R p).sg = 2 ∨ (pzat R p).sg = 3 ∨ (pzat R p).sg = 8 := hc
    exact (hK p hp).2.2.2.2.2.2 (by omega)
  · have hc : (pzat R p).sg = 7 := hc
    obtain ⟨c1, c2⟩ := pz_sx1 hV p hp hc
    rw [← e4] at c2
    exact (hm _ (pzV_at hV hp).1.2.1).2.2 c2
  · have hc : (pzat R p).sg = 2 := hc
    have hok := pzV_at hV hp
    have b5 := (hK p hp).2.2.2.2.1 (by omega)
    have es := pzsd_at hV hp (by omega)
    show (pzsd R (pzat R p).mk = none ∧ zA t 60 p = -1) ∨ (∃ d, d < 10 ∧ pzsd R (pzat R p).mk = some d ∧ zA t 60 p = nI d)
    by_cases z : (pzat R p).sd = 0
    · rw [if_pos z] at es b5
      exact Or.inl ⟨es, b5⟩
    · rw [if_neg z] at es b5
      have := hok.1.2.2.2.1
      exact Or.inr ⟨_, by omega, es, b5⟩
  · have hm'' : m < zbc (pzmk R) 10 := hm'
    exact (hm m (by omega)).1 hm''
  · have hm'' : m < zbc (pzmk R) 10 := hm'
    exact ((hm m (by omega)).2.1 (told m hm'')).1
  · have hm'' : m < zbc (pzmk R) 10 := hm'
    exact ((hm m (by omega)).2.1 (told m hm'')).2.2
  · have hm'' : m < zbc (pzmk R) 10 := hm'
    exact ((hm m (by omega)).2.1 (told m hm'')).2.1
  · exact (hK p hp).1
  · have hc : (pzat R p).sg = 4 ∨ (pzat R p).sg = 5 ∨ (pzat R p).sg = 6 := hc
    exact ((hK p hp).2.2.2.1 (by omega)).1
  · have hc : (pzat R p).sg = 1 ∨ (pzat R p).sg = 3 := hc
    rw [(hK p hp).2.2.2.2.1 (by omega), if_pos ((pzV_at hV hp).1.2.2.2.2 (by omega))]
theorem mX12_sheet_inv (N : Nat) (hN : 5000 ≤ N) {g : zG} {s : zq_S} (h : zMI g s) (hv : g.vc < 1000) {c pl : Nat} {R : List zIt} (hO : pzOut g.hd c pl R) :
    (c ≠ 0 → zw (mX12_sheet N s) (fun v => v.1 = (-10 : Int32) - nI c ∧ zMI (g.setD ((g.dr, g.cp), (g.bs, g.nb), ([], nI pl))) v.2 ∧ zSX s v.2)) ∧
    (c = 0 → zw (mX12_sheet N s) (fun v => v.1 = nI (zbc (pzmk R) 10) ∧ zMI (pzGh g R) v.2 ∧ zSX s v.2)) := by
  obtain ⟨h0, x1, x2, x3, x4, x5, hca⟩ := id h
  obtain ⟨w1, w2, w3, w4, w5, w6, w7, w8⟩ := id h0
  have hHM : zHM g.hd s := ⟨x5.1, x5.2.1, w7.1, w7.2⟩
  refine ⟨fun hc => ?_, fun hc => ?_⟩
  · refine mX12_sheet_w N hN hHM hO (fun _ t F e17 => ?_) (fun y => absurd y hc)
    have F2 : zfr [(57, 16), (57, 17), (57, 18), (57, 19), (57, 20), (57, 21), (57, 27), (57, 28), (57, 29), (57, 30), (57, 31), (57, 33), (57, 34)] [71, 72, 73, 74, 75, 76] [] s (zpf t 57 16 0) := (F.mo (by decide) (by decide) (by decide)).tr (zfr_pf _ _ _ (by decide))
    have q16 : zgf (zpf t 57 16 0) 57 16 = 0 := rfl
    have q17 : zgf (zpf t 57 16 0) 57 17 = nI pl := e17
    generalize zpf t 57 16 0 = u at F2 q16 q17
    obtain ⟨hf, hb, ha, hl⟩ := id F2
    refine ⟨rfl, ⟨⟨w1, w2, w3, w4, w5, w6, ⟨Nat.zero_le _, fun x hx => absurd hx List.not_mem_nil⟩, w8⟩, ?_, ?_, ?_, ?_, ⟨q16, fun i hi => absurd hi (Nat.not_lt_zero i), q17⟩, ?_⟩, ?_⟩
    · show zM1 g.S u
      unfold zM1 zMS at x1 ⊢
      simp (disch := decide) only [hf, ha, hl] at x1 ⊢
      exact x1
    · show zM2 g u
      unfold zM2 at x2 ⊢
      simp (disch := decide) only [hf, ha, hl] at x2 ⊢
      exact x2
    · show zM3 g.dr g.cp u
      unfold zM3 at x3 ⊢
      simp (disch := decide) only [hf, ha, hl] at x3 ⊢
      exact x3
    · show zM4' g.bs g.nb u
      unfold zM4' at x4 ⊢
      simp (disch := decide) only [hf, ha, hl] at x4 ⊢
      exact x4
    · show zCm g u
      unfold zCm zFD zMx at hca ⊢
      simp (disch := decide) only [hf, ha, hl] at hca ⊢
      exact hca
    · refine ⟨fun k j hk => F2.f k j ?_, F2.b, fun k hk => F2.a k ?_, fun k hk => F2.l k ?_⟩
      · intro q; simp only [List.mem_cons, Prod.mk.injEq, List.not_mem_nil, or_false] at q; omega
      · intro q; simp only [List.mem_cons, List.not_mem_nil, or_false] at q; omega
      · intro q; simp at q
  · refine mX12_sheet_w N hN hHM hO (fun y => absurd hc y) (fun _ t q F C => ?_)
    subst hc
    have hE := pzOut_end hO
    have hW' := pzGh_W h0 hv hE w7.1
    refine zw_mono (mX12_keepSheet_w N hN hE C) ?_
    intro v ⟨f, ⟨k0, k5, k6, k16, k37, k44⟩, kK, km, k63, k69, k65⟩
    have F2 : zfr [(57, 0), (57, 5), (57, 6), (57, 16), (57, 37), (57, 44), (57, 17), (57, 18), (57, 19), (57, 20), (57, 21), (57, 27), (57, 28), (57, 29), (57, 30), (57, 31), (57, 33), (57, 34)] [58, 59, 60, 61, 62, 63, 64, 65, 66, 67, 68, 69, 71, 72, 73, 74, 75, 76] [] s v.2 := (F.mo (by decide) (by decide) (by decide)).tr (f.mo (by decide) (by decide) (by decide))
    obtain ⟨hf, hb, ha, hl⟩ := id F2
    refine ⟨k6, ⟨hW', pzK_M1 hE k0 k5 k6 kK km, ⟨k63, fun a b _ _ => k69 _ (by omega), k65⟩, ?_, ?_, ⟨k16, fun i hi => absurd hi (Nat.not_lt_zero i), ?_⟩, Or.inl k37, Or.inl k44⟩, ?_⟩
    · show zM3 g.dr g.cp v.2
      unfold zM3 at x3 ⊢
      simp (disch := decide) only [hf, ha, hl] at x3 ⊢
      exact x3
    · show zM4' g.bs g.nb v.2
      unfold zM4' at x4 ⊢
      simp (disch := decide) only [hf, ha, hl] at x4 ⊢
      exact x4
    · rw [f.f 57 17 (by decide)]; exact C.2.1
    · refine ⟨fun k j hk => F2.f k j ?_, F2.b, fun k hk => F2.a k ?_, fun k hk => F2.l k ?_⟩
      · intro q; simp only [List.mem_cons, Prod.mk.injEq, List.not_mem_nil, or_false] at q; omega
      · intro q; simp only [List.mem_cons, List.not_mem_nil, or_false] at q; omega
      · intro q; simp at q
theorem step_sheet (N : Nat) (hN : 5000 ≤ N) {k : Nat} (hk9 : k < 900) {g : zG} (hk : zOk k g) : zStep k g (mX11_sheet N) (mX12_sheet N) := by
  obtain ⟨hW, hmd, hvc⟩ := id hk
  obtain ⟨c, pl, R, hO⟩ := pzOut_ex g.hd
  have hv : g.vc < 1000 := by omega
  by_cases hc : c = 0
  · have hE : pzEnd g.hd R := by rw [hc] at hO; exact pzOut_end hO
    refine ⟨pzGh g R, ⟨pzGh_W hW hv hE hW.hd.1, rfl, show g.vc + 1 ≤ k + 1 by omega⟩, zAg_2 ⟨nI (zbc (pzmk R) 10), fun s h => ?_, fun s h => ?_⟩⟩
    · exact (mX11_sheet_w N hN h hv hO).2 hc
    · exact (mX12_sheet_inv N hN h hv hO).2 hc
  · obtain ⟨w1, w2, w3, w4, w5, w6, w7, w8⟩ := id hW
    refine ⟨g.setD ((g.dr, g.cp), (g.bs, g.nb), ([], nI pl)), ⟨⟨w1, w2, w3, w4, w5, w6, ⟨Nat.zero_le _, fun x hx => absurd hx List.not_mem_nil⟩, w8⟩, hmd, show g.vc ≤ k + 1 by omega⟩, zAg_2 ⟨(-10 : Int32) - nI c, fun s h => ?_, fun s h => ?_⟩⟩
    · exact (mX11_sheet_w N hN h hv hO).1 hc
    · exact (mX12_sheet_inv N hN h hv hO).1 hc
