/-! what the invariants depend on -/
theorem zXI_fr {g : zG} {s t : zq_S} (h : zXI g s) (hf : ∀ k j, k < 57 → zgf t k j = zgf s k j) (hb : ∀ i, zgb t i = zgb s i) (ha : ∀ k, k < 57 → k ≠ 36 → zA t k = zA s k) (hl : ∀ k, k < 57 → k ≠ 1 → k ≠ 48 → k ≠ 55 → zL t k = zL s k) : zXI g t := by
  unfold zXI zX1 zX2 zX3 zX4 zX5 zCa zXS zTc zRow zGD zWV zSV zVV at h ⊢
  cases q : zgb s 0 with
  | false =>
    simp only [q, hb] at h ⊢
    simp (disch := decide) only [hf, ha, hl] at h ⊢
    exact h
  | true =>
    simp only [q, hb] at h ⊢
    simp (disch := decide) only [hf, ha, hl] at h ⊢
    exact h
theorem zXI_SX {g : zG} {s t : zq_S} (h : zXI g s) (h2 : zSX s t) : zXI g t := zXI_fr h h2.1 h2.2.1 (fun k a _ => h2.2.2.1 k a) (fun k a _ _ _ => h2.2.2.2 k a)
theorem zXI_room {g : zG} {s t : zq_S} (h : zXI g s) (h2 : zfr [] [36] [1, 48, 55] s t) : zXI g t := by
  refine zXI_fr h (fun k j _ => h2.f k j (by simp)) h2.b (fun k _ a => h2.a k (by simpa using a)) (fun k _ a b c => h2.l k ?_)
  intro q; simp only [List.mem_cons, List.not_mem_nil, or_false] at q; omega
theorem zMI_SM {g : zG} {s t : zq_S} (h : zMI g s) (h2 : zSM s t) : zMI g t := by
  obtain ⟨hf, ha, hl⟩ := h2
  unfold zMI zM1 zM2 zM3 zM4' zM5 zCm zMS zFD zMx at h ⊢
  simp (disch := decide) only [hf, ha, hl] at h ⊢
  exact h
/-- behind a query: the class -/
theorem zXI_Q {g : zG} {s t : zq_S} (h : zXI g s) (h2 : zXQ s t) (hc : zCa g t) : zXI g t := by
  obtain ⟨h0, h1, h3, h4, h5, h6, -⟩ := h
  obtain ⟨hf, hb, ha, hl⟩ := h2
  refine ⟨h0, ?_, ?_, ?_, ?_, ?_, hc⟩
  · unfold zX1 zXS at h1 ⊢
    cases q : zgb s 0 with
    | false =>
      simp only [q, hb] at h1 ⊢
      simp (disch := decide) only [hf, ha, hl] at h1 ⊢
      exact h1
    | true =>
      simp only [q, hb] at h1 ⊢
      simp (disch := decide) only [hf, ha, hl] at h1 ⊢
      exact h1
  · unfold zX2 at h3 ⊢
    simp (disch := decide) only [hf, ha, hl] at h3 ⊢
    exact h3
  · unfold zX3 zRow at h4 ⊢
    simp (disch := decide) only [hf, ha, hl] at h4 ⊢
    exact h4
  · unfold zX4 at h5 ⊢
    simp (disch := decide) only [hf, ha, hl] at h5 ⊢
    exact h5
  · unfold zX5 at h6 ⊢
    simp (disch := decide) only [hf, ha, hl] at h6 ⊢
    exact h6
/-- behind a query: the reference -/
theorem zMI_Q {g : zG} {s t : zq_S} (h : zMI g s) (h2 : zMQ s t) (hc : zCm g t) : zMI g t := by
  obtain ⟨h0, h1, h3, h4, h5, h6, -⟩ := h
  obtain ⟨hf, hb, ha, hl⟩ := h2
  refine ⟨h0, ?_, ?_, ?_, ?_, ?_, hc⟩
  · unfold zM1 zMS at h1 ⊢
    simp (disch := decide) only [hf, ha, hl] at h1 ⊢
    exact h1
  · unfold zM2 at h3 ⊢
    simp (disch := decide) only [hf, ha, hl] at h3 ⊢
    exact h3
  · unfold zM3 at h4 ⊢
    simp (disch := decide) only [hf, ha, hl] at h4 ⊢
    exact h4
  · unfold zM4' at h5 ⊢
    simp (disch := decide) only [hf, ha, hl] at h5 ⊢
    exact h5
  · unfold zM5 at h6 ⊢
    simp (disch := decide) only [hf, ha, hl] at h6 ⊢
    exact h6
theorem zXI_mid {g : zG} {s : zq_S} (h : zXI g s) : zXI g.mid s := by
  obtain ⟨h0, h1, h2, h3, h4, h5, h6, h7, h8, h9, h10, h11⟩ := h
  exact ⟨h0, h1, h2, h3, h4, h5, h6, h7, h8, h9, (fun q => absurd (show true = false from q) (by decide)), (fun q => absurd (show true = false from q) (by decide))⟩
theorem zXI_unmid {g : zG} {s : zq_S} (h : zXI g.mid s) (h1 : zgf s 46 7 = zgf s 31 8 → zSV g s) (h2 : zgf s 49 5 = zgf s 31 8 → zVV g s) : zXI g s := by
  obtain ⟨h0, k1, k2, h3, h4, h5, h6, h7, h8, h9, -, -⟩ := h
  exact ⟨h0, k1, k2, h3, h4, h5, h6, h7, h8, h9, fun _ => h1, fun _ => h2⟩
-- readers of the class's invariant
section zXIs
variable {g : zG} {s : zq_S}
theorem zXI.W (h : zXI g s) : zGW g := h.1
theorem zXI.p3 (h : zXI g s) : zgb s 3 = zgb s 0 := h.2.1.1
theorem zXI.p4 (h : zXI g s) : zgb s 4 = zgb s 0 := h.2.1.2.1
theorem zXI.mk0 (h : zXI g s) : zgf s (zs (zgb s 0)) 7 = nI g.n := h.2.1.2.2.2.1
theorem zXI.mk (h : zXI g s) : zgf s (zs (zgb s 3)) 7 = nI g.n := by rw [h.p3]; exact h.mk0
theorem zXI.xs (h : zXI g s) : zXS (zgb s 4) s g.T := by rw [h.p4]; exact h.2.1.2.2.2.2.2.1
theorem zXI.r39 (h : zXI g s) : zgf s 39 0 = nI 1024 := h.2.1.2.2.2.2.2.2.2.2.2.2.2.2
theorem zXI.bf (h : zXI g s) : ∀ m, m < g.n → zA s 34 m = nI (g.mu m) := h.2.2.1.2.2.1
theorem zXI.bh (h : zXI g s) : ∀ m, m < g.n → zA s 35 m = nI (zbh g.mu m g.n) := h.2.2.1.2.2.2
theorem zXI.ik (h : zXI g s) : ∀ m, m < g.n → zA s 32 m = nI (g.ik m) := h.2.2.1.1
theorem zXI.xm (h : zXI g s) : zXM s g.n g.mu := ⟨h.W.n, h.mk, h.bf, h.W.mu⟩
theorem zXI.c3 (h : zXI g s) : zX3 g.dr g.cp s := h.2.2.2.1
theorem zXI.c4 (h : zXI g s) : zX4 g.bs g.nb s := h.2.2.2.2.1
theorem zXI.c5 (h : zXI g s) : zX5 g.hd g.fp s := h.2.2.2.2.2.1
theorem zXI.ca (h : zXI g s) : zCa g s := h.2.2.2.2.2.2
theorem zXI.vr (h : zXI g s) : ∃ v, v ≤ g.vc ∧ zgf s 31 8 = nI v ∧ zvo v (zgf s 31 9) ∧ zvo v (zgf s 44 5) ∧ zvo v (zgf s 46 7) ∧ zvo v (zgf s 49 5) := h.ca.1
theorem zXI.gd (h : zXI g s) : zgf s 31 9 = zgf s 31 8 → zGD s g.n g.mu := h.ca.2.1
theorem zXI.wv (h : zXI g s) : zgf s 44 5 = zgf s 31 8 → zWV s g.n g.mu := h.ca.2.2.1
theorem zXI.tc (h : zXI g s) : zTc s g.T := h.ca.2.2.2.1
theorem zXI.sv (h : zXI g s) : g.md = false → zgf s 46 7 = zgf s 31 8 → zSV g s := h.ca.2.2.2.2.1
theorem zXI.vv (h : zXI g s) : g.md = false → zgf s 49 5 = zgf s 31 8 → zVV g s := h.ca.2.2.2.2.2
theorem zMI.W (h : zMI g s) : zGW g := h.1
theorem zMI.mk (h : zMI g s) : zgf s 57 6 = nI g.n := h.2.1.1
theorem zMI.ms (h : zMI g s) : zMS s g.T := h.2.1.2.2.1
theorem zMI.mu (h : zMI g s) : ∀ m, m < g.n → zA s 65 m = nI (g.mu m) := h.2.2.1.2.2
theorem zMI.ik (h : zMI g s) : ∀ m, m < g.n → zA s 63 m = nI (g.ik m) := h.2.2.1.1
theorem zMI.c3 (h : zMI g s) : zM3 g.dr g.cp s := h.2.2.2.1
theorem zMI.c4 (h : zMI g s) : zM4' g.bs g.nb s := h.2.2.2.2.1
theorem zMI.c5 (h : zMI g s) : zM5 g.hd g.fp s := h.2.2.2.2.2.1
theorem zMI.cm (h : zMI g s) : zCm g s := h.2.2.2.2.2.2
end zXIs
