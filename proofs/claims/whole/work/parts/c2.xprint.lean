/-! the class: printing, new items, the brackets around -/
abbrev pzFP (b : Bool) (s t : zq_S) : Prop := zfr [(zs b, 1), (zs b, 2)] [zs b + 1] [] s t
def pzPr (b : Bool) (s : zq_S) (l : List Nat) (nl : Int32) : Prop := zgf s (zs b) 1 = nI l.length ∧ (∀ i, i < l.length → zA s (zs b + 1) i = nI (zgt l i)) ∧ zgf s (zs b) 2 = nl
theorem pzbyte : ∀ x, x < 128 → vp_nar .byte ((Int32.toInt8 (nI x)).toInt32) = nI x := by decide +kernel
theorem pzd10 : ∀ v, v < 100 → (48 : Int32) + (nI v / 10) = nI (48 + v / 10) := by decide +kernel
theorem pzm10 : ∀ v, v < 100 → (48 : Int32) + (nI v - nI v / 10 * 10) = nI (48 + v % 10) := by decide +kernel
theorem mX7_printSign_w (N : Nat) {b : Bool} {s : zq_S} {l : List Nat} {nl : Int32} {x : Nat} (h : pzPr b s l nl) (hl : l.length < 400) (hx : x < 128) : zw (mX7_printSign N b (nI x) s) (fun v => pzFP b s v.2 ∧ pzPr b v.2 (l ++ [x]) 0) := by
  unfold mX7_printSign jX7_printSign_j31
  dsimp only [zq_let]
  rw [h.1, if_neg (by rw [show (400 : Int32) = nI 400 from rfl, nI_leI (by decide) (by omega)]; omega), zck_nI hl (by decide), zpab_eq, nI_clamp (by omega), pzbyte x hx]
  refine zw_some.2 ⟨?_, ?_, fun i hi => ?_, by dsimp only; rw [zgf_pf, if_pos ⟨rfl, rfl⟩]⟩
  · exact ((zfr_sA _ _ (by simp)).tr (zfr_pf _ _ _ (by simp))).tr (zfr_pf _ _ _ (by simp))
  · dsimp only
    rw [zgf_pf, if_neg (by omega), zgf_pf, if_pos ⟨rfl, rfl⟩, zgf_sA, h.1, nI_1, List.length_append, List.length_singleton]
  · rw [List.length_append, List.length_singleton] at hi
    dsimp only
    rw [zA_pf, zA_pf, zA_sA, if_pos rfl]
    unfold upd
    by_cases z : i = l.length
    · rw [if_pos z, z, zgt_last]
    · rw [if_neg z, zgt_left _ (by omega)]
      exact h.2.1 i (by omega)
theorem mX7_printNumber_w (N : Nat) {b : Bool} {s : zq_S} {l : List Nat} {v : Nat} (h : pzPr b s l (if 48 ≤ l.getLastD 0 ∧ l.getLastD 0 ≤ 57 then 1 else 0)) (hv : v < 100) (hl : (zpn l v).length ≤ 400) : zw (mX7_printNumber N b (nI v) s) (fun w => pzFP b s w.2 ∧ pzPr b w.2 (zpn l v) 1) := by
  have key : ∀ (l' : List Nat) (t : zq_S) (nl : Int32), pzFP b s t → pzPr b t l' nl → (l' ++ zdg v).length ≤ 400 → zw (jX7_printNumber_j13 N b (nI v) t) (fun w => pzFP b s w.2 ∧ pzPr b w.2 (l' ++ zdg v) 1) := by
    intro l' t nl ft ht hlen
    have last : ∀ (l' : List Nat) (t : zq_S) (nl : Int32), pzFP b s t → pzPr b t l' nl → (l' ++ [48 + v % 10]).length ≤ 400 → zw (jX7_printNumber_j30 N b (nI v) t) (fun w => pzFP b s w.2 ∧ pzPr b w.2 (l' ++ [48 + v % 10]) 1) := by
      intro l' t nl ft ht hlen
      rw [List.length_append, List.length_singleton] at hlen
      unfold jX7_printNumber_j30
      rw [pzm10 v hv]
      refine zw_call (mX7_printSign_w N ht (by omega) (by omega)) ?_
      intro r u ⟨f1, h1⟩
      dsimp only [zq_let] at f1 h1 ⊢
      refine zw_some.2 ⟨(ft.tr f1).tr (zfr_pf _ _ _ (by simp)), ?_, h1.2.1, ?_⟩
      · dsimp only
        rw [zgf_pf, if_neg (by omega)]; exact h1.1
      · dsimp only
        rw [zgf_pf, if_pos ⟨rfl, rfl⟩]
    unfold jX7_printNumber_j13 zdg at *
    by_cases z : v < 10
    · rw [if_pos (by rw [show (10 : Int32) = nI 10 from rfl, nI_ltI (by omega) (by decide)]; exact z)]
      rw [if_pos z] at hlen ⊢
      have := last l' t nl ft ht (by rw [show v % 10 = v by omega]; exact hlen)
      rw [show v % 10 = v by omega] at this
      exact this
    · rw [if_neg (by rw [show (10 : Int32) = nI 10 from rfl, nI_ltI (by omega) (by decide)]; exact z)]
      rw [if_neg z] at hlen ⊢
      rw [pzd10 v hv]
      have hl2 : (l' ++ [48 + v / 10, 48 + v % 10]).length = l'.length + 2 := by rw [List.length_append]; rfl
      rw [hl2] at hlen
      refine zw_call (mX7_printSign_w N ht (by omega) (by omega)) ?_
      intro r u ⟨f1, h1⟩
      dsimp only at f1 h1 ⊢
      have := last _ u 0 (ft.tr f1) h1 (by rw [List.length_append, List.length_append]; exact hlen)
      rw [List.append_assoc] at this
      exact this
  unfold mX7_printNumber
  rw [h.2.2]
  unfold zpn at hl ⊢
  by_cases z : 48 ≤ l.getLastD 0 ∧ l.getLastD 0 ≤ 57
  · rw [if_pos z, if_neg (show ¬ (1 : Int32) = 0 by decide)]
    rw [if_pos z] at hl ⊢
    rw [if_pos z] at h
    have hl' : l.length < 400 := by rw [List.length_append, List.length_append, List.length_singleton] at hl; omega
    refine zw_call (mX7_printSign_w N (x := 32) h hl' (by decide)) ?_
    intro r u ⟨f1, h1⟩
    dsimp only at f1 h1 ⊢
    exact key _ u 0 f1 h1 hl
  · rw [if_neg z, if_pos rfl]
    rw [if_neg z] at hl ⊢
    exact key l s _ zfr_rfl h hl
theorem mX7_addItem_w (N : Nat) {b : Bool} {s : zq_S} {n : Nat} (hn : zgf s (zs b) 6 = nI n) (h1 : n < 100) (x : Int32) : zw (mX7_addItem N b x s) (fun v => zfr [(zs b, 6)] [zs b + 2, zs b + 3, zs b + 4] [] s v.2 ∧ zgf v.2 (zs b) 6 = nI (n + 1) ∧
    (∀ k, zA v.2 (zs b + 2) k = if k = n then x else zA s (zs b + 2) k) ∧ (∀ k, zA v.2 (zs b + 3) k = if k = n then -1 else zA s (zs b + 3) k) ∧ (∀ k, zA v.2 (zs b + 4) k = if k = n then -1 else zA s (zs b + 4) k)) := by
  unfold mX7_addItem jX7_addItem_j49
  dsimp only [zq_let]
  rw [hn, if_neg (by rw [show (100 : Int32) = nI 100 from rfl, nI_leI (by decide) (by omega)]; omega)]
  simp (disch := omega) only [hn, zpa_eq, zgf_sA, zck_nI, nI_clamp, nI_1]
  refine zw_some.2 ⟨?_, ?_, fun k => ?_, fun k => ?_, fun k => ?_⟩
  · exact (((zfr_sA _ _ (by simp)).tr (zfr_sA _ _ (by simp))).tr (zfr_sA _ _ (by simp))).tr (zfr_pf _ _ _ (by simp))
  · dsimp only
    rw [zgf_pf, if_pos ⟨rfl, rfl⟩]
  · simp [zA_pf, zA_sA, upd]
  · simp [zA_pf, zA_sA, upd]
  · simp [zA_pf, zA_sA, upd]
