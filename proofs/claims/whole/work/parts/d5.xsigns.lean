/-! the class: an item begun -/
def pzCY (h : List Nat) (b : Bool) (R : List zIt) (l : List Nat) (st : Int32) (s : zq_S) : Prop :=
  zHX h s ∧ zgb s 2 = b ∧ zgf s 26 4 = st ∧ zgf s 26 6 = nI (pzstk R).length ∧ zgf s 26 7 = nI (pzmk R) ∧ (pzph R ≠ 0 → zgf s 26 8 = pzov R) ∧ pzXs s (pzstk R) ∧
  zgf s (zs b) 6 = nI R.length ∧ zgf s (zs b) 8 = nI (pzwn R) ∧ pzPr b s l (pznl l) ∧ (∀ k, k < R.length → pzXi b R s k) ∧ (∀ m, m < 10 → pzXm b R s m)
def pzDX (h : List Nat) (b : Bool) (R : List zIt) (L : List Nat) (l : List Nat) (st c : Int32) (s : zq_S) : Prop :=
  zHX h s ∧ zgb s 2 = b ∧ zgf s 26 4 = st ∧ zgf s 26 6 = nI L.length ∧ zgf s 26 7 = nI (pzmk R) ∧ pzXs s L ∧
  zgf s (zs b) 6 = nI (R.length + 1) ∧ zgf s (zs b) 8 = nI (pzwn R) ∧ pzPr b s l (pznl l) ∧ (∀ k, k < R.length → pzXi b R s k) ∧ (∀ m, m < 10 → pzXm b R s m) ∧ zA s (zs b + 2) R.length = c
theorem zs_c (b : Bool) : zs b = 2 ∨ zs b = 14 := by cases b <;> simp [zs]
theorem pzXm_eq {b : Bool} {R : List zIt} {s t : zq_S} {m : Nat} (h : pzXm b R s m) (e5 : zA t (zs b + 5) m = zA s (zs b + 5) m) (e6 : zA t (zs b + 6) m = zA s (zs b + 6) m) (e7 : zA t (zs b + 7) m = zA s (zs b + 7) m) (e8 : zA t (zs b + 8) m = zA s (zs b + 8) m) (e9 : zA t (zs b + 9) m = zA s (zs b + 9) m) (e10 : zA t (zs b + 10) m = zA s (zs b + 10) m) (e11 : zA t (zs b + 11) m = zA s (zs b + 11) m) (e29 : zA t 29 m = zA s 29 m) (e30 : zA t 30 m = zA s 30 m) : pzXm b R t m := by
  unfold pzXm
  rw [e5, e6, e7, e8, e9, e10, e11, e29, e30]
  exact h
theorem pzXi_eq {b : Bool} {R : List zIt} {s t : zq_S} {k : Nat} (h : pzXi b R s k) (e2 : zA t (zs b + 2) k = zA s (zs b + 2) k) (e3 : zA t (zs b + 3) k = zA s (zs b + 3) k) (e4 : zA t (zs b + 4) k = zA s (zs b + 4) k) : pzXi b R t k := by
  unfold pzXi
  rw [e2, e3, e4]
  exact h
theorem pznl_sgn (l : List Nat) {x : Nat} (hx : x < 48 ∨ 57 < x) : pznl (l ++ [x]) = 0 := by
  unfold pznl
  rw [pzLast, if_neg (by omega)]
theorem pzPr_fr {b : Bool} {s t : zq_S} {l : List Nat} {nl : Int32} (h : pzPr b s l nl) (e1 : zgf t (zs b) 1 = zgf s (zs b) 1) (e2 : zgf t (zs b) 2 = zgf s (zs b) 2) (e3 : zA t (zs b + 1) = zA s (zs b + 1)) : pzPr b t l nl :=
  ⟨by rw [e1]; exact h.1, fun i hi => by rw [e3]; exact h.2.1 i hi, by rw [e2]; exact h.2.2⟩
theorem pzFP_FX {b : Bool} {s t : zq_S} (f : pzFP b s t) : pzFX b s t := f.mo (by simp) (by simp) (by simp)
theorem pzDX_pr {h : List Nat} {b : Bool} {R : List zIt} {L l l' : List Nat} {st c : Int32} {s t : zq_S} (hs : pzDX h b R L l st c s) (f : pzFP b s t) (hp : pzPr b t l' (pznl l')) : pzDX h b R L l' st c t := by
  obtain ⟨c1, c2, c3, c4, c5, c6, c7, c8, c9, c10, c11, c12⟩ := hs
  have hb := zs_c b
  have ff : ∀ j, zgf t 26 j = zgf s 26 j := fun j => f.f 26 j (by simp <;> omega)
  have fa : ∀ k, k ≠ zs b + 1 → zA t k = zA s k := fun k hk => f.a k (by simp; exact hk)
  refine ⟨zHX_fr (b := b) c1 (pzFP_FX f), by rw [f.b 2]; exact c2, by rw [ff]; exact c3, by rw [ff]; exact c4, by rw [ff]; exact c5, pzXs_eq L (fun d _ => by rw [fa 28 (by omega)]) c6, by rw [f.f (zs b) 6 (by simp)]; exact c7, by rw [f.f (zs b) 8 (by simp)]; exact c8, hp, fun k hk => ?_, fun m hm => ?_, by rw [fa _ (by omega)]; exact c12⟩
  · exact pzXi_eq (c10 k hk) (by rw [fa _ (by omega)]) (by rw [fa _ (by omega)]) (by rw [fa _ (by omega)])
  · exact pzXm_eq (c11 m hm) (by rw [fa _ (by omega)]) (by rw [fa _ (by omega)]) (by rw [fa _ (by omega)]) (by rw [fa _ (by omega)]) (by rw [fa _ (by omega)]) (by rw [fa _ (by omega)]) (by rw [fa _ (by omega)]) (by rw [fa _ (by omega)]) (by rw [fa _ (by omega)])
theorem pzCY_pr {h : List Nat} {b : Bool} {R : List zIt} {l l' : List Nat} {st : Int32} {s t : zq_S} (hs : pzCY h b R l st s) (f : pzFP b s t) (hp : pzPr b t l' (pznl l')) : pzCY h b R l' st t := by
  obtain ⟨c1, c2, c3, c4, c5, c6, c7, c8, c9, c10, c11, c12⟩ := hs
  have hb := zs_c b
  have ff : ∀ j, zgf t 26 j = zgf s 26 j := fun j => f.f 26 j (by simp <;> omega)
  have fa : ∀ k, k ≠ zs b + 1 → zA t k = zA s k := fun k hk => f.a k (by simp; exact hk)
  refine ⟨zHX_fr (b := b) c1 (pzFP_FX f), by rw [f.b 2]; exact c2, by rw [ff]; exact c3, by rw [ff]; exact c4, by rw [ff]; exact c5, fun y => by rw [ff]; exact c6 y, pzXs_eq _ (fun d _ => by rw [fa 28 (by omega)]) c7, by rw [f.f (zs b) 6 (by simp)]; exact c8, by rw [f.f (zs b) 8 (by simp)]; exact c9, hp, fun k hk => ?_, fun m hm => ?_⟩
  · exact pzXi_eq (c11 k hk) (by rw [fa _ (by omega)]) (by rw [fa _ (by omega)]) (by rw [fa _ (by omega)])
  · exact pzXm_eq (c12 m hm) (by rw [fa _ (by omega)]) (by rw [fa _ (by omega)]) (by rw [fa _ (by omega)]) (by rw [fa _ (by omega)]) (by rw [fa _ (by omega)]) (by rw [fa _ (by omega)]) (by rw [fa _ (by omega)]) (by rw [fa _ (by omega)]) (by rw [fa _ (by omega)])
/-- the item begun, from its parts -/
theorem pzDX_mk {h : List Nat} {b : Bool} {R : List zIt} {L : List Nat} {st0 st c : Int32} {s t : zq_S} (hs : pzCX h b R st0 s) (f : zfr [(zs b, 6), (26, 4), (26, 6), (26, 8), (26, 9)] [28, zs b + 2, zs b + 3, zs b + 4] [] s t) (h6 : zgf t (zs b) 6 = nI (R.length + 1)) (h4 : zgf t 26 4 = st) (hd : zgf t 26 6 = nI L.length) (hL : pzXs t L)
    (r2 : ∀ i, zA t (zs b + 2) i = if i = R.length then c else zA s (zs b + 2) i) (r3 : ∀ i, i ≠ R.length → zA t (zs b + 3) i = zA s (zs b + 3) i) (r4 : ∀ i, i ≠ R.length → zA t (zs b + 4) i = zA s (zs b + 4) i) : pzDX h b R L (pzpr R) st c t := by
  obtain ⟨c1, c2, c3, c4, c5, c6, c7, c8, c9, c10, c11, c12⟩ := hs
  have hb := zs_c b
  have fa : ∀ k, k ≠ 28 → k ≠ zs b + 2 → k ≠ zs b + 3 → k ≠ zs b + 4 → zA t k = zA s k := fun k a1 a2 a3 a4 => f.a k (by simp <;> omega)
  refine ⟨zHX_fr (b := b) c1 (f.mo (by simp) (by simp) (by simp)), by rw [f.b 2]; exact c2, h4, hd, by rw [f.f 26 7 (by simp <;> omega)]; exact c5, hL, h6, by rw [f.f (zs b) 8 (by simp <;> omega)]; exact c9, pzPr_fr c10 (f.f (zs b) 1 (by simp <;> omega)) (f.f (zs b) 2 (by simp <;> omega)) (fa _ (by omega) (by omega) (by omega) (by omega)), fun k hk => ?_, fun m hm => ?_, by rw [r2, if_pos rfl]⟩
  · exact pzXi_eq (c11 k hk) (by rw [r2, if_neg (by omega)]) (r3 k (by omega)) (r4 k (by omega))
  · exact pzXm_eq (c12 m hm) (by rw [fa _ (by omega) (by omega) (by omega) (by omega)]) (by rw [fa _ (by omega) (by omega) (by omega) (by omega)]) (by rw [fa _ (by omega) (by omega) (by omega) (by omega)]) (by rw [fa _ (by omega) (by omega) (by omega) (by omega)]) (by rw [fa _ (by omega) (by omega) (by omega) (by omega)]) (by rw [fa _ (by omega) (by omega) (by omega) (by omega)]) (by rw [fa _ (by omega) (by omega) (by omega) (by omega)]) (by rw [fa _ (by omega) (by omega) (by omega) (by omega)]) (by rw [fa _ (by omega) (by omega) (by omega) (by omega)])
/-- the sign is printed at last -/
theorem X_last (N : Nat) {b : Bool} {s : zq_S} {l : List Nat} {nl : Int32} {x : Nat} (hb : zgb s 2 = b) (hp : pzPr b s l nl) (hl : l.length < 400) (hx : x < 128) (hx2 : x < 48 ∨ 57 < x) : zw (jX5_takeSign_j148 N (nI x) 0 s) (fun v => v.1 = 0 ∧ pzFP b s v.2 ∧ pzPr b v.2 (l ++ [x]) (pznl (l ++ [x]))) := by
  unfold jX5_takeSign_j148 jX5_takeSign_j160
  rw [if_pos rfl, hb]
  refine zw_call (mX7_printSign_w N hp hl hx) ?_
  intro r t ⟨f, q⟩
  rw [pznl_sgn l hx2]
  exact zw_some.2 ⟨rfl, f, q⟩
theorem X_sopen (N : Nat) {h : List Nat} {b : Bool} {R : List zIt} {s : zq_S} {q k : Nat} (hV : pzV R) (hs : pzCX h b R 0 s) (hk : 1 ≤ k ∧ k ≤ 3) (hg : zgt h q = pzob k) (hq : q < h.length) (hd : (pzstk R).length < 8) (hB : (pzpr R).length ≤ q) :
    zw (mX5_takeSign N (nI q) s) (fun v => v.1 = 0 ∧ pzFX b s v.2 ∧ pzDX h b R (R.length :: pzstk R) (pzpr R ++ [pzob k]) 5 (zcode k) v.2 ∧ zgf v.2 26 9 = nI q) := by
  have hs' := hs
  obtain ⟨c1, c2, c3, c4, c5, c6, c7, c8, c9, c10, c11, c12⟩ := hs'
  have hl := c1.2.2.1
  have hlen := pz_len hV
  have hb := zs_c b
  have hc : pzob k < 128 ∧ 57 < pzob k := by
    rcases pzob_c hk with y | y | y <;> omega
  rw [mX5_sgn_item N c1 hq c3, hg, zw_b2]
  have e : mX5_takeItemSign N (nI (pzob k)) (nI q) s = zq_b2 (mX5_openBracket N (zcode k) (zpf s 26 9 (nI q))) (fun r t => some (r, t)) := by
    unfold mX5_takeItemSign
    rcases pzob_c hk with ⟨y, z⟩ | ⟨y, z⟩ | ⟨y, z⟩ <;> rw [z, y] <;> rfl
  rw [e, zw_b2]
  refine zw_mono (X_openOk N (b := b) (d := (pzstk R).length) (n := R.length) (by rw [zgb_pf]; exact c2) (by rw [zgf_pf, if_neg (by omega)]; exact c4) hd (by rw [zgf_pf, if_neg (by omega)]; exact c8) (by omega) (zcode k)) ?_
  intro v ⟨v0, f, g6, gd, g4, g28, g2, g3, g4'⟩
  refine zw_some.2 ?_
  dsimp only
  rw [v0]
  have F : zfr [(zs b, 6), (26, 4), (26, 6), (26, 8), (26, 9)] [28, zs b + 2, zs b + 3, zs b + 4] [] s v.2 := (zfr_pf _ _ _ (by simp)).tr (f.mo (by simp) (by simp) (by simp))
  have D : pzDX h b R (R.length :: pzstk R) (pzpr R) 5 (zcode k) v.2 := by
    refine pzDX_mk hs F g6 g4 gd ⟨?_, ?_⟩ g2 g3 g4'
    · rw [g28, if_pos rfl]
    · exact pzXs_eq _ (fun d hd => by rw [g28, if_neg (by omega)]; rfl) c7
  refine zw_mono (X_last N D.2.1 D.2.2.2.2.2.2.2.2.1 (by omega) hc.1 (Or.inr hc.2)) ?_
  intro w ⟨w0, fw, pw⟩
  refine ⟨w0, (F.mo (by simp) (by simp) (by simp)).tr (pzFP_FX fw), pzDX_pr D fw pw, ?_⟩
  rw [fw.f 26 9 (by simp), f.f 26 9 (by simp <;> omega)]
  rfl
theorem X_sopen_bad (N : Nat) {h : List Nat} {b : Bool} {R : List zIt} {s : zq_S} {q k : Nat} (hs : pzCX h b R 0 s) (hk : 1 ≤ k ∧ k ≤ 3) (hg : zgt h q = pzob k) (hq : q < h.length) (hd : (pzstk R).length = 8) : mX5_takeSign N (nI q) s = some (5, zpf s 26 9 (nI q)) := by
  obtain ⟨c1, c2, c3, c4, c5, c6, c7, c8, c9, c10, c11, c12⟩ := hs
  rw [mX5_sgn_item N c1 hq c3, hg]
  have e : mX5_takeItemSign N (nI (pzob k)) (nI q) s = zq_b2 (mX5_openBracket N (zcode k) (zpf s 26 9 (nI q))) (fun r t => some (r, t)) := by
    unfold mX5_takeItemSign
    rcases pzob_c hk with ⟨y, z⟩ | ⟨y, z⟩ | ⟨y, z⟩ <;> rw [z, y] <;> rfl
  have e2 : mX5_openBracket N (zcode k) (zpf s 26 9 (nI q)) = some (5, zpf s 26 9 (nI q)) := by
    have e6 : zgf (zpf s 26 9 (nI q)) 26 6 = nI 8 := by rw [zgf_pf, if_neg (by decide), c4, hd]
    unfold mX5_openBracket
    rw [e6, if_neg (show ¬ nI 8 < (8 : Int32) by decide)]
  rw [e, e2]
  rfl
theorem X_sstar (N : Nat) (hN : 5000 ≤ N) {h : List Nat} {b : Bool} {R : List zIt} {s : zq_S} {q : Nat} (hV : pzV R) (hs : pzCX h b R 0 s) (hg : zgt h q = 42) (hq : q < h.length) (ha : pzA3 R = false) (hB : (pzpr R).length ≤ q) :
    zw (mX5_takeSign N (nI q) s) (fun v => v.1 = 0 ∧ pzFX b s v.2 ∧ pzDX h b R (pzstk R) (pzpr R ++ [42]) 7 (zcode 7) v.2 ∧ zgf v.2 26 9 = nI q) := by
  have ho := pzCX_o hV hs
  have hs' := hs
  obtain ⟨c1, c2, c3, c4, c5, c6, c7, c8, c9, c10, c11, c12⟩ := hs'
  have hl := c1.2.2.1
  have hlen := pz_len hV
  have hb := zs_c b
  rw [mX5_sgn_item N c1 hq c3, hg, zw_b2]
  have e : mX5_isWithinArrow N (zpf s 26 9 (nI q)) = some (0, zpf s 26 9 (nI q)) := by
    rw [mX5_isWithinArrow_eq N hN (b := b) (R := R) (L := pzstk R) (s := zpf s 26 9 (nI q)) (by rw [zgb_pf]; exact c2) (pzXs_eq (s := s) _ (fun _ _ => rfl) c7) (pz_dep hV) (by rw [zgf_pf, if_neg (by omega)]; exact c4) (fun q' hq' => (ho q' hq').1)]
    unfold pzA3 at ha
    rw [ha]
    rfl
  have e1 : mX5_takeItemSign N (nI 42) (nI q) s = zq_b2 (mX7_addItem N (zgb (zpf s 26 9 (nI q)) 2) 42 (zpf s 26 9 (nI q))) (fun r10 s11 => zq_b2 (mX5_go N (7 : Int32) s11) (fun r12 s13 => some (r12, s13))) := by
    unfold mX5_takeItemSign
    dsimp only [zq_let]
    rw [e]
    rfl
  rw [e1, zgb_pf, c2]
  refine zw_call (mX7_addItem_w N (n := R.length) (by rw [zgf_pf, if_neg (by omega)]; exact c8) (by omega) _) ?_
  intro r t ⟨f, g6, g2, g3, g4⟩
  dsimp only at f g6 g2 g3 g4 ⊢
  refine zw_some.2 ?_
  dsimp only
  have F : zfr [(zs b, 6), (26, 4), (26, 6), (26, 8), (26, 9)] [28, zs b + 2, zs b + 3, zs b + 4] [] s (zpf t 26 4 7) := ((zfr_pf _ _ _ (by simp)).tr (f.mo (by simp) (by simp) (by simp))).tr (zfr_pf _ _ _ (by simp))
  have D : pzDX h b R (pzstk R) (pzpr R) 7 (zcode 7) (zpf t 26 4 7) := by
    refine pzDX_mk hs F (by rw [zgf_pf, if_neg (by omega)]; exact g6) (by rw [zgf_pf, if_pos ⟨rfl, rfl⟩]) ?_ ?_ g2 (fun i hi => ?_) (fun i hi => ?_)
    · rw [zgf_pf, if_neg (by omega), f.f 26 6 (by simp <;> omega), zgf_pf, if_neg (by omega)]; exact c4
    · exact pzXs_eq (s := s) _ (fun d _ => by rw [zA_pf, f.a 28 (by simp <;> omega)]; rfl) c7
    · rw [zA_pf, g3, if_neg hi]; rfl
    · rw [zA_pf, g4, if_neg hi]; rfl
  refine zw_mono (X_last N (x := 42) D.2.1 D.2.2.2.2.2.2.2.2.1 (by omega) (by decide) (by decide)) ?_
  intro w ⟨w0, fw, pw⟩
  refine ⟨w0, (F.mo (by simp) (by simp) (by simp)).tr (pzFP_FX fw), pzDX_pr D fw pw, ?_⟩
  rw [fw.f 26 9 (by simp <;> omega), zgf_pf, if_neg (by omega), f.f 26 9 (by simp <;> omega)]
  rfl
theorem X_sstar_bad (N : Nat) (hN : 5000 ≤ N) {h : List Nat} {b : Bool} {R : List zIt} {s : zq_S} {q : Nat} (hV : pzV R) (hs : pzCX h b R 0 s) (hg : zgt h q = 42) (hq : q < h.length) (ha : pzA3 R = true) : mX5_takeSign N (nI q) s = some (1, zpf s 26 9 (nI q)) := by
  have ho := pzCX_o hV hs
  obtain ⟨c1, c2, c3, c4, c5, c6, c7, c8, c9, c10, c11, c12⟩ := hs
  rw [mX5_sgn_item N c1 hq c3, hg]
  have e : mX5_isWithinArrow N (zpf s 26 9 (nI q)) = some (1, zpf s 26 9 (nI q)) := by
    rw [mX5_isWithinArrow_eq N hN (b := b) (R := R) (L := pzstk R) (s := zpf s 26 9 (nI q)) (by rw [zgb_pf]; exact c2) (pzXs_eq (s := s) _ (fun _ _ => rfl) c7) (pz_dep hV) (by rw [zgf_pf, if_neg (by omega)]; exact c4) (fun q' hq' => (ho q' hq').1)]
    unfold pzA3 at ha
    rw [ha]
    rfl
  unfold mX5_takeItemSign
  dsimp only [zq_let]
  rw [e]
  rfl
theorem X_srow (N : Nat) {h : List Nat} {b : Bool} {R : List zIt} {s : zq_S} {q : Nat} (hV : pzV R) (hs : pzCX h b R 0 s) (hg : zgt h q = 40) (hq : q < h.length) (hB : (pzpr R).length ≤ q) :
    zw (mX5_takeSign N (nI q) s) (fun v => v.1 = 0 ∧ pzFX b s v.2 ∧ pzDX h b R (pzstk R) (pzpr R ++ [40]) 9 (zcode 8) v.2 ∧ zgf v.2 26 8 = -1) := by
  have hs' := hs
  obtain ⟨c1, c2, c3, c4, c5, c6, c7, c8, c9, c10, c11, c12⟩ := hs'
  have hl := c1.2.2.1
  have hlen := pz_len hV
  have hb := zs_c b
  rw [mX5_sgn_item N c1 hq c3, hg, zw_b2]
  have e1 : mX5_takeItemSign N (nI 40) (nI q) s = zq_b2 (mX7_addItem N (zgb (zpf s 26 9 (nI q)) 2) 40 (zpf s 26 9 (nI q))) (fun r2 s3 => zq_let (zpf s3 26 8 (-1 : Int32)) (fun s4 => zq_b2 (mX5_go N (9 : Int32) s4) (fun r5 s6 => some (r5, s6)))) := rfl
  rw [e1, zgb_pf, c2]
  refine zw_call (mX7_addItem_w N (n := R.length) (by rw [zgf_pf, if_neg (by omega)]; exact c8) (by omega) _) ?_
  intro r t ⟨f, g6, g2, g3, g4⟩
  dsimp only at f g6 g2 g3 g4 ⊢
  refine zw_some.2 ?_
  dsimp only
  have F : zfr [(zs b, 6), (26, 4), (26, 6), (26, 8), (26, 9)] [28, zs b + 2, zs b + 3, zs b + 4] [] s (zpf (zpf t 26 8 (-1)) 26 4 9) := (((zfr_pf _ _ _ (by simp)).tr (f.mo (by simp) (by simp) (by simp))).tr (zfr_pf _ _ _ (by simp))).tr (zfr_pf _ _ _ (by simp))
  have D : pzDX h b R (pzstk R) (pzpr R) 9 (zcode 8) (zpf (zpf t 26 8 (-1)) 26 4 9) := by
    refine pzDX_mk hs F (by rw [zgf_pf, if_neg (by omega), zgf_pf, if_neg (by omega)]; exact g6) (by rw [zgf_pf, if_pos ⟨rfl, rfl⟩]) ?_ ?_ g2 (fun i hi => ?_) (fun i hi => ?_)
    · rw [zgf_pf, if_neg (by omega), zgf_pf, if_neg (by omega), f.f 26 6 (by simp <;> omega), zgf_pf, if_neg (by omega)]; exact c4
    · exact pzXs_eq (s := s) _ (fun d _ => by rw [zA_pf, zA_pf, f.a 28 (by simp <;> omega)]; rfl) c7
    · rw [zA_pf, zA_pf, g3, if_neg hi]; rfl
    · rw [zA_pf, zA_pf, g4, if_neg hi]; rfl
  refine zw_mono (X_last N (x := 40) D.2.1 D.2.2.2.2.2.2.2.2.1 (by omega) (by decide) (by decide)) ?_
  intro w ⟨w0, fw, pw⟩
  refine ⟨w0, (F.mo (by simp) (by simp) (by simp)).tr (pzFP_FX fw), pzDX_pr D fw pw, ?_⟩
  rw [fw.f 26 8 (by simp <;> omega), zgf_pf, if_neg (by omega), zgf_pf, if_pos ⟨rfl, rfl⟩]
theorem X_sover (N : Nat) {h : List Nat} {b : Bool} {R : List zIt} {s : zq_S} {q k : Nat} (hV : pzV R) (hp : pzph R ≠ 0) (hk : k = 3 ∨ k = 4) (hs : pzCX h b R (nI k) s) (hg : zgt h q = 47) (hq : q < h.length) (hB : (pzpr R).length ≤ q) :
    zw (mX5_takeSign N (nI q) s) (fun v => v.1 = 0 ∧ pzFX b s v.2 ∧ pzDX h b R (pzstk R) (pzpr R ++ [47]) 8 (zcode 9) v.2 ∧ zgf v.2 26 8 = pzov R) := by
  have hs' := hs
  obtain ⟨c1, c2, c3, c4, c5, c6, c7, c8, c9, c10, c11, c12⟩ := hs'
  have hl := c1.2.2.1
  have hlen := pz_len hV
  have hb := zs_c b
  have e1 : mX5_takeSign N (nI q) s = zq_b2 (mX7_addItem N b 47 s) (fun r9 s10 => zq_b2 (mX5_go N (8 : Int32) s10) (fun r11 s12 => jX5_takeSign_j148 N 47 r11 s12)) := by
    unfold mX5_takeSign
    rw [mX5_byteAt_eq N c1 (by omega), zb2_some, hg]
    dsimp only
    rw [c3, if_neg (by rcases hk with y | y <;> rw [y] <;> decide), if_neg (by decide)]
    unfold jX5_takeSign_j56
    rw [if_neg (by decide)]
    unfold jX5_takeSign_j80 jX5_takeSign_j102
    rw [if_pos (show nI 47 = (47 : Int32) from rfl), c3, c2]
    rcases hk with y | y
    · rw [if_pos (show nI k = 3 by rw [y]; rfl)]; rfl
    · rw [if_neg (show ¬ nI k = 3 by rw [y]; decide), if_pos (show nI k = 4 by rw [y]; rfl)]; rfl
  rw [e1]
  refine zw_call (mX7_addItem_w N (n := R.length) c8 (by omega) _) ?_
  intro r t ⟨f, g6, g2, g3, g4⟩
  dsimp only at f g6 g2 g3 g4 ⊢
  have F : zfr [(zs b, 6), (26, 4), (26, 6), (26, 8), (26, 9)] [28, zs b + 2, zs b + 3, zs b + 4] [] s (zpf t 26 4 8) := (f.mo (by simp) (by simp) (by simp)).tr (zfr_pf _ _ _ (by simp))
  have D : pzDX h b R (pzstk R) (pzpr R) 8 (zcode 9) (zpf t 26 4 8) := by
    refine pzDX_mk hs F (by rw [zgf_pf, if_neg (by omega)]; exact g6) (by rw [zgf_pf, if_pos ⟨rfl, rfl⟩]) ?_ ?_ g2 (fun i hi => ?_) (fun i hi => ?_)
    · rw [zgf_pf, if_neg (by omega), f.f 26 6 (by simp <;> omega)]; exact c4
    · exact pzXs_eq (s := s) _ (fun d _ => by rw [zA_pf, f.a 28 (by simp <;> omega)]) c7
    · rw [zA_pf, g3, if_neg hi]
    · rw [zA_pf, g4, if_neg hi]
  show zw (jX5_takeSign_j148 N (nI 47) 0 (zpf t 26 4 8)) _
  refine zw_mono (X_last N (x := 47) D.2.1 D.2.2.2.2.2.2.2.2.1 (by omega) (by decide) (by decide)) ?_
  intro w ⟨w0, fw, pw⟩
  refine ⟨w0, (F.mo (by simp) (by simp) (by simp)).tr (pzFP_FX fw), pzDX_pr D fw pw, ?_⟩
  rw [fw.f 26 8 (by simp <;> omega), zgf_pf, if_neg (by omega), f.f 26 8 (by simp <;> omega)]
  exact c6 hp
