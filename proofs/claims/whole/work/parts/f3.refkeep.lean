/-! the reference: keepSheet -/
theorem pzKi_of {R : List zIt} {s t : zq_S} (he : pzstk R = []) (h0 : pzph R = 0) {k : Nat} (hM : pzMi R s k) (e1 : zA t 58 k = zA s 71 k) (e2 : zA t 59 k = zA s 72 k) (e3 : zA t 60 k = zA s 73 k) (e4 : zA t 61 k = zA s 74 k) : pzKi R t k := by
  obtain ⟨a1, a2, a3, a4, a5, a6, a7, a8, a9⟩ := hM
  unfold pzKi
  rw [e1, e2, e3, e4]
  refine ⟨a1, a2, a3, a4, a5, a6, fun y => ?_⟩
  rcases y with y | y
  · exact a7 y (by rw [he]; exact List.not_mem_nil)
  · exact a8 y (Or.inl h0)
theorem mX12_keepSheet_w (N : Nat) (hN : 5000 ≤ N) {h : List Nat} {R : List zIt} {q : Nat} {t : zq_S} (hE : pzEnd h R) (hs : pzCM h R q t) :
    zw (mX12_keepSheet N (zpf t 57 16 0)) (fun v => zfr [(57, 0), (57, 5), (57, 6), (57, 16), (57, 37), (57, 44)] [58, 59, 60, 61, 62, 63, 64, 65, 66, 67, 68, 69] [] t v.2 ∧ (zgf v.2 57 0 = nI R.length ∧ zgf v.2 57 5 = nI (pzwn R) ∧ zgf v.2 57 6 = nI (zbc (pzmk R) 10) ∧ zgf v.2 57 16 = 0 ∧ zgf v.2 57 37 = 0 ∧ zgf v.2 57 44 = 0) ∧
      (∀ k, k < R.length → pzKi R v.2 k) ∧ (∀ m, m < 10 → pzFm R R (zbc (pzmk R) 10) v.2 m) ∧ (∀ m, m < zbc (pzmk R) 10 → zA v.2 63 m = 0) ∧ (∀ i, i < 16 → zA v.2 69 i = 0) ∧ (∀ m, m < zbc (pzmk R) 10 → zA v.2 65 m = nI (zmu (zbc (pzmk R) 10) (pzba R) (fun _ => 0) (fun _ _ => false) m))) := by
  obtain ⟨⟨p, hI⟩, e2, e3, e4, e5, e6⟩ := id hE
  have hV := hI.1
  have hlen := pz_len hV
  have hM := pzmk_lt hV
  have bit := pzEnd_bit hE
  obtain ⟨c1, c2, c3, c4, c5, c6, c7, c8, c9, c10, c11, c12, c13⟩ := hs
  unfold mX12_keepSheet
  dsimp only [zq_let]
  generalize hu : zpf (zpf (zpf (zpf t 57 16 0) 57 0 (zgf (zpf t 57 16 0) 57 21)) 57 5 (zgf (zpf (zpf t 57 16 0) 57 0 (zgf (zpf t 57 16 0) 57 21)) 57 27)) 57 6 0 = u
  have Fu : zfr [(57, 0), (57, 5), (57, 6), (57, 16), (57, 37), (57, 44)] [58, 59, 60, 61, 62, 63, 64, 65, 66, 67, 68, 69] [] t u := by
    rw [← hu]
    exact (((zfr_pf _ _ _ (by decide)).tr (zfr_pf _ _ _ (by decide))).tr (zfr_pf _ _ _ (by decide))).tr (zfr_pf _ _ _ (by decide))
  have u0 : zgf u 57 0 = nI R.length := by rw [← hu]; exact c4
  have u5 : zgf u 57 5 = nI (pzwn R) := by rw [← hu]; exact c5
  have u6 : zgf u 57 6 = 0 := by rw [← hu]; rfl
  have u16 : zgf u 57 16 = 0 := by rw [← hu]; rfl
  clear hu
  refine zw_cnt R.length (fun j v => ∃ w, v = (nI j, w) ∧ zfr [] [58, 59, 60, 61] [] u w ∧ ∀ i, i < j → zA w 58 i = zA t 71 i ∧ zA w 59 i = zA t 72 i ∧ zA w 60 i = zA t 73 i ∧ zA w 61 i = zA t 74 i) ?_ ?_ N 0 _ (Nat.zero_le _) (by omega) ⟨u, rfl, zfr_rfl, fun i hi => absurd hi (Nat.not_lt_zero i)⟩
  · rintro self v ⟨w, rfl, fw, rows⟩
    dsimp only [bX12_keepSheet_23]
    rw [fw.f 57 0 List.not_mem_nil, u0, if_pos (nI_le (Nat.le_refl _) (by omega))]
    have Fw : zfr [(57, 0), (57, 5), (57, 6), (57, 16), (57, 37), (57, 44)] [58, 59, 60, 61, 62, 63, 64, 65, 66, 67, 68, 69] [] t w := Fu.tr (fw.mo (by simp) (by decide) (by simp))
    refine zw_cnt (zbc (pzmk R) 10) (fun j v => zfr [(57, 6)] [63, 64] [] w v ∧ zgf v 57 6 = nI j ∧ ∀ m, m < j → zA v 63 m = 0 ∧ zA v 64 m = 0) ?_ ?_ N 0 _ (Nat.zero_le _) (by omega) ⟨zfr_rfl, by rw [fw.f 57 6 List.not_mem_nil, u6]; rfl, fun m hm => absurd hm (Nat.not_lt_zero m)⟩
    · rintro self2 x ⟨fx, x6, xr⟩
      dsimp only [bX12_keepSheet_85]
      have Fx : zfr [(57, 0), (57, 5), (57, 6), (57, 16), (57, 37), (57, 44)] [58, 59, 60, 61, 62, 63, 64, 65, 66, 67, 68, 69] [] t x := Fw.tr (fx.mo (by decide) (by decide) (by simp))
      rw [Fx.f 57 28 (by decide), c6, x6, mX12_has_eq N (by omega) (by omega), zb2_some, bit, decide_eq_false (by omega)]
      dsimp only
      rw [if_neg (show ¬ false = true by decide), if_pos rfl]
      refine zw_cnt 16 (fun j v => ∃ y, v = (nI j, y) ∧ zfr [] [69] [] x y ∧ ∀ i, i < j → zA y 69 i = 0) ?_ ?_ N 0 _ (Nat.zero_le _) (by omega) ⟨x, rfl, zfr_rfl, fun i hi => absurd hi (Nat.not_lt_zero i)⟩
      · rintro self3 v ⟨y, rfl, fy, yr⟩
        dsimp only [bX12_keepSheet_134]
        rw [if_pos (show (16 : Int32) ≤ nI 16 by decide)]
        have Fy : zfr [(57, 0), (57, 5), (57, 6), (57, 16), (57, 37), (57, 44)] [58, 59, 60, 61, 62, 63, 64, 65, 66, 67, 68, 69] [] t y := Fx.tr (fy.mo (by simp) (by decide) (by simp))
        have y0 : zgf y 57 0 = nI R.length := by rw [fy.f 57 0 List.not_mem_nil, fx.f 57 0 (by decide), fw.f 57 0 List.not_mem_nil]; exact u0
        have y5 : zgf y 57 5 = nI (pzwn R) := by rw [fy.f 57 5 List.not_mem_nil, fx.f 57 5 (by decide), fw.f 57 5 List.not_mem_nil]; exact u5
        have y16 : zgf y 57 16 = 0 := by rw [fy.f 57 16 List.not_mem_nil, fx.f 57 16 (by decide), fw.f 57 16 List.not_mem_nil]; exact u16
        have y6 : zgf y 57 6 = nI (zbc (pzmk R) 10) := by rw [fy.f 57 6 List.not_mem_nil]; exact x6
        have yK : ∀ k, k < R.length → pzKi R y k := fun k hk => by
          have ya : ∀ a, a = 58 ∨ a = 59 ∨ a = 60 ∨ a = 61 → zA y a = zA w a := fun a ha => by
            rw [fy.a a (by rcases ha with z | z | z | z <;> rw [z] <;> decide), fx.a a (by rcases ha with z | z | z | z <;> rw [z] <;> decide)]
          obtain ⟨r1, r2, r3, r4⟩ := rows k hk
          exact pzKi_of e3 e2 (c13 k hk) (by rw [ya 58 (by decide)]; exact r1) (by rw [ya 59 (by decide)]; exact r2) (by rw [ya 60 (by decide)]; exact r3) (by rw [ya 61 (by decide)]; exact r4)
        refine zw_call (mX12_findMarks_w N hN (n := zbc (pzmk R) 10) hV e3 y0 yK (fun m hm => by rw [fy.a 64 (by decide)]; exact (xr m hm).2)) ?_
        intro r z ⟨fz, zm⟩
        dsimp only at fz zm ⊢
        have z63 : ∀ m, m < zbc (pzmk R) 10 → zA z 63 m = 0 := fun m hm => by rw [fz.a 63 (by decide), fy.a 63 (by decide)]; exact (xr m hm).1
        have z69 : ∀ i, i < 16 → zA z 69 i = 0 := fun i hi => by rw [fz.a 69 (by decide)]; exact yr i hi
        rw [mX12_findMust_eq N hN e5 (s := z) (ba := pzba R) (ik := fun _ => 0) (er := fun _ _ => false) (by rw [fz.f 57 6 List.not_mem_nil]; exact y6) (fun m hm => (zm m (by omega)).1 hm) (fun m _ => pzEnd_ba hE m) (fun m hm => ⟨z63 m hm, show 0 < 4 by decide⟩) (fun a b ha hb => z69 _ (by omega)), zb2_some]
        refine zw_some.2 ?_
        dsimp only
        have Fz : zfr [(57, 0), (57, 5), (57, 6), (57, 16), (57, 37), (57, 44)] [58, 59, 60, 61, 62, 63, 64, 65, 66, 67, 68, 69] [] t z := Fy.tr (fz.mo (by simp) (by decide) (by simp))
        generalize hv : zpf (zpf (zsA z 65 (zarr (zbc (pzmk R) 10) (zmu (zbc (pzmk R) 10) (pzba R) (fun _ => 0) fun _ _ => false) (zA z 65))) 57 37 0) 57 44 0 = v
        have fv : zfr [(57, 37), (57, 44)] [65] [] z v := by
          rw [← hv]
          exact ((zfr_sA _ _ (by decide)).tr (zfr_pf _ _ _ (by decide))).tr (zfr_pf _ _ _ (by decide))
        have v65 : ∀ m, m < zbc (pzmk R) 10 → zA v 65 m = nI (zmu (zbc (pzmk R) 10) (pzba R) (fun _ => 0) (fun _ _ => false) m) := fun m hm => by
          rw [← hv, zA_pf, zA_pf, zA_sA, if_pos rfl, zarr_get _ _ hm]
        have v37 : zgf v 57 37 = 0 ∧ zgf v 57 44 = 0 := by rw [← hv]; exact ⟨rfl, rfl⟩
        clear hv
        refine ⟨Fz.tr (fv.mo (by decide) (by decide) (by simp)), ⟨?_, ?_, ?_, ?_, v37.1, v37.2⟩, fun k hk => ?_, fun m hm => ?_, fun m hm => ?_, fun i hi => ?_, v65⟩
        · rw [fv.f 57 0 (by decide), fz.f 57 0 List.not_mem_nil]; exact y0
        · rw [fv.f 57 5 (by decide), fz.f 57 5 List.not_mem_nil]; exact y5
        · rw [fv.f 57 6 (by decide), fz.f 57 6 List.not_mem_nil]; exact y6
        · rw [fv.f 57 16 (by decide), fz.f 57 16 List.not_mem_nil]; exact y16
        · have va : ∀ a, a = 58 ∨ a = 59 ∨ a = 60 ∨ a = 61 → zA v a = zA y a := fun a ha => by
            rw [fv.a a (by rcases ha with z | z | z | z <;> rw [z] <;> decide), fz.a a (by rcases ha with z | z | z | z <;> rw [z] <;> decide)]
          have := yK k hk
          unfold pzKi at this ⊢
          rw [va 58 (by decide), va 59 (by decide), va 60 (by decide), va 61 (by decide)]
          exact this
        · have := zm m hm
          unfold pzFm at this ⊢
          rw [fv.a 62 (by decide), fv.a 64 (by decide), fv.a 66 (by decide), fv.a 67 (by decide), fv.a 68 (by decide)]
          exact this
        · rw [fv.a 63 (by decide)]; exact z63 m hm
        · rw [fv.a 69 (by decide)]; exact z69 i hi
      · rintro self3 j v hj ⟨y, rfl, fy, yr⟩ hself
        dsimp only [bX12_keepSheet_134, zq_let]
        rw [if_neg (show ¬ (16 : Int32) ≤ nI j by rw [show (16 : Int32) = nI 16 from rfl, nI_leI (by decide) (by omega)]; omega), zck_nI hj (by decide), nI_1, zpaz_eq, nI_clamp (by omega)]
        refine hself _ ⟨_, rfl, fy.tr (zfr_sA _ _ (by decide)), fun i hi => ?_⟩
        rw [zA_sA, if_pos rfl]
        unfold upd
        by_cases z : i = j
        · rw [if_pos z]; rfl
        · rw [if_neg z]; exact yr i (by omega)
    · rintro self2 j x hj ⟨fx, x6, xr⟩ hself
      dsimp only [bX12_keepSheet_85]
      have Fx : zfr [(57, 0), (57, 5), (57, 6), (57, 16), (57, 37), (57, 44)] [58, 59, 60, 61, 62, 63, 64, 65, 66, 67, 68, 69] [] t x := Fw.tr (fx.mo (by decide) (by decide) (by simp))
      rw [Fx.f 57 28 (by decide), c6, x6, mX12_has_eq N (by omega) (by omega), zb2_some, bit, decide_eq_true hj]
      dsimp only [zq_let]
      rw [if_pos rfl, if_neg (show ¬ (1 : Int32) = 0 by decide), x6, zck_nI (show j < 10 by omega) (by decide)]
      have q6 : zgf (zpa x 63 (nI j) 0) 57 6 = nI j := x6
      rw [q6, zck_nI (show j < 10 by omega) (by decide)]
      have q6' : zgf (zpa (zpa x 63 (nI j) 0) 64 (nI j) 0) 57 6 = nI j := x6
      rw [q6', nI_1, zpa_eq, zpa_eq, nI_clamp (by omega)]
      refine hself _ ⟨((fx.tr (zfr_sA _ _ (by decide))).tr (zfr_sA _ _ (by decide))).tr (zfr_pf _ _ _ (by decide)), rfl, fun m hm => ?_⟩
      rw [zA_pf, zA_pf, zA_ne _ (by decide), zA_sA, if_pos rfl, zA_sA, if_pos rfl, zA_ne _ (by decide)]
      unfold upd
      by_cases z : m = j
      · rw [if_pos z, if_pos z]; exact ⟨rfl, rfl⟩
      · rw [if_neg z, if_neg z]; exact xr m (by omega)
  · rintro self j v hj ⟨w, rfl, fw, rows⟩ hself
    have hck : ∀ (c : Option (Unit × zq_S)), zq_ck (nI j) 400 c = c := fun c => zck_nI (show j < 400 by omega) (by decide) c
    dsimp only [bX12_keepSheet_23, zq_let]
    rw [fw.f 57 0 List.not_mem_nil, u0, if_neg (show ¬ nI R.length ≤ nI j by rw [nI_leI (by omega) (by omega)]; omega)]
    simp only [hck]
    rw [nI_1]
    have wt : ∀ a, a = 71 ∨ a = 72 ∨ a = 73 ∨ a = 74 → zA w a = zA t a := fun a ha => by
      rw [fw.a a (by rcases ha with z | z | z | z <;> rw [z] <;> decide), Fu.a a (by rcases ha with z | z | z | z <;> rw [z] <;> decide)]
    simp (disch := omega) only [zpa_eq, nI_clamp, zga_nI]
    refine hself _ ⟨_, rfl, (((fw.tr (zfr_sA _ _ (by decide))).tr (zfr_sA _ _ (by decide))).tr (zfr_sA _ _ (by decide))).tr (zfr_sA _ _ (by decide)), fun i hi => ?_⟩
    by_cases z : i = j
    · subst z
      simp [zA_sA, upd, wt 71 (by decide), wt 72 (by decide), wt 73 (by decide), wt 74 (by decide)]
    · have := rows i (by omega)
      simp [zA_sA, upd, z]
      exact this
