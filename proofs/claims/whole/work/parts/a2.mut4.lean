/-! copy, drop, bar, feed -/
theorem step_copy (N : Nat) (hN : 5000 ≤ N) {k : Nat} {g : zG} (hk : zOk k g) : zStep k g (mX11_copy N) (mX12_copy N) := by
  obtain ⟨hW, hmd, hvc⟩ := id hk
  have hc4 := hW.cp.1
  have hd := hW.dr
  by_cases hl : g.cp.length = 4
  · refine zStep_q hk (zAg_2 ⟨-1004, fun s h => ?_, fun s h => ?_⟩)
    · unfold mX11_copy
      rw [h.c3.2.2.1, hl, if_neg (by decide)]
      exact ⟨_, rfl, rfl, h, zSM_rfl⟩
    · unfold mX12_copy
      rw [h.c3.2.2.1, hl, if_pos (by rfl)]
      exact ⟨_, rfl, rfl, h, zSX_rfl⟩
  · have hW' : zGW (g.setD (([], g.cp ++ [g.dr]), (g.bs, g.nb), (g.hd, g.fp))) := by
      obtain ⟨h1, h2, h3, h4, h5, h6, h7, h8⟩ := hW
      refine ⟨h1, h2, h3, ⟨Nat.zero_le _, fun x hx => absurd hx List.not_mem_nil⟩, ⟨?_, ?_⟩, h6, h7, h8⟩
      · show (g.cp ++ [g.dr]).length ≤ 4
        rw [List.length_append, List.length_singleton]; omega
      · intro c hc
        rcases List.mem_append.mp (show c ∈ g.cp ++ [g.dr] from hc) with q | q
        · exact h5.2 c q
        · rw [List.mem_singleton.mp q]; exact hd
    have get : ∀ c l, (g.cp ++ [g.dr])[c]? = some l → (c < g.cp.length ∧ g.cp[c]? = some l) ∨ (c = g.cp.length ∧ l = g.dr) := by
      intro c l hc
      have h1 := (List.getElem?_eq_some_iff.mp hc).1
      rw [List.length_append, List.length_singleton] at h1
      by_cases q : c < g.cp.length
      · rw [List.getElem?_append_left q] at hc
        exact Or.inl ⟨q, hc⟩
      · have q2 : c = g.cp.length := by omega
        rw [q2] at hc
        simp at hc
        exact Or.inr ⟨q2, hc.symm⟩
    refine ⟨_, ⟨hW', hmd, show g.vc ≤ k + 1 by omega⟩, zAg_2 ⟨nI g.cp.length, fun s h => ?_, fun s h => ?_⟩⟩
    · unfold mX11_copy
      have f1 := zTr_fr true g.cp.length g.dr s
      have f2 := zTr_fr true 4 [] (zTr true g.cp.length g.dr s)
      rw [h.c3.2.2.1, if_pos (by rw [show (4 : Int32) = nI 4 from rfl, nI_ltI (by omega) (by omega)]; omega), show (4 : Int32) = nI 4 from rfl, mX8_take_eq N h.f51 h.f51 (show g.cp.length < zfS true by show g.cp.length < 5; omega) (show 4 < zfS true by decide) h.c3.2.1, zb2_some]
      dsimp only
      rw [mX8_clear_eq N hN (b := true) (by rw [f1.f _ _ (by simp)]; exact h.f51) (show 4 < zfS true by decide), zb2_some]
      dsimp only [zq_let]
      have e0 : zrw true 4 (fun _ => 0) 0 (zTr true g.cp.length g.dr s) = zTr true 4 [] (zTr true g.cp.length g.dr s) := rfl
      rw [e0, f2.f 56 5 (by simp), f1.f 56 5 (by simp), h.c3.2.2.1, nI_1]
      have fq : zXD s (zpf (zTr true 4 [] (zTr true g.cp.length g.dr s)) 56 5 (nI (g.cp.length + 1))) := ((f1.mo (by simp) (by decide) (by decide)).tr (f2.mo (by simp) (by decide) (by decide))).tr (zfr_pf 56 5 _ (by decide))
      refine ⟨_, rfl, zn_m1 _, zXI_set h fq hW' ⟨?_, ?_, ?_, fun c l hc => ?_⟩ h.c4 h.c5⟩
      · rw [fq.f 51 0 (by decide)]; exact h.c3.1
      · exact zTr_row (ws := []) (Nat.zero_le _) (fun x hx => absurd hx List.not_mem_nil)
      · show nI (g.cp.length + 1) = nI (g.cp ++ [g.dr]).length
        rw [List.length_append]; rfl
      · rcases get c l hc with ⟨q1, q2⟩ | ⟨q1, q2⟩
        · exact zTr_other (by omega) (zTr_other (by omega) (h.c3.2.2.2 c l q2))
        · rw [q1, q2]
          exact zTr_other (by omega) (zTr_row hd.1 hd.2)
    · unfold mX12_copy
      have dw : ∀ i, i < g.dr.length → zA s 91 i = nI (zgt g.dr i) := h.c3.2.1
      dsimp only [zq_let]
      rw [h.c3.2.2.1, h.c3.1, if_neg (by rw [show (4 : Int32) = nI 4 from rfl, nI_eq (by omega) (by decide)]; exact hl), zck_nI (by omega) (by decide), zpa_nI _ _ (by omega)]
      refine zw_cnt g.dr.length (fun j v => v = (nI j, zsA (zsA s 92 (upd (zA s 92) g.cp.length (nI g.dr.length))) 93 (fun q => if 40 * g.cp.length ≤ q ∧ q < 40 * g.cp.length + j then nI (zgt g.dr (q - 40 * g.cp.length)) else zA s 93 q))) ?_ ?_ N 0 _ (by omega) (by omega) ?_
      · rintro self v rfl
        dsimp only [bX12_copy_27]
        rw [zgf_sA, zgf_sA, h.c3.1, if_pos (nI_le (Nat.le_refl _) (by omega))]
        have e54 : ∀ f f2, zgf (zpf (zsA (zsA s 92 f) 93 f2) 57 52 0) 57 54 = nI g.cp.length := fun f f2 => h.c3.2.2.1
        rw [e54, nI_1]
        refine ⟨_, rfl, zn_m1 _, zMI_set h ((((zfr_sA 92 _ (by decide)).tr (zfr_sA 93 _ (by decide))).tr (zfr_pf 57 52 _ (by decide))).tr (zfr_pf 57 54 _ (by decide))) hW' ⟨rfl, fun i hi => absurd hi (Nat.not_lt_zero _), ?_, fun c l hc => ?_⟩ h.c4 h.c5⟩
        · show nI (g.cp.length + 1) = nI (g.cp ++ [g.dr]).length
          rw [List.length_append]; rfl
        · rw [zA_pf, zA_pf, zA_pf, zA_pf, zA_ne _ (by decide), zA_self, zA_self]
          unfold upd
          rcases get c l hc with ⟨q1, q2⟩ | ⟨q1, q2⟩
          · obtain ⟨c1, c2⟩ := h.c3.2.2.2 c l q2
            have hl4 := (hW.cp.2 l (List.mem_of_getElem? q2)).1
            refine ⟨by rw [if_neg (by omega)]; exact c1, fun i hi => ?_⟩
            rw [if_neg (by omega)]
            exact c2 i hi
          · rw [q1, q2]
            refine ⟨by rw [if_pos rfl], fun i hi => ?_⟩
            rw [if_pos (by omega), Nat.add_sub_cancel_left]
      · rintro self j v hj rfl hself
        have e54 : ∀ f f2, zgf (zsA (zsA s 92 f) 93 f2) 57 54 = nI g.cp.length := fun f f2 => h.c3.2.2.1
        dsimp only [bX12_copy_27, zq_let]
        rw [zgf_sA, zgf_sA, h.c3.1, if_neg (by rw [nI_leI (by omega) (by omega)]; omega), e54, zn_40, nI_add, zck_nI (by omega) (by decide), zck_nI (by omega) (by decide), zga_nI _ _ (by omega), zA_ne _ (by decide), zA_ne _ (by decide), dw j hj, zpa_nI _ _ (by omega), zA_self, zsA_sA, nI_1]
        refine hself _ ?_
        congr 2
        funext q
        unfold upd
        by_cases c : q = 40 * g.cp.length + j
        · rw [if_pos c, if_pos (by omega), c, Nat.add_sub_cancel_left]
        · rw [if_neg c]
          dsimp only
          by_cases c2 : 40 * g.cp.length ≤ q ∧ q < 40 * g.cp.length + j
          · rw [if_pos c2, if_pos (by omega)]
          · rw [if_neg c2, if_neg (by omega)]
      · have : (fun q => if 40 * g.cp.length ≤ q ∧ q < 40 * g.cp.length + 0 then nI (zgt g.dr (q - 40 * g.cp.length)) else zA s 93 q) = zA (zsA s 92 (upd (zA s 92) g.cp.length (nI g.dr.length))) 93 := by
          funext q
          rw [if_neg (by omega), zA_ne _ (by decide)]
        rw [this, zsA_same]
        rfl
theorem step_drop (N : Nat) {k : Nat} {g : zG} (hk : zOk k g) : zStep k g (mX11_drop N) (mX12_drop N) := by
  obtain ⟨hW, hmd, hvc⟩ := id hk
  have hc4 := hW.cp.1
  by_cases hl : g.cp.length = 0
  · refine zStep_q hk (zAg_2 ⟨-1, fun s h => ?_, fun s h => ?_⟩)
    · unfold mX11_drop
      rw [h.c3.2.2.1, hl, if_pos (by rfl)]
      exact ⟨_, rfl, rfl, h, zSM_rfl⟩
    · unfold mX12_drop
      rw [h.c3.2.2.1, hl, if_pos (by rfl)]
      exact ⟨_, rfl, rfl, h, zSX_rfl⟩
  · have e1 : nI g.cp.length - 1 = nI (g.cp.length - 1) := by
      rw [show g.cp.length = (g.cp.length - 1) + 1 by omega, zn_m1]
      rfl
    have ne : ¬ nI g.cp.length = 0 := by rw [show (0 : Int32) = nI 0 from rfl, nI_eq (by omega) (by decide)]; exact hl
    have hc : g.cp[g.cp.length - 1]? = some (g.cp.getD (g.cp.length - 1) []) := zcp_get (by omega)
    have hW' : zGW (g.setD ((g.dr, g.cp.take (g.cp.length - 1)), (g.bs, g.nb), (g.hd, g.fp))) := by
      obtain ⟨h1, h2, h3, h4, h5, h6, h7, h8⟩ := hW
      refine ⟨h1, h2, h3, h4, ⟨?_, fun c hc => h5.2 c (List.mem_of_mem_take hc)⟩, h6, h7, h8⟩
      show (g.cp.take (g.cp.length - 1)).length ≤ 4
      rw [List.length_take]; omega
    have get : ∀ (c : Nat) (l : List Nat), (g.cp.take (g.cp.length - 1))[c]? = some l → g.cp[c]? = some l := by
      intro c l hc
      have h1 := (List.getElem?_eq_some_iff.mp hc).1
      rw [List.length_take] at h1
      rw [List.getElem?_take_of_lt (by omega)] at hc
      exact hc
    refine ⟨_, ⟨hW', hmd, show g.vc ≤ k + 1 by omega⟩, zAg_2 ⟨nI (g.cp.getD (g.cp.length - 1) []).length, fun s h => ?_, fun s h => ?_⟩⟩
    · unfold mX11_drop
      have fq : zXD s (zpf s 56 5 (nI (g.cp.length - 1))) := zfr_pf 56 5 _ (by decide)
      dsimp only [zq_let]
      rw [h.c3.2.2.1, if_neg ne, e1, show zgf (zpf s 56 5 (nI (g.cp.length - 1))) 56 5 = nI (g.cp.length - 1) from rfl, mX8_sizeOf_row N (b := true) (s := zpf s 56 5 (nI (g.cp.length - 1))) (by rw [fq.f _ _ (by decide)]; exact h.f51) (show g.cp.length - 1 < zfS true by show g.cp.length - 1 < 5; omega) (h.c3.2.2.2 _ _ hc), zb2_some]
      refine ⟨_, rfl, rfl, zXI_set h fq hW' ⟨?_, h.c3.2.1, ?_, fun c l hc => h.c3.2.2.2 c l (get c l hc)⟩ h.c4 h.c5⟩
      · rw [fq.f 51 0 (by decide)]; exact h.c3.1
      · show nI (g.cp.length - 1) = nI (g.cp.take (g.cp.length - 1)).length
        rw [List.length_take, Nat.min_eq_left (by omega)]
    · unfold mX12_drop
      dsimp only [zq_let]
      rw [h.c3.2.2.1, if_neg ne, e1, show zgf (zpf s 57 54 (nI (g.cp.length - 1))) 57 54 = nI (g.cp.length - 1) from rfl, zck_nI (by omega) (by decide), zga_nI _ _ (by omega), zA_pf, (h.c3.2.2.2 _ _ hc).1]
      refine ⟨_, rfl, rfl, zMI_set h (zfr_pf 57 54 _ (by decide)) hW' ⟨h.c3.1, h.c3.2.1, ?_, fun c l hc => h.c3.2.2.2 c l (get c l hc)⟩ h.c4 h.c5⟩
      show nI (g.cp.length - 1) = nI (g.cp.take (g.cp.length - 1)).length
      rw [List.length_take, Nat.min_eq_left (by omega)]
theorem zcn_inc {P Q : Nat → Bool} {p : Nat} (hp : P p = false) (hq : Q p = true) : ∀ n, p < n → (∀ q, q ≠ p → Q q = P q) → zcn Q n = zcn P n + 1 := by
  intro n
  induction n with
  | zero => intro h; omega
  | succ n ih =>
    intro h he
    unfold zcn
    by_cases c : n = p
    · rw [c, hp, hq, if_pos rfl, if_neg (by decide), (zcn_pt (p := p) p he).2 (Nat.le_refl _)]
    · rw [ih (by omega) he, he n c]
      omega
theorem step_bar (N : Nat) {k : Nat} {g : zG} (hk : zOk k g) (p q : Int32) (is : Bool) : zStep k g (mX11_bar N p q (zib is)) (mX12_bar N p q (zib is)) := by
  obtain ⟨hW, hmd, hvc⟩ := id hk
  obtain ⟨hnb, hcn⟩ := hW.nb
  rcases zarg (c := 100) (by decide) p with z | ⟨a, ha, rfl, z⟩
  · refine zStep_q hk (zAg_2 ⟨-1002, fun s h => ?_, fun s h => ?_⟩)
    · unfold mX11_bar
      rw [mX11_isWord_out N z, zb2_some]
      exact ⟨_, rfl, rfl, h, zSM_rfl⟩
    · unfold mX12_bar
      rw [mX12_in99, if_neg z, zb2_some]
      exact ⟨_, rfl, rfl, h, zSX_rfl⟩
  rcases zarg (c := 100) (by decide) q with y | ⟨b, hb, rfl, y⟩
  · refine zStep_q hk (zAg_2 ⟨-1002, fun s h => ?_, fun s h => ?_⟩)
    · unfold mX11_bar
      rw [mX11_isWord_in N ha, zb2_some]
      dsimp only
      rw [if_neg (show ¬ (1 : Int32) = 0 by decide), mX11_isWord_out N y, zb2_some]
      exact ⟨_, rfl, rfl, h, zSM_rfl⟩
    · unfold mX12_bar
      rw [mX12_in99, if_pos z, zb2_some]
      dsimp only
      rw [if_neg (show ¬ (1 : Int32) = 0 by decide), mX12_in99, if_neg y, zb2_some]
      exact ⟨_, rfl, rfl, h, zSX_rfl⟩
  have nz : ∀ v : Bool, vp_nar .boolean (zib v) = zib v := fun v => by cases v <;> rfl
  have X0 : ∀ s, zXI g s → mX11_bar N (nI a) (nI b) (zib is) s = if zib is = 0 then jX11_bar_j54 N (nI a) (nI b) (zib is) (zib (g.bs a b)) s else if zib (g.bs a b) = 0 then (if nI g.nb < 20 then jX11_bar_j54 N (nI a) (nI b) (zib is) (zib (g.bs a b)) s else some (-1004, s)) else jX11_bar_j54 N (nI a) (nI b) (zib is) (zib (g.bs a b)) s := by
    intro s h
    unfold mX11_bar
    rw [mX11_isWord_in N ha, zb2_some]
    dsimp only
    rw [if_neg (show ¬ (1 : Int32) = 0 by decide), mX11_isWord_in N hb, zb2_some]
    dsimp only
    rw [if_neg (show ¬ (1 : Int32) = 0 by decide), mX0_isBarred_in N h.c4 ha hb, zb2_some, h.c4.1]
    rfl
  have M0 : ∀ s, zMI g s → mX12_bar N (nI a) (nI b) (zib is) s = if zib is = 0 then jX12_bar_j63 N (nI a) (nI b) (zib is) (zib (g.bs a b)) s else if zib (g.bs a b) = 0 then (if nI g.nb = 20 then some (-1004, s) else jX12_bar_j63 N (nI a) (nI b) (zib is) (zib (g.bs a b)) s) else jX12_bar_j63 N (nI a) (nI b) (zib is) (zib (g.bs a b)) s := by
    intro s h
    unfold mX12_bar
    rw [mX12_in99, if_pos z, zb2_some]
    dsimp only
    rw [if_neg (show ¬ (1 : Int32) = 0 by decide), mX12_in99, if_pos y, zb2_some]
    dsimp only [zq_let]
    rw [if_neg (show ¬ (1 : Int32) = 0 by decide), zn_100, nI_add, zck_nI (by omega) (by decide), zga_nI _ _ (by omega), h.c4.2 a b ha hb, h.c4.1]
    rfl
  -- refused: full
  by_cases hfull : is = true ∧ g.bs a b = false ∧ g.nb = 20
  · obtain ⟨f1, f2, f3⟩ := hfull
    refine zStep_q hk (zAg_2 ⟨-1004, fun s h => ?_, fun s h => ?_⟩)
    · rw [X0 s h, f1, f2, f3, zib_t, zib_f, if_neg (show ¬ (1 : Int32) = 0 by decide), if_pos rfl, if_neg (by decide)]
      exact ⟨_, rfl, rfl, h, zSM_rfl⟩
    · rw [M0 s h, f1, f2, f3, zib_t, zib_f, if_neg (show ¬ (1 : Int32) = 0 by decide), if_pos rfl, if_pos (by rfl)]
      exact ⟨_, rfl, rfl, h, zSX_rfl⟩
  have X1 : ∀ s, zXI g s → mX11_bar N (nI a) (nI b) (zib is) s = jX11_bar_j54 N (nI a) (nI b) (zib is) (zib (g.bs a b)) s := by
    intro s h
    rw [X0 s h]
    cases hi : is with
    | false => rw [zib_f, if_pos rfl]
    | true =>
      rw [zib_t, if_neg (show ¬ (1 : Int32) = 0 by decide)]
      cases hw : g.bs a b with
      | true => rw [zib_t, if_neg (show ¬ (1 : Int32) = 0 by decide)]
      | false =>
        have : g.nb ≠ 20 := fun e => hfull ⟨hi, hw, e⟩
        rw [zib_f, if_pos rfl, if_pos (by rw [show (20 : Int32) = nI 20 from rfl, nI_ltI (by omega) (by omega)]; omega)]
  have M1 : ∀ s, zMI g s → mX12_bar N (nI a) (nI b) (zib is) s = jX12_bar_j63 N (nI a) (nI b) (zib is) (zib (g.bs a b)) s := by
    intro s h
    rw [M0 s h]
    cases hi : is with
    | false => rw [zib_f, if_pos rfl]
    | true =>
      rw [zib_t, if_neg (show ¬ (1 : Int32) = 0 by decide)]
      cases hw : g.bs a b with
      | true => rw [zib_t, if_neg (show ¬ (1 : Int32) = 0 by decide)]
      | false =>
        have : g.nb ≠ 20 := fun e => hfull ⟨hi, hw, e⟩
        rw [zib_f, if_pos rfl, if_neg (by rw [show (20 : Int32) = nI 20 from rfl, nI_eq (by omega) (by omega)]; omega)]
  have e01 : ∀ v : Bool, (if zib v = 0 then (0 : Int32) else 1) = zib v := fun v => by cases v <;> rfl
  by_cases hsame : is = g.bs a b
  · -- nothing changes
    refine zStep_q hk (zAg_2 ⟨zib (g.bs a b), fun s h => ?_, fun s h => ?_⟩)
    · rw [X1 s h]
      dsimp only [jX11_bar_j54, jX11_bar_j69, zq_let]
      rw [hsame, if_pos rfl, e01]
      exact ⟨_, rfl, rfl, h, zSM_rfl⟩
    · rw [M1 s h]
      dsimp only [jX12_bar_j63, zq_let]
      rw [hsame, if_pos rfl, e01, zn_100, nI_add, zck_nI (by omega) (by decide), zpaz_nI _ _ (by omega), nz, zupd_self (zA s 96) (100 * a + b) (zib (g.bs a b)) (h.c4.2 a b ha hb), zsA_same, Int32.add_zero, zpf_same]
      exact ⟨_, rfl, rfl, h, zSX_rfl⟩
  · have hne : zib is ≠ zib (g.bs a b) := by
      intro e
      apply hsame
      cases is <;> cases hw : g.bs a b <;> rw [hw] at e <;> first | rfl | exact absurd e (by decide)
    have hbs' : g.bs a b = !is := by
      cases is <;> cases hw : g.bs a b <;> rw [hw] at hsame <;> first | rfl | exact absurd rfl hsame
    have cnt : zcn (fun q => zfe g.bs a b is (q / 100) (q % 100)) 10000 = (if is then g.nb + 1 else g.nb - 1) ∧ (is = false → 1 ≤ g.nb) := by
      have same : ∀ q, q ≠ 100 * a + b → zfe g.bs a b is (q / 100) (q % 100) = g.bs (q / 100) (q % 100) := by
        intro q hq
        unfold zfe
        rw [if_neg (by omega)]
      have at1 : zfe g.bs a b is ((100 * a + b) / 100) ((100 * a + b) % 100) = is := by
        unfold zfe
        rw [if_pos (by omega)]
      have at0 : g.bs ((100 * a + b) / 100) ((100 * a + b) % 100) = !is := by
        rw [show (100 * a + b) / 100 = a by omega, show (100 * a + b) % 100 = b by omega]
        exact hbs'
      cases is with
      | true =>
        refine ⟨?_, fun z => by cases z⟩
        rw [if_pos rfl, ← hcn]
        exact zcn_inc (P := fun q => g.bs (q / 100) (q % 100)) (Q := fun q => zfe g.bs a b true (q / 100) (q % 100)) (p := 100 * a + b) at0 at1 10000 (by omega) same
      | false =>
        have := zcn_inc (P := fun q => zfe g.bs a b false (q / 100) (q % 100)) (Q := fun q => g.bs (q / 100) (q % 100)) (p := 100 * a + b) at1 at0 10000 (by omega) (fun q hq => (same q hq).symm)
        rw [hcn] at this
        rw [if_neg (by decide)]
        exact ⟨by omega, fun _ => by omega⟩
    have hW' : zGW (g.setD ((g.dr, g.cp), (zfe g.bs a b is, (if is then g.nb + 1 else g.nb - 1)), (g.hd, g.fp))) := by
      obtain ⟨h1, h2, h3, h4, h5, h6, h7, h8⟩ := hW
      refine ⟨h1, h2, h3, h4, h5, ⟨?_, cnt.1⟩, h7, h8⟩
      show (if is then g.nb + 1 else g.nb - 1) ≤ 20
      cases hi : is with
      | true =>
        have : g.nb ≠ 20 := fun e => hfull ⟨hi, by rw [hbs', hi]; rfl, e⟩
        rw [if_pos rfl]; omega
      | false => rw [if_neg (by decide)]; omega
    have enb : nI g.nb + (if zib (g.bs a b) = 0 then (1 : Int32) else -1) = nI (if is then g.nb + 1 else g.nb - 1) := by
      rw [hbs']
      cases hi : is with
      | true => rw [Bool.not_true, zib_f, if_pos rfl, if_pos rfl, nI_1]
      | false =>
        have := cnt.2 hi
        rw [Bool.not_false, zib_t, if_neg (by decide), if_neg (by decide), show g.nb = (g.nb - 1) + 1 by omega, pk_m1]
        rfl
    refine ⟨_, ⟨hW', hmd, show g.vc ≤ k + 1 by omega⟩, zAg_2 ⟨zib (g.bs a b), fun s h => ?_, fun s h => ?_⟩⟩
    · rw [X1 s h]
      dsimp only [jX11_bar_j54, jX11_bar_j69, zq_let]
      rw [if_neg hne, e01]
      unfold mX0_turn jX0_turn_j59
      rw [mX11_isWord_in N ha, zb2_some]
      dsimp only
      rw [if_neg (show ¬ (1 : Int32) = 0 by decide), mX11_isWord_in N hb, zb2_some]
      dsimp only
      rw [if_neg (show ¬ (1 : Int32) = 0 by decide), mX0_isBarred_in N h.c4 ha hb, zb2_some]
      dsimp only [zq_let]
      rw [h.c4.1, show (if g.bs a b = true then (1 : Int32) else 0) = zib (g.bs a b) from rfl, enb, zn_2m, zn_sh6 (by omega), nI_add, zck_nI (by omega) (by decide), zck_nI (by omega) (by decide), zgl_nI _ _ (by omega), zpl_nI _ _ (by omega), zn_and63, zL_pf, zb2_some]
      refine ⟨_, rfl, rfl, zXI_set h ((zfr_pf 42 1 _ (by decide)).tr (zfr_sL 43 _ (by decide))) hW' h.c3 ⟨rfl, fun x y hx hy => ?_⟩ h.c5⟩
      rw [zL_self]
      show zbt (vp_updL (zL s 43) (2 * a + b / 64) _ (2 * x + y / 64)) (y % 64) = zfe g.bs a b is x y
      have hxy := h.c4.2 x y hx hy
      unfold vp_updL zfe
      by_cases c : 2 * x + y / 64 = 2 * a + b / 64
      · rw [if_pos c, zbt_xor, zbt_shl _ (by omega) (by omega), zbt_1, ← c, hxy]
        by_cases c2 : x = a ∧ y = b
        · rw [if_pos c2, c2.1, c2.2, hbs']
          have : (!decide (b % 64 < b % 64) && decide (b % 64 - b % 64 = 0)) = true := by simp
          rw [this]
          cases is <;> rfl
        · rw [if_neg c2]
          have : (!decide (y % 64 < b % 64) && decide (y % 64 - b % 64 = 0)) = false := by
            cases d : decide (y % 64 < b % 64) with
            | true => rfl
            | false =>
              have := of_decide_eq_false d
              rw [decide_eq_false (by omega)]
              rfl
          rw [this, Bool.xor_false]
      · rw [if_neg c, if_neg (by rintro ⟨rfl, rfl⟩; exact c rfl)]
        exact hxy
    · rw [M1 s h]
      dsimp only [jX12_bar_j63, zq_let]
      rw [if_neg hne, e01, zn_100, nI_add, zck_nI (by omega) (by decide), zpaz_nI _ _ (by omega), nz, zgf_sA, h.c4.1]
      have enb2 : nI g.nb + (if zib is = 0 then (-1 : Int32) else 1) = nI (if is then g.nb + 1 else g.nb - 1) := by
        rw [← enb, hbs']
        cases is <;> rfl
      rw [enb2]
      refine ⟨_, rfl, rfl, zMI_set h ((zfr_sA 96 _ (by decide)).tr (zfr_pf 57 59 _ (by decide))) hW' h.c3 ⟨rfl, fun x y hx hy => ?_⟩ h.c5⟩
      rw [zA_pf, zA_self]
      show upd (zA s 96) (100 * a + b) (zib is) (100 * x + y) = if zfe g.bs a b is x y then 1 else 0
      unfold upd zfe
      by_cases c : x = a ∧ y = b
      · rw [if_pos (show 100 * x + y = 100 * a + b by omega), if_pos c]; rfl
      · rw [if_neg (show ¬ 100 * x + y = 100 * a + b by omega), if_neg c]
        exact h.c4.2 x y hx hy
