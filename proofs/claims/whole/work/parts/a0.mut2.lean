/-! earlier, write, see, copy, drop, bar -/
def zfe (er : Nat → Nat → Bool) (a b : Nat) (v : Bool) : Nat → Nat → Bool := fun x y => if x = a ∧ y = b then v else er x y
theorem step_earlier (N : Nat) (hN : 5000 ≤ N) {k : Nat} (hk9 : k < 900) {g : zG} (hk : zOk k g) (p q : Int32) (is : Bool) : zStep k g (mX11_earlier N p q (zib is)) (mX12_earlier N p q (zib is)) := by
  obtain ⟨hW, hmd, hvc⟩ := id hk
  have hn := hW.n
  rcases zarg (c := 4) (by decide) p with z | ⟨a, ha, rfl, z⟩
  · refine zStep_q hk (zAg_2 ⟨-1001, fun s h => ?_, fun s h => ?_⟩)
    · unfold mX11_earlier
      rw [mX11_isInk_eq, if_neg z, zb2_some]
      exact ⟨_, rfl, rfl, h, zSM_rfl⟩
    · unfold mX12_earlier
      rw [mX12_isInk_eq, if_neg z, zb2_some]
      exact ⟨_, rfl, rfl, h, zSX_rfl⟩
  rcases zarg (c := 4) (by decide) q with y | ⟨b, hb, rfl, y⟩
  · refine zStep_q hk (zAg_2 ⟨-1001, fun s h => ?_, fun s h => ?_⟩)
    · unfold mX11_earlier
      rw [mX11_isInk_eq, if_pos z, zb2_some]
      dsimp only
      rw [if_neg (show ¬ (1 : Int32) = 0 by decide), mX11_isInk_eq, if_neg y, zb2_some]
      exact ⟨_, rfl, rfl, h, zSM_rfl⟩
    · unfold mX12_earlier
      rw [mX12_isInk_eq, if_pos z, zb2_some]
      dsimp only
      rw [if_neg (show ¬ (1 : Int32) = 0 by decide), mX12_isInk_eq, if_neg y, zb2_some]
      exact ⟨_, rfl, rfl, h, zSX_rfl⟩
  by_cases hab : a = b
  · refine zStep_q hk (zAg_2 ⟨-1001, fun s h => ?_, fun s h => ?_⟩)
    · unfold mX11_earlier
      rw [mX11_isInk_eq, if_pos z, zb2_some]
      dsimp only
      rw [if_neg (show ¬ (1 : Int32) = 0 by decide), mX11_isInk_eq, if_pos y, zb2_some]
      dsimp only
      rw [if_neg (show ¬ (1 : Int32) = 0 by decide), if_pos (by rw [hab])]
      exact ⟨_, rfl, rfl, h, zSM_rfl⟩
    · unfold mX12_earlier
      rw [mX12_isInk_eq, if_pos z, zb2_some]
      dsimp only
      rw [if_neg (show ¬ (1 : Int32) = 0 by decide), mX12_isInk_eq, if_pos y, zb2_some]
      dsimp only
      rw [if_neg (show ¬ (1 : Int32) = 0 by decide), if_pos (by rw [hab])]
      exact ⟨_, rfl, rfl, h, zSX_rfl⟩
  have hne : ¬ nI a = nI b := by rw [nI_eq (by omega) (by omega)]; exact hab
  -- the class's row
  have hem : ∀ em : Nat → Nat, zer em g.er → zer (zfu em a (if is then em a ||| 2 ^ b else zmn (em a) (2 ^ b))) (zfe g.er a b is) ∧ (if is then em a ||| 2 ^ b else zmn (em a) (2 ^ b)) < 2 ^ 31 := by
    intro em he
    have h1 := (he a 0 ha (by decide)).1
    have hb16 : 2 ^ b < 2 ^ 4 := Nat.pow_lt_pow_right (by decide) hb
    have hlt : (if is then em a ||| 2 ^ b else zmn (em a) (2 ^ b)) < 2 ^ 4 := by
      split
      · exact Nat.or_lt_two_pow h1 hb16
      · exact zmn_lt h1
    refine ⟨fun x y hx hy => ?_, by omega⟩
    obtain ⟨k1, k2⟩ := he x y hx hy
    unfold zfu zfe
    by_cases c : x = a
    · rw [if_pos c]
      refine ⟨hlt, ?_⟩
      cases is with
      | true =>
        rw [if_pos rfl, zor_bit]
        by_cases c2 : y = b
        · rw [if_pos c2, if_pos ⟨c, c2⟩]
        · rw [if_neg c2, if_neg (fun w => c2 w.2), ← k2, c]
      | false =>
        rw [if_neg (by decide), zmn_bit]
        by_cases c2 : y = b
        · rw [if_pos ⟨c, c2⟩, c2, Nat.testBit_two_pow_self, Bool.not_true, Bool.and_false]
        · rw [if_neg (fun w => c2 w.2), Nat.testBit_two_pow_of_ne (Ne.symm c2), Bool.not_false, Bool.and_true, ← k2, c]
    · rw [if_neg c, if_neg (fun w => c w.1)]
      exact ⟨k1, k2⟩
  have kx : ∀ em : Nat → Nat, (if zib is = 0 then (nI (em a) &&& (((1 : Int32) <<< (nI b &&& 31)) ^^^ (-1))) else (nI (em a) ||| ((1 : Int32) <<< (nI b &&& 31)))) = nI (if is then em a ||| 2 ^ b else zmn (em a) (2 ^ b)) := by
    intro em
    rw [zn_shl (by omega)]
    cases is with
    | true => rw [zib_t, if_neg (by decide), if_pos rfl, zn_or]
    | false => rw [zib_f, if_pos rfl, if_neg (by decide), zn_andnot]; rfl
  have ku : ∀ (o : Nat → Int32) (em : Nat → Nat) (w : Nat), (∀ n, n < 4 → o n = nI (em n)) → ∀ n, n < 4 → upd o a (nI w) n = nI (zfu em a w n) := by
    intro o em w ho n h
    unfold upd zfu
    by_cases c : n = a
    · rw [if_pos c, if_pos c]
    · rw [if_neg c, if_neg c]; exact ho n h
  have km : ∀ (o : Nat → Int32) (er : Nat → Nat → Bool) (v : Bool), (∀ x y, x < 4 → y < 4 → o (4 * x + y) = if er x y then 1 else 0) → ∀ x y, x < 4 → y < 4 → upd o (4 * a + b) (zib v) (4 * x + y) = if zfe er a b v x y then 1 else 0 := by
    intro o er v ho x y hx hy
    unfold upd zfe
    by_cases c : x = a ∧ y = b
    · rw [if_pos (by omega), if_pos c]; rfl
    · rw [if_neg (by omega), if_neg c]; exact ho x y hx hy
  have nz : ∀ v : Bool, vp_nar .boolean (zib v) = zib v := fun v => by cases v <;> rfl
  have n4 : 4 * nI a + nI b = nI (4 * a + b) := zn_4m a b
  cases hc : zcy (zmu g.n g.S.ba g.ik (zfe g.er a b is)) g.n with
  | true =>
    refine zStep_q hk (zAg_2 ⟨-1003, fun s h => ?_, fun s h => ?_⟩)
    · unfold mX11_earlier
      rw [mX11_isInk_eq, if_pos z, zb2_some]
      dsimp only
      rw [if_neg (show ¬ (1 : Int32) = 0 by decide), mX11_isInk_eq, if_pos y, zb2_some]
      obtain ⟨em, he, hr⟩ := h.2.2.1.2.1
      dsimp only [zq_let]
      rw [if_neg (show ¬ (1 : Int32) = 0 by decide), if_neg hne, zck_nI ha (by decide), zck_nI ha (by decide), zga_nI _ _ (by omega), he a ha, kx em, zpa_nI _ _ (by omega)]
      rcases xw_settle N hN h (u := zsA s 33 (upd (zA s 33) a (nI (if is then em a ||| 2 ^ b else zmn (em a) (2 ^ b))))) (zfr_sA 33 _ (by decide)) (K := (g.ik, zfe g.er a b is)) (fun n hn' => ⟨h.ik n hn', hW.ik n hn'⟩) (em := zfu em a (if is then em a ||| 2 ^ b else zmn (em a) (2 ^ b))) (fun n hn' => by rw [zA_self]; exact ku _ em _ he n hn') (hem em hr).1 (by omega) with ⟨_, f, e⟩ | ⟨c, _⟩
      · rw [e, zb2_some]
        dsimp only
        rw [if_pos rfl, zck_nI ha (by decide), zpa_nI _ _ (by omega), zA_ne _ (by decide), zA_self, zupd_upd]
        have e2 : zsA (zsA (zsA s 33 (upd (zA s 33) a (nI (if is then em a ||| 2 ^ b else zmn (em a) (2 ^ b))))) 36 f) 33 (upd (zA s 33) a (nI (em a))) = zsA s 36 f := by
          rw [zupd_self (zA s 33) a _ (he a ha)]
          refine zs_ext (fun _ _ => rfl) (fun _ => rfl) (fun x => ?_) (fun _ => rfl)
          simp only [zA_sA]
          by_cases c : x = 33
          · rw [if_pos c, if_neg (by omega), c]
          · rw [if_neg c, if_neg c]
        rw [e2]
        refine ⟨_, rfl, rfl, zXI_36 h f, ?_⟩
        exact ⟨fun _ _ _ => rfl, fun a ha => zA_ne _ (by omega) _, fun _ _ => rfl⟩
      · rw [show zcy (zmu g.n g.S.ba (g.ik, zfe g.er a b is).1 (g.ik, zfe g.er a b is).2) g.n = true from hc] at c
        cases c
    · unfold mX12_earlier
      rw [mX12_isInk_eq, if_pos z, zb2_some]
      dsimp only
      rw [if_neg (show ¬ (1 : Int32) = 0 by decide), mX12_isInk_eq, if_pos y, zb2_some]
      dsimp only [zq_let]
      have e0 : zga s 69 (nI (4 * a + b)) = zib (g.er a b) := by rw [zga_nI _ _ (by omega)]; exact h.2.2.1.2.1 a b ha hb
      rw [if_neg (show ¬ (1 : Int32) = 0 by decide), if_neg hne, n4, zck_nI (by omega) (by decide), zck_nI (by omega) (by decide), e0, zpaz_nI _ _ (by omega), nz]
      refine zw_call (mw_must N hN h (u := zsA s 69 (upd (zA s 69) (4 * a + b) (zib is))) (zfr_sA 69 _ (by decide)) (K := (g.ik, zfe g.er a b is)) (fun n hn' => ⟨h.ik n hn', hW.ik n hn'⟩) (by rw [zA_self]; exact km _ _ _ h.2.2.1.2.1)) (fun r t ⟨k1, k2, k3, k4⟩ => ?_)
      dsimp only at k1 k2 k3
      rw [k1, show zcy (zmu g.n g.S.ba g.ik (zfe g.er a b is)) g.n = true from hc, if_pos rfl, if_pos rfl, zck_nI (by omega) (by decide), zpaz_nI _ _ (by omega), nz, k3.a 69 (by decide), zA_self, zupd_upd, zupd_self (zA s 69) (4 * a + b) (zib (g.er a b)) (h.2.2.1.2.1 a b ha hb)]
      refine zw_call (mw_must N hN h (u := zsA t 69 (zA s 69)) (k2.tr (zfr_sA 69 _ (by decide))) (K := (g.ik, g.er)) (fun n hn' => ⟨by rw [zA_ne _ (by decide), k3.a 63 (by decide)]; exact h.ik n hn', hW.ik n hn'⟩) (by rw [zA_self]; exact h.2.2.1.2.1)) (fun r2 t2 ⟨l1, l2, l3, l4⟩ => ?_)
      dsimp only at l1 l2 l4
      rw [l1, show zcy (zmu g.n g.S.ba g.ik g.er) g.n = false from hW.cy]
      exact ⟨_, rfl, rfl, l4 g rfl rfl rfl rfl rfl rfl rfl rfl rfl hW, zfr_SX l2⟩
  | false =>
    have hW' : zGW (g.setK (g.ik, zfe g.er a b is)) := zGW_setK hW hW.ik hc (by omega)
    refine ⟨g.setK (g.ik, zfe g.er a b is), ⟨hW', rfl, show g.vc + 1 ≤ k + 1 by omega⟩, zAg_2 ⟨zib (g.er a b), fun s h => ?_, fun s h => ?_⟩⟩
    · unfold mX11_earlier
      rw [mX11_isInk_eq, if_pos z, zb2_some]
      dsimp only
      rw [if_neg (show ¬ (1 : Int32) = 0 by decide), mX11_isInk_eq, if_pos y, zb2_some]
      obtain ⟨em, he, hr⟩ := h.2.2.1.2.1
      have hma := (hr a b ha hb)
      dsimp only [zq_let]
      rw [if_neg (show ¬ (1 : Int32) = 0 by decide), if_neg hne, zck_nI ha (by decide), zck_nI ha (by decide), zga_nI _ _ (by omega), he a ha, kx em, zpa_nI _ _ (by omega)]
      rcases xw_settle N hN h (u := zsA s 33 (upd (zA s 33) a (nI (if is then em a ||| 2 ^ b else zmn (em a) (2 ^ b))))) (zfr_sA 33 _ (by decide)) (K := (g.ik, zfe g.er a b is)) (fun n hn' => ⟨h.ik n hn', hW.ik n hn'⟩) (em := zfu em a (if is then em a ||| 2 ^ b else zmn (em a) (2 ^ b))) (fun n hn' => by rw [zA_self]; exact ku _ em _ he n hn') (hem em hr).1 (by omega) with ⟨c, _⟩ | ⟨_, c⟩
      · rw [show zcy (zmu g.n g.S.ba (g.ik, zfe g.er a b is).1 (g.ik, zfe g.er a b is).2) g.n = false from hc] at c
        cases c
      · refine zw_call c (fun r t ⟨k1, k2, k3⟩ => ?_)
        dsimp only at k1 k2 k3
        rw [k1, if_neg (show ¬ (1 : Int32) = 0 by decide), zn_bit (by omega) (by omega), hma.2]
        exact ⟨_, rfl, rfl, k2, k3⟩
    · unfold mX12_earlier
      rw [mX12_isInk_eq, if_pos z, zb2_some]
      dsimp only
      rw [if_neg (show ¬ (1 : Int32) = 0 by decide), mX12_isInk_eq, if_pos y, zb2_some]
      dsimp only [zq_let]
      have e0 : zga s 69 (nI (4 * a + b)) = zib (g.er a b) := by rw [zga_nI _ _ (by omega)]; exact h.2.2.1.2.1 a b ha hb
      rw [if_neg (show ¬ (1 : Int32) = 0 by decide), if_neg hne, n4, zck_nI (by omega) (by decide), zck_nI (by omega) (by decide), e0, zpaz_nI _ _ (by omega), nz]
      refine zw_call (mw_must N hN h (u := zsA s 69 (upd (zA s 69) (4 * a + b) (zib is))) (zfr_sA 69 _ (by decide)) (K := (g.ik, zfe g.er a b is)) (fun n hn' => ⟨h.ik n hn', hW.ik n hn'⟩) (by rw [zA_self]; exact km _ _ _ h.2.2.1.2.1)) (fun r t ⟨k1, k2, k3, k4⟩ => ?_)
      dsimp only at k1 k2 k3 k4
      rw [k1, show zcy (zmu g.n g.S.ba g.ik (zfe g.er a b is)) g.n = false from hc, if_neg (show ¬ false = true by decide), if_neg (show ¬ (1 : Int32) = 0 by decide)]
      refine ⟨_, rfl, ?_, k4 (g.setK (g.ik, zfe g.er a b is)) rfl rfl rfl rfl rfl rfl rfl rfl rfl hW', zfr_SX k2⟩
      cases g.er a b <;> rfl
