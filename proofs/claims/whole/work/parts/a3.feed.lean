/-! feed -/
/-- byte k of a long -/
def zby (x : Int64) (k : Nat) : Nat := zid (fun i => zbt x (8 * k + i)) 8
theorem zby_lt (x : Int64) (k : Nat) : zby x k < 256 := zid_lt (n := 8) _ 8 (Nat.le_refl _)
theorem zby_bit (x : Int64) (k : Nat) {i : Nat} (hi : i < 8) : (zby x k).testBit i = zbt x (8 * k + i) := by
  unfold zby
  rw [zid_bit, decide_eq_true hi, Bool.true_and]
theorem zby_x (x : Int64) {k : Nat} (hk : k < 8) : Int64.toInt32 ((Int64.toUInt64 x >>> ((Int32.toInt64 ((8 : Int32) * nI k)).toUInt64 &&& Int64.toUInt64 63)).toInt64) &&& 255 = nI (zby x k) := by
  rw [zn_mul8]
  refine zbt_byte (zby_lt x k) (fun i hi => ?_)
  rw [zbt_shr _ _ (by omega), zby_bit x k hi]
theorem zbt_sar (x : Int64) {a i : Nat} (h : a + i < 64) : zbt (x >>> (Int32.toInt64 (nI a) &&& 63)) i = zbt x (a + i) := by
  rw [zl_63 (by omega)]
  unfold zbt
  have e : (x >>> lN a).toBitVec = x.toBitVec.sshiftRight' ((lN a).toBitVec.smod 64) := rfl
  rw [e, BitVec.getLsbD_sshiftRight', zl_sm (by omega), if_pos h, decide_eq_false (by omega)]
  rfl
theorem zby_m (x : Int64) {k : Nat} (hk : k < 8) : Int64.toInt32 ((x >>> (Int32.toInt64 ((8 : Int32) * nI k) &&& 63)) &&& 255) = nI (zby x k) := by
  have hb := zby_lt x k
  rw [zn_mul8]
  have e : (x >>> (Int32.toInt64 (nI (8 * k)) &&& 63)) &&& 255 = lN (zby x k) := by
    refine zbt_ext (fun i hi => ?_)
    rw [zbt_and, ← nI_l (show zby x k < 2 ^ 31 by omega), zbt_nI (by omega), decide_eq_true hi, Bool.true_and]
    have e255 : zbt 255 i = decide (i < 8) := by
      have : (255 : Int64) = Int32.toInt64 (nI 255) := by decide
      rw [this, zbt_nI (by decide), decide_eq_true hi, Bool.true_and, show (255 : Nat) = 2 ^ 8 - 1 from rfl, Nat.testBit_two_pow_sub_one]
    rw [e255]
    by_cases q : i < 8
    · rw [decide_eq_true q, Bool.and_true, zbt_sar _ (by omega), zby_bit x k q]
    · rw [decide_eq_false q, Bool.and_false]
      exact (Nat.testBit_lt_two_pow (Nat.lt_of_lt_of_le (show zby x k < 2 ^ 8 from hb) (Nat.pow_le_pow_right (by decide) (by omega)))).symm
  rw [e, lN_i]
/-- the first j of n bytes, the highest first -/
def zfb (x : Int64) (n : Nat) : Nat → List Nat
  | 0 => []
  | j + 1 => zfb x n j ++ [zby x (n - 1 - j)]
theorem zfb_len (x : Int64) (n : Nat) : ∀ j, (zfb x n j).length = j := by
  intro j
  induction j with
  | zero => rfl
  | succ j ih => unfold zfb; rw [List.length_append, ih]; rfl
theorem zfb_lt (x : Int64) (n : Nat) : ∀ j y, y ∈ zfb x n j → y < 256 := by
  intro j
  induction j with
  | zero => intro y hy; exact absurd hy List.not_mem_nil
  | succ j ih =>
    intro y hy
    unfold zfb at hy
    rcases List.mem_append.mp hy with q | q
    · exact ih y q
    · rw [List.mem_singleton.mp q]; exact zby_lt _ _
theorem zbyte {x : Nat} (h : x < 256) : vp_nar .byte ((Int32.toInt8 (nI x)).toInt32) &&& 255 = nI x := by
  have : ∀ x : Fin 256, vp_nar .byte ((Int32.toInt8 (nI x.1)).toInt32) &&& 255 = nI x.1 := by decide +kernel
  exact this ⟨x, h⟩
theorem step_feed (N : Nat) (hN : 5000 ≤ N) {k : Nat} {g : zG} (hk : zOk k g) (p : Int32) (x : Int64) : zStep k g (mX11_feed N p x) (mX12_feed N p x) := by
  obtain ⟨hW, hmd, hvc⟩ := id hk
  obtain ⟨hl, hh⟩ := hW.hd
  have mi : ∀ s, mX12_in N (Int32.toInt64 p) 1 8 s = some (if ¬ p < 1 ∧ p ≤ 8 then 1 else 0, s) := by
    intro s
    rw [mX12_in_eq]
    congr 2
    refine zif_iff ?_
    simp only [Int64.le_iff_toInt_le, Int32.toInt_toInt64, Int32.lt_iff_toInt_lt, Int32.le_iff_toInt_le]
    have e1 : (1 : Int64).toInt = 1 := rfl
    have e8 : (8 : Int64).toInt = 8 := rfl
    have f1 : (1 : Int32).toInt = 1 := rfl
    have f8 : (8 : Int32).toInt = 8 := rfl
    omega
  by_cases hp : ¬ p < 1 ∧ p ≤ 8
  · obtain ⟨n, hn, rfl⟩ : ∃ n, (1 ≤ n ∧ n ≤ 8) ∧ p = nI n := by
      have h0 : ¬ p < 0 := by
        intro z
        apply hp.1
        rw [Int32.lt_iff_toInt_lt] at z ⊢
        have f1 : (1 : Int32).toInt = 1 := rfl
        rw [Int32.toInt_zero] at z
        omega
      obtain ⟨n, h1, rfl⟩ := nI_of h0
      refine ⟨n, ⟨?_, ?_⟩, rfl⟩
      · have := hp.1
        rw [show (1 : Int32) = nI 1 from rfl, nI_ltI h1 (by decide)] at this
        omega
      · have := hp.2
        rw [show (8 : Int32) = nI 8 from rfl, nI_leI h1 (by decide)] at this
        omega
    have e1 : nI n - 1 = nI (n - 1) := by
      rw [show n = (n - 1) + 1 by omega, zn_m1]
      rfl
    have cst : ∀ j, j < n → nI (n - 1 - j) + -1 = if j + 1 < n then nI (n - 1 - (j + 1)) else -1 := by
      intro j hj
      by_cases q : j + 1 < n
      · rw [if_pos q, show n - 1 - j = (n - 1 - (j + 1)) + 1 by omega, pk_m1]
      · rw [if_neg q, show n - 1 - j = 0 by omega]; rfl
    by_cases hf : g.hd.length + n ≤ 400
    · have hW' : zGW (g.setD ((g.dr, g.cp), (g.bs, g.nb), (g.hd ++ zfb x n n, g.fp))) := by
        obtain ⟨h1, h2, h3, h4, h5, h6, h7, h8⟩ := hW
        refine ⟨h1, h2, h3, h4, h5, h6, ⟨?_, ?_⟩, h8⟩
        · show (g.hd ++ zfb x n n).length ≤ 400
          rw [List.length_append, zfb_len]; exact hf
        · intro y hy
          rcases List.mem_append.mp (show y ∈ g.hd ++ zfb x n n from hy) with q | q
          · exact hh y q
          · exact zfb_lt x n n y q
      have len : ∀ j, (g.hd ++ zfb x n j).length = g.hd.length + j := fun j => by rw [List.length_append, zfb_len]
      have app : ∀ j, g.hd ++ zfb x n (j + 1) = (g.hd ++ zfb x n j) ++ [zby x (n - 1 - j)] := fun j => by rw [List.append_assoc]; rfl
      refine ⟨_, ⟨hW', hmd, show g.vc ≤ k + 1 by omega⟩, zAg_2 ⟨nI (g.hd.length + n), fun s h => ?_, fun s h => ?_⟩⟩
      · unfold mX11_feed
        dsimp only [zq_let]
        rw [if_neg hp.1, if_pos hp.2, h.c5.1, nI_add, if_pos (by rw [show (400 : Int32) = nI 400 from rfl, nI_leI (by omega) (by omega)]; exact hf), e1]
        refine zw_cnt n (fun j v => ∃ t, v = ((if j < n then nI (n - 1 - j) else -1), t) ∧ zXD s t ∧ zL t 52 = zL s 52 ∧ zA t 53 = zA s 53 ∧ zL t 43 = zL s 43 ∧ zgf t 56 5 = zgf s 56 5 ∧ zgf t 42 1 = zgf s 42 1 ∧ zX5 (g.hd ++ zfb x n j) g.fp t) ?_ ?_ N 0 _ (by omega) (by omega) ⟨s, by rw [if_pos (by omega)]; rfl, zfr_rfl, rfl, rfl, rfl, rfl, rfl, by rw [show g.hd ++ zfb x n 0 = g.hd from List.append_nil _]; exact h.c5⟩
        · rintro self v ⟨t, rfl, fq, b1, b2, b3, b4, b5, ht⟩
          dsimp only [bX11_feed_39]
          rw [if_neg (Nat.lt_irrefl _), if_pos (by decide)]
          refine ⟨_, rfl, by dsimp only; rw [ht.1, len], zXI_set h fq hW' ?_ ?_ ht⟩
          · have := h.c3
            unfold zX3 zRow at this ⊢
            rw [fq.f 51 0 (by decide), b4, show zL t (zf true + 1) = zL s (zf true + 1) from b1, show zA t (zf true + 2) = zA s (zf true + 2) from b2]
            exact this
          · have := h.c4
            unfold zX4 at this ⊢
            rw [b5, b3]
            exact this
        · rintro self j v hj ⟨t, rfl, fq, b1, b2, b3, b4, b5, ht⟩ hself
          have hb := zby_lt x (n - 1 - j)
          dsimp only [bX11_feed_39, zq_let]
          rw [if_pos hj, if_neg (nI_nneg (by omega)), zby_x x (by omega), cst j hj]
          unfold mX5_hear jX5_hear_j31
          dsimp only [zq_let]
          rw [ht.1, len, if_neg (by rw [show (400 : Int32) = nI 400 from rfl, nI_leI (by omega) (by omega)]; omega), zck_nI (by omega) (by decide), zpab_nI _ _ (by omega), zgf_sA, ht.1, len, nI_1, zb2_some]
          have f2 : zXD t (zpf (zsA t 27 (upd (zA t 27) (g.hd.length + j) (vp_nar .byte ((Int32.toInt8 (nI (zby x (n - 1 - j)))).toInt32)))) 26 1 (nI (g.hd.length + j + 1))) := (zfr_sA 27 _ (by decide)).tr (zfr_pf 26 1 _ (by decide))
          refine hself _ ⟨_, rfl, fq.tr f2, b1, by rw [zA_pf, zA_ne _ (by decide)]; exact b2, b3, b4, b5, ?_, fun i hi => ?_, ht.2.2⟩
          · show nI (g.hd.length + j + 1) = nI (g.hd ++ zfb x n (j + 1)).length
            rw [len]; rfl
          · rw [len] at hi
            rw [zA_pf, zA_self, app]
            unfold upd
            by_cases c : i = g.hd.length + j
            · rw [if_pos c, zbyte hb, c, ← len j, zgt_last]
            · rw [if_neg c, ht.2.1 i (by rw [len]; omega), zgt_left (l := g.hd ++ zfb x n j) [zby x (n - 1 - j)] (by rw [len]; omega)]
      · unfold mX12_feed
        rw [mi, if_pos hp, zb2_some]
        dsimp only [zq_let]
        rw [if_neg (show ¬ (1 : Int32) = 0 by decide), h.c5.1, nI_add, if_pos (by rw [show (400 : Int32) = nI 400 from rfl, nI_leI (by omega) (by omega)]; exact hf), e1]
        refine zw_cnt n (fun j v => ∃ t, v = ((if j < n then nI (n - 1 - j) else -1), t) ∧ zfr [(57, 16)] [70] [] s t ∧ zM5 (g.hd ++ zfb x n j) g.fp t) ?_ ?_ N 0 _ (by omega) (by omega) ⟨s, by rw [if_pos (by omega)]; rfl, zfr_rfl, by rw [show g.hd ++ zfb x n 0 = g.hd from List.append_nil _]; exact h.c5⟩
        · rintro self v ⟨t, rfl, fq, ht⟩
          dsimp only [bX12_feed_37]
          rw [if_neg (Nat.lt_irrefl _), if_pos (by decide)]
          refine ⟨_, rfl, by dsimp only; rw [ht.1, len], zMI_set h (fq.mo (by decide) (by decide) (by decide)) hW' ?_ ?_ ht⟩
          · have := h.c3
            unfold zM3 at this ⊢
            rw [fq.f 57 52 (by decide), fq.f 57 54 (by decide), fq.a 91 (by decide), fq.a 92 (by decide), fq.a 93 (by decide)]
            exact this
          · have := h.c4
            unfold zM4' at this ⊢
            rw [fq.f 57 59 (by decide), fq.a 96 (by decide)]
            exact this
        · rintro self j v hj ⟨t, rfl, fq, ht⟩ hself
          dsimp only [bX12_feed_37, zq_let]
          rw [if_pos hj, if_neg (nI_nneg (by omega)), zby_m x (by omega), cst j hj, ht.1, len, zck_nI (by omega) (by decide), zpa_nI _ _ (by omega), zgf_sA, ht.1, len, nI_1]
          have f2 : zfr [(57, 16)] [70] [] t (zpf (zsA t 70 (upd (zA t 70) (g.hd.length + j) (nI (zby x (n - 1 - j))))) 57 16 (nI (g.hd.length + j + 1))) := (zfr_sA 70 _ (by decide)).tr (zfr_pf 57 16 _ (by decide))
          refine hself _ ⟨_, rfl, fq.tr f2, ?_, fun i hi => ?_, ?_⟩
          · show nI (g.hd.length + j + 1) = nI (g.hd ++ zfb x n (j + 1)).length
            rw [len]; rfl
          · rw [len] at hi
            rw [zA_pf, zA_self, app]
            unfold upd
            by_cases c : i = g.hd.length + j
            · rw [if_pos c, c, ← len j, zgt_last]
            · rw [if_neg c, ht.2.1 i (by rw [len]; omega), zgt_left (l := g.hd ++ zfb x n j) [zby x (n - 1 - j)] (by rw [len]; omega)]
          · rw [f2.f 57 17 (by decide)]; exact ht.2.2
    · refine zStep_q hk (zAg_2 ⟨-1004, fun s h => ?_, fun s h => ?_⟩)
      · unfold mX11_feed
        rw [if_neg hp.1, if_pos hp.2, h.c5.1, nI_add, if_neg (by rw [show (400 : Int32) = nI 400 from rfl, nI_leI (by omega) (by omega)]; exact hf)]
        exact ⟨_, rfl, rfl, h, zSM_rfl⟩
      · unfold mX12_feed
        rw [mi, if_pos hp, zb2_some]
        dsimp only
        rw [if_neg (show ¬ (1 : Int32) = 0 by decide), h.c5.1, nI_add, if_neg (by rw [show (400 : Int32) = nI 400 from rfl, nI_leI (by omega) (by omega)]; exact hf)]
        exact ⟨_, rfl, rfl, h, zSX_rfl⟩
  · refine zStep_q hk (zAg_2 ⟨-1002, fun s h => ?_, fun s h => ?_⟩)
    · unfold mX11_feed jX11_feed_j11
      by_cases c : p < 1
      · rw [if_pos c]
        exact ⟨_, rfl, rfl, h, zSM_rfl⟩
      · rw [if_neg c, if_neg (fun z => hp ⟨c, z⟩)]
        exact ⟨_, rfl, rfl, h, zSM_rfl⟩
    · unfold mX12_feed
      rw [mi, if_neg hp, zb2_some]
      exact ⟨_, rfl, rfl, h, zSX_rfl⟩
