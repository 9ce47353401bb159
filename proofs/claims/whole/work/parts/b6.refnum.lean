/-! the reference reads numbers, marks, words -/
theorem zin57 : ∀ v, v < 256 → (if (48 : Int64) ≤ Int32.toInt64 (nI v) ∧ Int32.toInt64 (nI v) ≤ 57 then (1 : Int32) else 0) = zib (decide (48 ≤ v ∧ v ≤ 57)) := by decide +kernel
def pzNx (h : List Nat) (p c : Nat) (s t : zq_S) : Prop :=
  zfr [(57, 17), (57, 18), (57, 19), (57, 20)] [] [] s t ∧ (c = 0 → zgf t 57 17 = zgf s 57 17 ∧ zgf t 57 18 = nI (pze h p) ∧ zgf t 57 19 = nI (pzv h p) ∧ zgf t 57 20 = nI (zskp h p)) ∧ (c ≠ 0 → zgf t 57 17 = nI (zskp h p))
theorem zHM_fr {h : List Nat} {F : List (Nat × Nat)} {A L : List Nat} {s t : zq_S} (hs : zHM h s) (f : zfr F A L s t) (h1 : (57, 16) ∉ F) (h2 : 70 ∉ A) : zHM h t := by
  obtain ⟨a, b, c⟩ := hs
  exact ⟨by rw [f.f 57 16 h1]; exact a, by rw [f.a 70 h2]; exact b, c⟩
theorem zhr_fig (N : Nat) {h : List Nat} (hh : ∀ x, x ∈ h → x < 256) (p : Nat) (s : zq_S) : mX12_in N (Int32.toInt64 (zhr h p)) 48 57 s = some (zib (zfig h (zskp h p)), s) := by
  rw [mX12_in_eq]
  unfold zhr zfig
  by_cases z : zskp h p < h.length
  · rw [if_pos z, zin57 _ (zgt_256 hh _)]
  · rw [if_neg z, zgt_out (by omega)]
    rfl
theorem mX12_takeNumber_w (N : Nat) (hN : 5000 ≤ N) {h : List Nat} {s : zq_S} (hs : zHM h s) {p mx : Nat} (hp : p ≤ h.length) (hat : zgf s 57 18 = nI p) (hm : mx < 100) : zw (mX12_takeNumber N (nI mx) s) (fun v => v.1 = nI (pzNc h p mx) ∧ pzNx h p (pzNc h p mx) s v.2) := by
  have hl := hs.2.2.1
  obtain ⟨k1, k2, k3, k4⟩ := pzsk h hp
  unfold mX12_takeNumber
  rw [mX12_here_eq N hN hs hp hat, zb2_some]
  dsimp only
  rw [zhr_fig N hs.2.2.2, zb2_some]
  dsimp only [zq_let]
  have fr0 : zfr [(57, 17), (57, 18), (57, 19), (57, 20)] [] [] s (zpf s 57 18 (nI (zskp h p))) := zfr_pf _ _ _ (by decide)
  cases zf : zfig h (zskp h p) with
  | false =>
    rw [zib_f, if_pos rfl]
    unfold mX12_fails
    dsimp only [zq_let]
    rw [zb2_some]
    have e : pzNc h p mx = 1 := by unfold pzNc; rw [if_neg (by rw [zf]; decide)]
    rw [e]
    exact zw_some.2 ⟨rfl, fr0.tr (zfr_pf _ _ _ (by decide)), fun y => absurd y (by decide), fun _ => rfl⟩
  | true =>
    rw [zib_t, if_neg (show ¬ (1 : Int32) = 0 by decide)]
    have hq := zfig_lt zf
    obtain ⟨e1, e2, e3, e4⟩ := pznd h k2
    have hnd : znd h (zskp h p) = pze h p := rfl
    have hle : zskp h p + 1 ≤ pze h p := by
      have := (pznd h (show zskp h p + 1 ≤ h.length by omega)).1
      rw [← hnd, znd_fig zf]; exact this
    rw [hnd] at e1 e2 e3 e4
    have key : ∀ d e M t, pze h p - e ≤ d → e ≤ pze h p → zskp h p ≤ e → d < M → zfr [(57, 17), (57, 18), (57, 19), (57, 20)] [] [] s t → zgf t 57 17 = zgf s 57 17 → zgf t 57 20 = nI (zskp h p) → zgf t 57 18 = nI e →
        (e = zskp h p → zgf t 57 19 = 0) → (e = zskp h p + 1 → zgf t 57 19 = nI (zgt h (zskp h p) - 48)) → (e = zskp h p + 2 → zgf t 57 19 = nI (10 * (zgt h (zskp h p) - 48) + (zgt h (zskp h p + 1) - 48))) →
        zw (zq_loop (bX12_takeNumber_42 N (nI mx) (fun e11 => jX12_takeNumber_j129 N (nI mx) e11)) M t) (fun v => v.1 = nI (pzNc h p mx) ∧ pzNx h p (pzNc h p mx) s v.2) := by
      intro d
      induction d with
      | zero =>
        intro e M t h1 h2 h3 hM fr t17 t20 t18 n0 n1 n2
        obtain ⟨M, rfl⟩ : ∃ M', M = M' + 1 := ⟨M - 1, by omega⟩
        obtain rfl : e = pze h p := by omega
        have ht := zHM_fr hs fr (by decide) (by decide)
        rw [zq_loop_s]
        dsimp only [bX12_takeNumber_42]
        have out : zw (jX12_takeNumber_j129 N (nI mx) t) (fun v => v.1 = nI (pzNc h p mx) ∧ pzNx h p (pzNc h p mx) s v.2) := by
          unfold jX12_takeNumber_j129 jX12_takeNumber_j150 jX12_takeNumber_j163 mX12_fails
          dsimp only [zq_let]
          rw [t18, t20, pk_sub e1, show (2 : Int32) = nI 2 from rfl, zb2_some]
          by_cases y : 2 < pze h p - zskp h p
          · rw [if_pos (by rw [nI_ltI (by decide) (by omega)]; exact y)]
            have e : pzNc h p mx = 2 := by unfold pzNc; rw [if_pos zf, if_pos (Or.inl y)]
            rw [e]
            exact zw_some.2 ⟨rfl, fr.tr (zfr_pf _ _ _ (by decide)), fun y => absurd y (by decide), fun _ => rfl⟩
          · rw [if_neg (by rw [nI_ltI (by decide) (by omega)]; exact y)]
            have en : zgf t 57 19 = nI (pzv h p) := by
              unfold pzv zval
              rw [hnd]
              by_cases y2 : pze h p - zskp h p = 2
              · rw [if_pos y2]; exact n2 (by omega)
              · rw [if_neg y2]; exact n1 (by omega)
            have hv : pzv h p < 2 ^ 31 := by
              have := zgt_256 hs.2.2.2 (zskp h p)
              have := zgt_256 hs.2.2.2 (zskp h p + 1)
              unfold pzv zval
              split <;> omega
            rw [en]
            by_cases y3 : pzv h p ≤ mx
            · rw [if_pos (by rw [nI_leI hv (by omega)]; exact y3)]
              have e : pzNc h p mx = 0 := by unfold pzNc; rw [if_pos zf, if_neg (by omega)]
              rw [e]
              exact zw_some.2 ⟨rfl, fr, fun _ => ⟨t17, t18, en, t20⟩, fun y => absurd rfl y⟩
            · rw [if_neg (by rw [nI_leI hv (by omega)]; exact y3)]
              have e : pzNc h p mx = 2 := by unfold pzNc; rw [if_pos zf, if_pos (by omega)]
              rw [e]
              exact zw_some.2 ⟨rfl, fr.tr (zfr_pf _ _ _ (by decide)), fun y => absurd y (by decide), fun _ => rfl⟩
        rw [ht.1, t18]
        by_cases y : h.length ≤ pze h p
        · rw [if_pos (nI_le y (by omega))]; exact out
        · rw [if_neg (by rw [nI_leI (by omega) (by omega)]; exact y), zck_nI (by omega) (by decide), zga_nI _ _ (by omega), ht.2.1 _ (by omega), mX12_in_eq, zb2_some, zin57 _ (zgt_256 hs.2.2.2 _)]
          have e4' := e4
          unfold zfig at e4'
          dsimp only
          rw [e4', zib_f, if_pos rfl]
          exact out
      | succ d ih =>
        intro e M t h1 h2 h3 hM fr t17 t20 t18 n0 n1 n2
        by_cases hd : pze h p - e ≤ d
        · exact ih e M t hd h2 h3 (by omega) fr t17 t20 t18 n0 n1 n2
        obtain ⟨M, rfl⟩ : ∃ M', M = M' + 1 := ⟨M - 1, by omega⟩
        have ht := zHM_fr hs fr (by decide) (by decide)
        have hfe := e3 e h3 (by omega)
        have hfe' := hfe
        unfold zfig at hfe'
        have hb := zgt_256 hs.2.2.2 e
        rw [zq_loop_s]
        dsimp only [bX12_takeNumber_42]
        rw [ht.1, t18, if_neg (by rw [nI_leI (by omega) (by omega)]; omega), zck_nI (by omega) (by decide), zga_nI _ _ (by omega), ht.2.1 _ (by omega), mX12_in_eq, zb2_some, zin57 _ hb]
        dsimp only
        rw [hfe', zib_t, if_neg (show ¬ (1 : Int32) = 0 by decide), t18, zck_nI (by omega) (by decide), zga_nI _ _ (by omega), ht.2.1 _ (by omega)]
        have hfe2 := of_decide_eq_true hfe'
        unfold jX12_takeNumber_j113
        dsimp only [zq_let]
        have step : ∀ x : Int32, (e = zskp h p → x = nI (zgt h (zskp h p) - 48)) → (e = zskp h p + 1 → x = nI (10 * (zgt h (zskp h p) - 48) + (zgt h (zskp h p + 1) - 48))) →
            zw (zq_loop (bX12_takeNumber_42 N (nI mx) (fun e11 => jX12_takeNumber_j129 N (nI mx) e11)) M (zpf (zpf t 57 19 x) 57 18 (zgf (zpf t 57 19 x) 57 18 + 1))) (fun v => v.1 = nI (pzNc h p mx) ∧ pzNx h p (pzNc h p mx) s v.2) := by
          intro x x0 x1
          have ex : zgf (zpf t 57 19 x) 57 18 = nI e := by rw [zgf_pf, if_neg (by decide)]; exact t18
          rw [ex, nI_1]
          refine ih (e + 1) M _ (by omega) (by omega) (by omega) (by omega) ((fr.tr (zfr_pf _ _ _ (by decide))).tr (zfr_pf _ _ _ (by decide))) ?_ ?_ ?_ (fun y => by omega) (fun y => ?_) (fun y => ?_)
          · rw [zgf_pf, if_neg (by decide), zgf_pf, if_neg (by decide)]; exact t17
          · rw [zgf_pf, if_neg (by decide), zgf_pf, if_neg (by decide)]; exact t20
          · rfl
          · exact x0 (by omega)
          · exact x1 (by omega)
        by_cases y : zgf t 57 19 ≤ 1000
        · rw [if_pos y]
          refine step _ (fun w => ?_) (fun w => ?_)
          · rw [n0 w, w]
            rw [w] at hfe2
            rw [show (10 : Int32) * 0 = nI 0 from rfl, nI_add, show (48 : Int32) = nI 48 from rfl, pk_sub (by omega), Nat.zero_add]
          · rw [n1 w, w]
            rw [w] at hfe2
            rw [show (10 : Int32) = nI 10 from rfl, nI_mul, nI_add, show (48 : Int32) = nI 48 from rfl, pk_sub (by omega)]
            congr 1
            omega
        · rw [if_neg y]
          refine step _ (fun w => absurd ?_ y) (fun w => absurd ?_ y)
          · rw [n0 w]; decide
          · have := zgt_256 hs.2.2.2 (zskp h p)
            rw [n1 w, show (1000 : Int32) = nI 1000 from rfl, nI_leI (by omega) (by decide)]
            omega
    refine key (pze h p - zskp h p) (zskp h p) N _ (Nat.le_refl _) (by omega) (Nat.le_refl _) (by omega) (((fr0.tr (zfr_pf _ _ _ (by decide))).tr (zfr_pf _ _ _ (by decide)))) ?_ ?_ ?_ (fun _ => rfl) (fun y => by omega) (fun y => by omega)
    · rfl
    · rfl
    · rfl
theorem mX12_takeMark_w (N : Nat) (hN : 5000 ≤ N) {h : List Nat} {s : zq_S} (hs : zHM h s) {p K : Nat} (hp : p ≤ h.length) (hat : zgf s 57 18 = nI p) (hK : zgf s 57 28 = nI K) (hK2 : K < 1024) :
    zw (mX12_takeMark N s) (fun v => v.1 = nI (pzMc h K p) ∧ zfr [(57, 17), (57, 18), (57, 19), (57, 20), (57, 28)] [] [] s v.2 ∧
      (pzMc h K p = 0 → zgf v.2 57 17 = zgf s 57 17 ∧ zgf v.2 57 18 = nI (pze h p) ∧ zgf v.2 57 19 = nI (pzv h p) ∧ zgf v.2 57 28 = nI (K ||| 2 ^ pzv h p)) ∧ (pzMc h K p ≠ 0 → zgf v.2 57 17 = nI (zskp h p))) := by
  unfold mX12_takeMark
  refine zw_call (mX12_takeNumber_w N hN hs hp hat (mx := 9) (by decide)) ?_
  intro r t ⟨h1, fr, h2, h3⟩
  dsimp only at h1 fr h2 h3 ⊢
  subst h1
  have fr' : zfr [(57, 17), (57, 18), (57, 19), (57, 20), (57, 28)] [] [] s t := fr.mo (by decide) (by decide) (by decide)
  by_cases z : pzNc h p 9 = 0
  · obtain ⟨a1, a2, a3, a4⟩ := h2 z
    obtain ⟨_, _, _, _, hv, _⟩ := pzN_ok hp z (by decide)
    rw [z, if_pos (by decide), fr.f 57 28 (by decide), hK, a3, mX12_has_eq N (by omega) (by omega), zb2_some]
    dsimp only
    cases y : K.testBit (pzv h p) with
    | false =>
      have e : pzMc h K p = 0 := by unfold pzMc; rw [if_pos z, if_neg (by rw [y]; decide)]
      rw [if_neg (show ¬ false = true by decide), if_pos rfl, e]
      dsimp only [zq_let]
      rw [fr.f 57 28 (by decide), hK, a3, zn_shl (by omega), zn_or]
      refine zw_some.2 ⟨rfl, fr'.tr (zfr_pf _ _ _ (by decide)), fun _ => ⟨?_, ?_, ?_, ?_⟩, fun w => absurd rfl w⟩
      · rw [zgf_pf, if_neg (by decide)]; exact a1
      · rw [zgf_pf, if_neg (by decide)]; exact a2
      · rw [zgf_pf, if_neg (by decide)]; exact a3
      · rfl
    | true =>
      have e : pzMc h K p = 3 := by unfold pzMc; rw [if_pos z, if_pos y]
      rw [if_pos rfl, if_neg (show ¬ (1 : Int32) = 0 by decide), e]
      unfold mX12_fails
      dsimp only [zq_let]
      rw [zb2_some, a4]
      exact zw_some.2 ⟨rfl, fr'.tr (zfr_pf _ _ _ (by decide)), fun w => absurd w (by decide), fun _ => rfl⟩
  · have e : pzMc h K p = pzNc h p 9 := by unfold pzMc; rw [if_neg z]
    have hb : pzNc h p 9 ≤ 2 := by unfold pzNc; split; split <;> omega; omega
    rw [if_neg (by rw [show (0 : Int32) = nI 0 from rfl, nI_leI (by omega) (by decide)]; omega), e]
    exact zw_some.2 ⟨rfl, fr', fun w => absurd w z, fun w => h3 w⟩
theorem mX12_takeWord_w (N : Nat) (hN : 5000 ≤ N) {h : List Nat} {s : zq_S} (hs : zHM h s) {p : Nat} {R : List zIt} (hp : p ≤ h.length) (hat : zgf s 57 18 = nI p) (hK : zgf s 57 27 = nI (pzwn R)) (hK2 : pzwn R ≤ 40) :
    zw (mX12_takeWord N s) (fun v => v.1 = nI (pzWc h R p) ∧ zfr [(57, 17), (57, 18), (57, 19), (57, 20), (57, 27)] [] [] s v.2 ∧
      (pzWc h R p = 0 → zgf v.2 57 17 = zgf s 57 17 ∧ zgf v.2 57 18 = nI (pze h p) ∧ zgf v.2 57 19 = nI (pzv h p) ∧ zgf v.2 57 27 = nI (pzwn R + 1) ∧ zgf v.2 57 20 = nI (zskp h p)) ∧ (pzWc h R p ≠ 0 → zgf v.2 57 17 = nI (zskp h p))) := by
  unfold mX12_takeWord
  refine zw_call (mX12_takeNumber_w N hN hs hp hat (mx := 99) (by decide)) ?_
  intro r t ⟨h1, fr, h2, h3⟩
  dsimp only at h1 fr h2 h3 ⊢
  subst h1
  have fr' : zfr [(57, 17), (57, 18), (57, 19), (57, 20), (57, 27)] [] [] s t := fr.mo (by decide) (by decide) (by decide)
  by_cases z : pzNc h p 99 = 0
  · obtain ⟨a1, a2, a3, a4⟩ := h2 z
    rw [z, if_pos (by decide), fr.f 57 27 (by decide), hK]
    by_cases y : pzwn R = 40
    · have e : pzWc h R p = 4 := by unfold pzWc; rw [if_pos z, if_pos y]
      rw [if_pos (by rw [y]; rfl), e]
      unfold mX12_fails
      dsimp only [zq_let]
      rw [zb2_some, a4]
      exact zw_some.2 ⟨rfl, fr'.tr (zfr_pf _ _ _ (by decide)), fun w => absurd w (by decide), fun _ => rfl⟩
    · have e : pzWc h R p = 0 := by unfold pzWc; rw [if_pos z, if_neg y]
      rw [if_neg (by rw [show (40 : Int32) = nI 40 from rfl, nI_eq (by omega) (by decide)]; exact y), e]
      dsimp only [zq_let]
      rw [nI_1]
      refine zw_some.2 ⟨rfl, fr'.tr (zfr_pf _ _ _ (by decide)), fun _ => ⟨?_, ?_, ?_, ?_, ?_⟩, fun w => absurd rfl w⟩
      · rw [zgf_pf, if_neg (by decide)]; exact a1
      · rw [zgf_pf, if_neg (by decide)]; exact a2
      · rw [zgf_pf, if_neg (by decide)]; exact a3
      · rfl
      · rw [zgf_pf, if_neg (by decide)]; exact a4
  · have e : pzWc h R p = pzNc h p 99 := by unfold pzWc; rw [if_neg z]
    have hb : pzNc h p 99 ≤ 2 := by unfold pzNc; split; split <;> omega; omega
    rw [if_neg (by rw [show (0 : Int32) = nI 0 from rfl, nI_leI (by omega) (by decide)]; omega), e]
    exact zw_some.2 ⟨rfl, fr', fun w => absurd w z, fun w => h3 w⟩
/-- item n of the rows the reference reads into -/
def pzrw5 (s : zq_S) (n : Nat) (a b c d e : Int32) : Prop := zA s 71 n = a ∧ zA s 72 n = b ∧ zA s 73 n = c ∧ zA s 74 n = d ∧ zA s 75 n = e
theorem mX12_addSign_w (N : Nat) {s : zq_S} {n : Nat} (hn : zgf s 57 21 = nI n) (h4 : n < 400) (a b c e : Int32) :
    zw (mX12_addSign N a b c e s) (fun v => zfr [(57, 21)] [71, 72, 73, 74, 75] [] s v.2 ∧ zgf v.2 57 21 = nI (n + 1) ∧ pzrw5 v.2 n a b c (-1) e ∧ ∀ k, k ≠ n → pzrw5 v.2 k (zA s 71 k) (zA s 72 k) (zA s 73 k) (zA s 74 k) (zA s 75 k)) := by
  unfold mX12_addSign
  dsimp only [zq_let]
  simp (disch := omega) only [hn, zpa_eq, zgf_sA, zck_nI, nI_clamp, nI_1]
  refine zw_some.2 ⟨?_, rfl, ⟨?_, ?_, ?_, ?_, ?_⟩, fun k hk => ⟨?_, ?_, ?_, ?_, ?_⟩⟩
  · exact (((((zfr_sA _ _ (by decide)).tr (zfr_sA _ _ (by decide))).tr (zfr_sA _ _ (by decide))).tr (zfr_sA _ _ (by decide))).tr (zfr_sA _ _ (by decide))).tr (zfr_pf _ _ _ (by decide))
  · simp [zA_pf, zA_sA, upd]
  · simp [zA_pf, zA_sA, upd]
  · simp [zA_pf, zA_sA, upd]
  · simp [zA_pf, zA_sA, upd]
  · simp [zA_pf, zA_sA, upd]
  · simp [zA_pf, zA_sA, upd, hk]
  · simp [zA_pf, zA_sA, upd, hk]
  · simp [zA_pf, zA_sA, upd, hk]
  · simp [zA_pf, zA_sA, upd, hk]
  · simp [zA_pf, zA_sA, upd, hk]
