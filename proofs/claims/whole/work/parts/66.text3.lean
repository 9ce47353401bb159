/-! the reference's text of a set: the walk -/
def zWI (T : zSh) (S : Nat) (s : zq_S) (v : Int32 × Int32 × Int32 × zq_S) : Prop :=
  ∃ t, v.1 = nI (zwk T S t).1 ∧ v.2.2.2 = zMt S (zwk T S t).2.2 s ∧ ((zwk T S t).1 < T.n → T.sg (zwk T S t).1 ≠ 9 ∧ T.sg (zwk T S t).1 ≠ 10) ∧
    ((zow T S (zwk T S t).1 = none ∧ v.2.1 = nI T.n ∧ v.2.2.1 = -1) ∨
     (∃ q, zow T S (zwk T S t).1 = some q ∧ v.2.1 = nI (T.lk q) ∧ v.2.2.1 = nI (T.st (T.mk q) + 1)))
theorem zrow_ok {T : zSh} (hR : zShR T) {p : Nat} (h : p + 1 < T.n) (h2 : T.sg p ≠ 8) (h3 : T.sg p ≠ 9) : T.sg (p + 1) ≠ 9 ∧ T.sg (p + 1) ≠ 10 := by
  constructor
  · intro e; have := hR.2.1 p h (Or.inl e); omega
  · intro e; have := hR.2.1 p h (Or.inr e); omega
theorem mX12_writeText_eq (N : Nat) (hN : 5000 ≤ N) {s : zq_S} {T : zSh} (hT : zShW T) (hR : zShR T) (h4 : zSh40 T) (hM : zMS s T) {S : Nat} (hS : S < 1024) :
    mX12_writeText N (nI S) s = some ((), zMt S (ztx T S) s) := by
  have hn := hT.n100
  have hle := fun t => (zwk_inv hT S t).1
  unfold mX12_writeText
  rw [zck_nI hS (by decide)]
  dsimp only [zq_let]
  rw [zck_nI hS (by decide), zpa_nI _ _ (by omega), zpl_nI _ _ (by omega), zL_sA, ← zMt_nil, (zMS_Mt hM).1]
  apply zw_of
  refine zw_loop (zWI T S s) (fun v => 101 - zrk T S (fun _ => true) v.1.toNatClampNeg) ?_ N _ ?_ ?_
  · rintro ⟨w2, w3, w4, st⟩ ⟨t, e1, e2, e3, e4⟩ self hs
    dsimp only at e1 e2 e4
    subst e1 e2
    have hp := hle t
    have hrk := zrk_le T S (fun _ => true) (zwk T S t).1
    have hcn := zcn_le (fun _ => true) T.n
    dsimp only [bX12_writeText_24]
    by_cases e : (zwk T S t).1 < T.n
    · have g := e3 e
      obtain ⟨x1, x2, x3, x4, x5, x6, x7, x8⟩ := zMS_Mt (S := S) (ws := (zwk T S t).2.2) hM
      -- one step of the walk
      have one : ∀ v, zWI T S s v → (∃ k, v.1 = nI (zwk T S (t + 1 + k)).1) → zw (self v) (fun x => x = ((), zMt S (ztx T S) s)) := by
        rintro v hv ⟨k, hk⟩
        apply hs v hv
        have a := zrk_walk hT e k
        have b := zrk_le T S (fun _ => true) (zwk T S (t + 1 + k)).1
        have c := hle (t + 1 + k)
        rw [hk, nI_clamp (by omega), nI_clamp (by omega)]
        omega
      sorry
    · have e5 : (zwk T S t).1 = T.n := by omega
      have e6 : zow T S (zwk T S t).1 = none := by rw [e5]; unfold zow; rw [hT.bot]; rfl
      rcases e4 with ⟨_, f1, f2⟩ | ⟨q, f0, _⟩
      · subst f1 f2
        rw [if_neg (by rw [nI_ltI (by omega) (by omega)]; omega), if_pos (by decide), zw_some, zwk_stop hT e]
        rfl
      · rw [e6] at f0; cases f0
  · refine ⟨0, rfl, rfl, fun h => hR.2.2 h, Or.inl ⟨?_, rfl, rfl⟩⟩
    show zow T S 0 = none
    unfold zow; rw [hT.top]; rfl
  · dsimp only
    omega
