def jX1_keepTimes_j82 (N : Nat)  (f1 : Int32) (f2 : Int32) (k89 : zq_S → Option (Unit × zq_S)) (self : Int32 × zq_S → Option (Unit × zq_S)) (w3 : Int32) (t0 : Int64) (t1 : Int32) (s : zq_S) : Option (Unit × zq_S) :=
  zq_ck t1 4096 (
  zq_let (zpl s 1 t1 t0) (fun s5 =>
  zq_let (w3 + (1 : Int32)) (fun x6 =>
  self (x6, s5))))
set_option maxRecDepth 20000 in
set_option maxHeartbeats 2000000 in
theorem xX1_keepTimes_j82_j (N : Nat)  (f1 : Int32) (f2 : Int32) (k89 : zq_S → Option (Unit × zq_S)) (hk89 : ∀ e, zq_X yX1_keepTimes RX1 cX1_keepTimes 5 none ⟨3, 0, 0, 71⟩ zv_v 89 [.null, .null, .null, .null, .null] [] e (k89 e)) (self : Int32 × zq_S → Option (Unit × zq_S)) (hself : ∀ v, zq_X yX1_keepTimes RX1 cX1_keepTimes 5 none ⟨3, 0, 0, 71⟩ zv_v 2 [.ref 56, .int f1, .int f2, .int v.1, .null] [] v.2 (self v)) (w3 : Int32) (t0 : Int64) (t1 : Int32) (s : zq_S) : zq_X yX1_keepTimes RX1 cX1_keepTimes 5 none ⟨3, 0, 0, 71⟩ zv_v 82 [.ref 56, .int f1, .int f2, .int w3, .null] [.long t0, .int t1, .ref 1] s (jX1_keepTimes_j82 N f1 f2 k89 self w3 t0 t1 s) := by
  unfold jX1_keepTimes_j82
  refine zx_lastore (pc' := 83) zsh_1 dX1_keepTimes_82 rfl (fun s5 => ?_)
  refine zx_iinc (pc' := 86) (ls' := fun x6 => [.ref 56, .int f1, .int f2, .int x6, .null]) rfl rfl (by decide) rfl (fun _ => rfl) dX1_keepTimes_83 rfl (fun x6 => ?_)
  refine zx_lift (pc' := 2) (fun _ => zq_goto dX1_keepTimes_86 rfl) ?_
  exact hself (x6, s5)
def jX1_keepTimes_j56 (N : Nat)  (f1 : Int32) (f2 : Int32) (k89 : zq_S → Option (Unit × zq_S)) (self : Int32 × zq_S → Option (Unit × zq_S)) (w3 : Int32) (t0 : Int32) (s : zq_S) : Option (Unit × zq_S) :=
  if t0 = (0 : Int32) then
  jX1_keepTimes_j82 N f1 f2 k89 self w3 (0 : Int64) (f2 + w3) s
  else
  zq_ck (f2 + w3) 4096 (
  jX1_keepTimes_j82 N f1 f2 k89 self w3 (zgl s 1 (f2 + w3)) (f2 + w3) s)
set_option maxRecDepth 20000 in
set_option maxHeartbeats 2000000 in
theorem xX1_keepTimes_j56_j (N : Nat)  (f1 : Int32) (f2 : Int32) (k89 : zq_S → Option (Unit × zq_S)) (hk89 : ∀ e, zq_X yX1_keepTimes RX1 cX1_keepTimes 5 none ⟨3, 0, 0, 71⟩ zv_v 89 [.null, .null, .null, .null, .null] [] e (k89 e)) (self : Int32 × zq_S → Option (Unit × zq_S)) (hself : ∀ v, zq_X yX1_keepTimes RX1 cX1_keepTimes 5 none ⟨3, 0, 0, 71⟩ zv_v 2 [.ref 56, .int f1, .int f2, .int v.1, .null] [] v.2 (self v)) (w3 : Int32) (t0 : Int32) (s : zq_S) : zq_X yX1_keepTimes RX1 cX1_keepTimes 5 none ⟨3, 0, 0, 71⟩ zv_v 56 [.ref 56, .int f1, .int f2, .int w3, .null] [.int t0] s (jX1_keepTimes_j56 N f1 f2 k89 self w3 t0 s) := by
  unfold jX1_keepTimes_j56
  refine zx_lift (pc' := 58) (fun _ => zq_istore (ls' := [.ref 56, .int f1, .int f2, .int w3, .int t0]) (by decide) rfl rfl dX1_keepTimes_56 rfl) ?_
  refine zx_lift (pc' := 59) (fun _ => zq_aload_n rfl rfl dX1_keepTimes_58 rfl) ?_
  refine zx_lift (pc' := 62) (fun _ => zt_getR zfr_X1_27 zfd_56_4 dX1_keepTimes_59 rfl) ?_
  refine zx_lift (pc' := 63) (fun _ => zq_iload_n rfl rfl dX1_keepTimes_62 rfl) ?_
  refine zx_lift (pc' := 64) (fun _ => zq_iload_n rfl rfl dX1_keepTimes_63 rfl) ?_
  refine zx_lift (pc' := 65) (fun _ => zq_iadd dX1_keepTimes_64 rfl) ?_
  refine zx_lift (pc' := 67) (fun _ => zq_iload rfl dX1_keepTimes_65 rfl) ?_
  refine zx_if_eq (pc' := 70) (tgt := 81) dX1_keepTimes_67 rfl rfl (fun hc => ?_) (fun hc => ?_)
  · refine zx_lift (pc' := 82) (fun _ => zq_lconst (v := 0) dX1_keepTimes_81 rfl rfl) ?_
    refine zx_less [.ref 56, .int f1, .int f2, .int w3, .null] (zq_cr (zq_cr (zq_cr (zq_cr (zq_cz zq_cn))))) ?_
    exact xX1_keepTimes_j82_j N f1 f2 k89 hk89 self hself w3 (0 : Int64) (f2 + w3) s
  · refine zx_lift (pc' := 71) (fun _ => zq_aload_n rfl rfl dX1_keepTimes_70 rfl) ?_
    refine zx_lift (pc' := 74) (fun _ => zt_getR zfr_X1_27 zfd_56_4 dX1_keepTimes_71 rfl) ?_
    refine zx_lift (pc' := 75) (fun _ => zq_iload_n rfl rfl dX1_keepTimes_74 rfl) ?_
    refine zx_lift (pc' := 76) (fun _ => zq_iload_n rfl rfl dX1_keepTimes_75 rfl) ?_
    refine zx_lift (pc' := 77) (fun _ => zq_iadd dX1_keepTimes_76 rfl) ?_
    refine zx_laload (pc' := 78) zsh_1 dX1_keepTimes_77 rfl ?_
    refine zx_lift (pc' := 82) (fun _ => zq_goto dX1_keepTimes_78 rfl) ?_
    refine zx_less [.ref 56, .int f1, .int f2, .int w3, .null] (zq_cr (zq_cr (zq_cr (zq_cr (zq_cz zq_cn))))) ?_
    exact xX1_keepTimes_j82_j N f1 f2 k89 hk89 self hself w3 (zgl s 1 (f2 + w3)) (f2 + w3) s
def jX1_keepTimes_j55 (N : Nat)  (f1 : Int32) (f2 : Int32) (k89 : zq_S → Option (Unit × zq_S)) (self : Int32 × zq_S → Option (Unit × zq_S)) (w3 : Int32) (s : zq_S) : Option (Unit × zq_S) :=
  jX1_keepTimes_j56 N f1 f2 k89 self w3 (0 : Int32) s
set_option maxRecDepth 20000 in
set_option maxHeartbeats 2000000 in
theorem xX1_keepTimes_j55_j (N : Nat)  (f1 : Int32) (f2 : Int32) (k89 : zq_S → Option (Unit × zq_S)) (hk89 : ∀ e, zq_X yX1_keepTimes RX1 cX1_keepTimes 5 none ⟨3, 0, 0, 71⟩ zv_v 89 [.null, .null, .null, .null, .null] [] e (k89 e)) (self : Int32 × zq_S → Option (Unit × zq_S)) (hself : ∀ v, zq_X yX1_keepTimes RX1 cX1_keepTimes 5 none ⟨3, 0, 0, 71⟩ zv_v 2 [.ref 56, .int f1, .int f2, .int v.1, .null] [] v.2 (self v)) (w3 : Int32) (s : zq_S) : zq_X yX1_keepTimes RX1 cX1_keepTimes 5 none ⟨3, 0, 0, 71⟩ zv_v 55 [.ref 56, .int f1, .int f2, .int w3, .null] [] s (jX1_keepTimes_j55 N f1 f2 k89 self w3 s) := by
  unfold jX1_keepTimes_j55
  refine zx_lift (pc' := 56) (fun _ => zq_iconst (v := 0) dX1_keepTimes_55 rfl rfl) ?_
  exact xX1_keepTimes_j56_j N f1 f2 k89 hk89 self hself w3 (0 : Int32) s
def bX1_keepTimes_2 (N : Nat)  (f1 : Int32) (f2 : Int32) (k89 : zq_S → Option (Unit × zq_S)) (self : Int32 × zq_S → Option (Unit × zq_S)) (v : Int32 × zq_S) : Option (Unit × zq_S) :=
  zq_b2 (mX3_full N v.2) (fun r1 s2 =>
  if r1 < v.1 then
  k89 s2
  else
  if (1024 : Int32) ≤ v.1 then
  k89 s2
  else
  zq_b2 (mX3_isGood N v.1 s2) (fun r3 s4 =>
  if r3 = (0 : Int32) then
  jX1_keepTimes_j55 N f1 f2 k89 self v.1 s4
  else
  zq_b2 (mX9_with N v.1 s4) (fun r7 s8 =>
  zq_b2 (mX8_isAlike N true false f1 v.1 s8) (fun r9 s10 =>
  if r9 = (0 : Int32) then
  jX1_keepTimes_j55 N f1 f2 k89 self v.1 s10
  else
  jX1_keepTimes_j56 N f1 f2 k89 self v.1 (1 : Int32) s10))))
set_option maxRecDepth 20000 in
set_option maxHeartbeats 2000000 in
theorem xX1_keepTimes_2 (N : Nat)  (f1 : Int32) (f2 : Int32) (k89 : zq_S → Option (Unit × zq_S)) (hk89 : ∀ e, zq_X yX1_keepTimes RX1 cX1_keepTimes 5 none ⟨3, 0, 0, 71⟩ zv_v 89 [.null, .null, .null, .null, .null] [] e (k89 e)) (self : Int32 × zq_S → Option (Unit × zq_S)) (hself : ∀ v, zq_X yX1_keepTimes RX1 cX1_keepTimes 5 none ⟨3, 0, 0, 71⟩ zv_v 2 [.ref 56, .int f1, .int f2, .int v.1, .null] [] v.2 (self v)) (v : Int32 × zq_S) : zq_X yX1_keepTimes RX1 cX1_keepTimes 5 none ⟨3, 0, 0, 71⟩ zv_v 2 [.ref 56, .int f1, .int f2, .int v.1, .null] [] v.2 (bX1_keepTimes_2 N f1 f2 k89 self v) := by
  unfold bX1_keepTimes_2
  refine zx_lift (pc' := 3) (fun _ => zq_iload_n rfl rfl dX1_keepTimes_2 rfl) ?_
  refine zx_lift (pc' := 4) (fun _ => zq_aload_n rfl rfl dX1_keepTimes_3 rfl) ?_
  refine zx_lift (pc' := 7) (fun _ => zt_getR zfr_X1_9 zfd_56_0 dX1_keepTimes_4 rfl) ?_
  refine zx_cVi (pc' := 10) zcv_X1_105 (cX3_full_mc N v.2) zob_31 rfl (by decide) (Nat.le_of_ble_eq_true rfl) dX1_keepTimes_7 rfl rfl (fun r1 s2 => ?_)
  refine zx_icmp_gt (pc' := 13) (tgt := 89) dX1_keepTimes_10 rfl rfl (fun hc => ?_) (fun hc => ?_)
  · refine zx_less [.null, .null, .null, .null, .null] (zq_cz (zq_cz (zq_cz (zq_cz (zq_cz zq_cn))))) ?_
    exact hk89 s2
  · refine zx_lift (pc' := 14) (fun _ => zq_iload_n rfl rfl dX1_keepTimes_13 rfl) ?_
    refine zx_lift (pc' := 17) (fun _ => zq_sipush (v := 1024) dX1_keepTimes_14 rfl rfl) ?_
    refine zx_icmp_ge (pc' := 20) (tgt := 89) dX1_keepTimes_17 rfl rfl (fun hc => ?_) (fun hc => ?_)
    · refine zx_less [.null, .null, .null, .null, .null] (zq_cz (zq_cz (zq_cz (zq_cz (zq_cz zq_cn))))) ?_
      exact hk89 s2
    · refine zx_lift (pc' := 21) (fun _ => zq_aload_n rfl rfl dX1_keepTimes_20 rfl) ?_
      refine zx_lift (pc' := 24) (fun _ => zt_getR zfr_X1_9 zfd_56_0 dX1_keepTimes_21 rfl) ?_
      refine zx_lift (pc' := 25) (fun _ => zq_iload_n rfl rfl dX1_keepTimes_24 rfl) ?_
      refine zx_cVi (pc' := 28) zcv_X1_108 (cX3_isGood_mc N v.1 s2) zob_31 rfl (by decide) (Nat.le_of_ble_eq_true rfl) dX1_keepTimes_25 rfl rfl (fun r3 s4 => ?_)
      refine zx_if_eq (pc' := 31) (tgt := 55) dX1_keepTimes_28 rfl rfl (fun hc => ?_) (fun hc => ?_)
      · exact xX1_keepTimes_j55_j N f1 f2 k89 hk89 self hself v.1 s4
      · refine zx_lift (pc' := 32) (fun _ => zq_aload_n rfl rfl dX1_keepTimes_31 rfl) ?_
        refine zx_lift (pc' := 35) (fun _ => zt_getR zfr_X1_19 zfd_56_2 dX1_keepTimes_32 rfl) ?_
        refine zx_lift (pc' := 36) (fun _ => zq_iload_n rfl rfl dX1_keepTimes_35 rfl) ?_
        refine zx_lift (pc' := 37) (fun _ => zq_aload_n rfl rfl dX1_keepTimes_36 rfl) ?_
        refine zx_lift (pc' := 40) (fun _ => zt_getR zfr_X1_15 zfd_56_1 dX1_keepTimes_37 rfl) ?_
        refine zx_lift (pc' := 41) (fun _ => zq_iload_n rfl rfl dX1_keepTimes_40 rfl) ?_
        refine zx_cVw (pc' := 44) zcv_X1_35 (cX9_with_mc N v.1 s4) zob_38 rfl (by decide) (Nat.le_of_ble_eq_true rfl) dX1_keepTimes_41 rfl rfl (fun r7 s8 => ?_)
        refine zx_lift (pc' := 45) (fun _ => zq_iload_n rfl rfl dX1_keepTimes_44 rfl) ?_
        refine zx_cVi (pc' := 48) zcv_X1_41 (cX8_isAlike_mc N true false f1 v.1 s8) (zob_f true) rfl (by decide) (Nat.le_of_ble_eq_true rfl) dX1_keepTimes_45 rfl rfl (fun r9 s10 => ?_)
        refine zx_if_eq (pc' := 51) (tgt := 55) dX1_keepTimes_48 rfl rfl (fun hc => ?_) (fun hc => ?_)
        · exact xX1_keepTimes_j55_j N f1 f2 k89 hk89 self hself v.1 s10
        · refine zx_lift (pc' := 52) (fun _ => zq_iconst (v := 1) dX1_keepTimes_51 rfl rfl) ?_
          refine zx_lift (pc' := 56) (fun _ => zq_goto dX1_keepTimes_52 rfl) ?_
          exact xX1_keepTimes_j56_j N f1 f2 k89 hk89 self hself v.1 (1 : Int32) s10
theorem yX1_keepTimes_2 (N : Nat)  (f1 : Int32) (f2 : Int32) (k89 : zq_S → Option (Unit × zq_S)) (hk89 : ∀ e, zq_X yX1_keepTimes RX1 cX1_keepTimes 5 none ⟨3, 0, 0, 71⟩ zv_v 89 [.null, .null, .null, .null, .null] [] e (k89 e)) (n : Nat) : ∀ v : Int32 × zq_S, zq_X yX1_keepTimes RX1 cX1_keepTimes 5 none ⟨3, 0, 0, 71⟩ zv_v 2 [.ref 56, .int f1, .int f2, .int v.1, .null] [] v.2 (zq_loop (bX1_keepTimes_2 N f1 f2 k89) n v) := by
  induction n with
  | zero => exact fun v u hu => by cases hu
  | succ n ih =>
    intro v
    rw [zq_loop_s]
    exact xX1_keepTimes_2 N f1 f2 k89 hk89 (zq_loop (bX1_keepTimes_2 N f1 f2 k89) n) ih v
def jX1_keepTimes_j89 (N : Nat)    (s : zq_S) : Option (Unit × zq_S) :=
  some ((), s)
set_option maxRecDepth 20000 in
set_option maxHeartbeats 2000000 in
theorem xX1_keepTimes_j89_j (N : Nat)    (s : zq_S) : zq_X yX1_keepTimes RX1 cX1_keepTimes 5 none ⟨3, 0, 0, 71⟩ zv_v 89 [.null, .null, .null, .null, .null] [] s (jX1_keepTimes_j89 N s) := by
  unfold jX1_keepTimes_j89
  exact zx_vret rfl dX1_keepTimes_89
def mX1_keepTimes (N : Nat)  (p1 : Int32) (p2 : Int32) (s : zq_S) : Option (Unit × zq_S) :=
  zq_loop (bX1_keepTimes_2 N p1 p2 (fun e11 =>
  jX1_keepTimes_j89 N e11)) N ((0 : Int32), s)
set_option maxRecDepth 20000 in
set_option maxHeartbeats 2000000 in
theorem xX1_keepTimes (N : Nat)  (p1 : Int32) (p2 : Int32) (s : zq_S) : zq_X yX1_keepTimes RX1 cX1_keepTimes 5 none ⟨3, 0, 0, 71⟩ zv_v 0 [.ref 56, .int p1, .int p2, .null, .null] [] s (mX1_keepTimes N p1 p2 s) := by
  unfold mX1_keepTimes
  refine zx_lift (pc' := 1) (fun _ => zq_iconst (v := 0) dX1_keepTimes_0 rfl rfl) ?_
  refine zx_lift (pc' := 2) (fun _ => zq_istore_n (ls' := [.ref 56, .int p1, .int p2, .int (0 : Int32), .null]) rfl (by decide) rfl rfl dX1_keepTimes_1 rfl) ?_
  refine yX1_keepTimes_2 N p1 p2 _ (fun e11 => ?_) N ((0 : Int32), s)
  exact xX1_keepTimes_j89_j N e11
theorem cX1_keepTimes_mc (N : Nat)  (p1 : Int32) (p2 : Int32) (s : zq_S) (v : Unit × zq_S) (h : mX1_keepTimes N p1 p2 s = some v) : zq_MC yX1_keepTimes cX1_keepTimes 5 none ⟨3, 0, 0, 71⟩ 0 0 [.ref 56, .int p1, .int p2] (zq_en s) (zv_v v.1, zq_en v.2) := zq_MC_x [.ref 56, .int p1, .int p2, .null, .null] (by decide +kernel) rfl rfl (Nat.le_of_ble_eq_true rfl) (xX1_keepTimes N p1 p2 s) h
def jX1_addFromWithout_j47 (N : Nat)  (f1 : Int32) (k53 : zq_S → Option (Unit × zq_S)) (self : Int32 × zq_S → Option (Unit × zq_S)) (w2 : Int32) (s : zq_S) : Option (Unit × zq_S) :=
  zq_let (w2 + (1 : Int32)) (fun x3 =>
  self (x3, s))
set_option maxRecDepth 20000 in
set_option maxHeartbeats 2000000 in
theorem xX1_addFromWithout_j47_j (N : Nat)  (f1 : Int32) (k53 : zq_S → Option (Unit × zq_S)) (hk53 : ∀ e, zq_X yX1_addFromWithout RX1 cX1_addFromWithout 3 none ⟨1, 0, 0, 20⟩ zv_v 53 [.null, .null, .null] [] e (k53 e)) (self : Int32 × zq_S → Option (Unit × zq_S)) (hself : ∀ v, zq_X yX1_addFromWithout RX1 cX1_addFromWithout 3 none ⟨1, 0, 0, 20⟩ zv_v 2 [.ref 56, .int f1, .int v.1] [] v.2 (self v)) (w2 : Int32) (s : zq_S) : zq_X yX1_addFromWithout RX1 cX1_addFromWithout 3 none ⟨1, 0, 0, 20⟩ zv_v 47 [.ref 56, .int f1, .int w2] [] s (jX1_addFromWithout_j47 N f1 k53 self w2 s) := by
  unfold jX1_addFromWithout_j47
  refine zx_iinc (pc' := 50) (ls' := fun x3 => [.ref 56, .int f1, .int x3]) rfl rfl (by decide) rfl (fun _ => rfl) dX1_addFromWithout_47 rfl (fun x3 => ?_)
  refine zx_lift (pc' := 2) (fun _ => zq_goto dX1_addFromWithout_50 rfl) ?_
  exact hself (x3, s)
def bX1_addFromWithout_2 (N : Nat)  (f1 : Int32) (k53 : zq_S → Option (Unit × zq_S)) (self : Int32 × zq_S → Option (Unit × zq_S)) (v : Int32 × zq_S) : Option (Unit × zq_S) :=
  zq_b2 (mX3_full N v.2) (fun r1 s2 =>
  if r1 < v.1 then
  k53 s2
  else
  if (1024 : Int32) ≤ v.1 then
  k53 s2
  else
  if ((v.1 >>> (f1 &&& 31)) &&& (1 : Int32)) = (0 : Int32) then
  jX1_addFromWithout_j47 N f1 k53 self v.1 s2
  else
  zq_ck v.1 4096 (
  zq_ck (v.1 ^^^ ((1 : Int32) <<< (f1 &&& 31))) 4096 (
  zq_ck v.1 4096 (
  zq_let (zpl s2 1 v.1 ((zgl s2 1 v.1) + (zgl s2 1 (v.1 ^^^ ((1 : Int32) <<< (f1 &&& 31)))))) (fun s4 =>
  jX1_addFromWithout_j47 N f1 k53 self v.1 s4)))))
set_option maxRecDepth 20000 in
set_option maxHeartbeats 2000000 in
theorem xX1_addFromWithout_2 (N : Nat)  (f1 : Int32) (k53 : zq_S → Option (Unit × zq_S)) (hk53 : ∀ e, zq_X yX1_addFromWithout RX1 cX1_addFromWithout 3 none ⟨1, 0, 0, 20⟩ zv_v 53 [.null, .null, .null] [] e (k53 e)) (self : Int32 × zq_S → Option (Unit × zq_S)) (hself : ∀ v, zq_X yX1_addFromWithout RX1 cX1_addFromWithout 3 none ⟨1, 0, 0, 20⟩ zv_v 2 [.ref 56, .int f1, .int v.1] [] v.2 (self v)) (v : Int32 × zq_S) : zq_X yX1_addFromWithout RX1 cX1_addFromWithout 3 none ⟨1, 0, 0, 20⟩ zv_v 2 [.ref 56, .int f1, .int v.1] [] v.2 (bX1_addFromWithout_2 N f1 k53 self v) := by
  unfold bX1_addFromWithout_2
  refine zx_lift (pc' := 3) (fun _ => zq_iload_n rfl rfl dX1_addFromWithout_2 rfl) ?_
  refine zx_lift (pc' := 4) (fun _ => zq_aload_n rfl rfl dX1_addFromWithout_3 rfl) ?_
  refine zx_lift (pc' := 7) (fun _ => zt_getR zfr_X1_9 zfd_56_0 dX1_addFromWithout_4 rfl) ?_
  refine zx_cVi (pc' := 10) zcv_X1_105 (cX3_full_mc N v.2) zob_31 rfl (by decide) (Nat.le_of_ble_eq_true rfl) dX1_addFromWithout_7 rfl rfl (fun r1 s2 => ?_)
  refine zx_icmp_gt (pc' := 13) (tgt := 53) dX1_addFromWithout_10 rfl rfl (fun hc => ?_) (fun hc => ?_)
  · refine zx_less [.null, .null, .null] (zq_cz (zq_cz (zq_cz zq_cn))) ?_
    exact hk53 s2
  · refine zx_lift (pc' := 14) (fun _ => zq_iload_n rfl rfl dX1_addFromWithout_13 rfl) ?_
    refine zx_lift (pc' := 17) (fun _ => zq_sipush (v := 1024) dX1_addFromWithout_14 rfl rfl) ?_
    refine zx_icmp_ge (pc' := 20) (tgt := 53) dX1_addFromWithout_17 rfl rfl (fun hc => ?_) (fun hc => ?_)
    · refine zx_less [.null, .null, .null] (zq_cz (zq_cz (zq_cz zq_cn))) ?_
      exact hk53 s2
    · refine zx_lift (pc' := 21) (fun _ => zq_iload_n rfl rfl dX1_addFromWithout_20 rfl) ?_
      refine zx_lift (pc' := 22) (fun _ => zq_iload_n rfl rfl dX1_addFromWithout_21 rfl) ?_
      refine zx_lift (pc' := 23) (fun _ => zq_ishr dX1_addFromWithout_22 rfl) ?_
      refine zx_lift (pc' := 24) (fun _ => zq_iconst (v := 1) dX1_addFromWithout_23 rfl rfl) ?_
      refine zx_lift (pc' := 25) (fun _ => zq_iand dX1_addFromWithout_24 rfl) ?_
      refine zx_if_eq (pc' := 28) (tgt := 47) dX1_addFromWithout_25 rfl rfl (fun hc => ?_) (fun hc => ?_)
      · exact xX1_addFromWithout_j47_j N f1 k53 hk53 self hself v.1 s2
      · refine zx_lift (pc' := 29) (fun _ => zq_aload_n rfl rfl dX1_addFromWithout_28 rfl) ?_
        refine zx_lift (pc' := 32) (fun _ => zt_getR zfr_X1_27 zfd_56_4 dX1_addFromWithout_29 rfl) ?_
        refine zx_lift (pc' := 33) (fun _ => zq_iload_n rfl rfl dX1_addFromWithout_32 rfl) ?_
        refine zx_lift (pc' := 34) (fun _ => zq_dup2 rfl rfl dX1_addFromWithout_33 rfl) ?_
        refine zx_laload (pc' := 35) zsh_1 dX1_addFromWithout_34 rfl ?_
        refine zx_lift (pc' := 36) (fun _ => zq_aload_n rfl rfl dX1_addFromWithout_35 rfl) ?_
        refine zx_lift (pc' := 39) (fun _ => zt_getR zfr_X1_27 zfd_56_4 dX1_addFromWithout_36 rfl) ?_
        refine zx_lift (pc' := 40) (fun _ => zq_iload_n rfl rfl dX1_addFromWithout_39 rfl) ?_
        refine zx_lift (pc' := 41) (fun _ => zq_iconst (v := 1) dX1_addFromWithout_40 rfl rfl) ?_
        refine zx_lift (pc' := 42) (fun _ => zq_iload_n rfl rfl dX1_addFromWithout_41 rfl) ?_
        refine zx_lift (pc' := 43) (fun _ => zq_ishl dX1_addFromWithout_42 rfl) ?_
        refine zx_lift (pc' := 44) (fun _ => zq_ixor dX1_addFromWithout_43 rfl) ?_
        refine zx_laload (pc' := 45) zsh_1 dX1_addFromWithout_44 rfl ?_
        refine zx_lift (pc' := 46) (fun _ => zq_ladd dX1_addFromWithout_45 rfl) ?_
        refine zx_lastore (pc' := 47) zsh_1 dX1_addFromWithout_46 rfl (fun s4 => ?_)
        exact xX1_addFromWithout_j47_j N f1 k53 hk53 self hself v.1 s4
theorem yX1_addFromWithout_2 (N : Nat)  (f1 : Int32) (k53 : zq_S → Option (Unit × zq_S)) (hk53 : ∀ e, zq_X yX1_addFromWithout RX1 cX1_addFromWithout 3 none ⟨1, 0, 0, 20⟩ zv_v 53 [.null, .null, .null] [] e (k53 e)) (n : Nat) : ∀ v : Int32 × zq_S, zq_X yX1_addFromWithout RX1 cX1_addFromWithout 3 none ⟨1, 0, 0, 20⟩ zv_v 2 [.ref 56, .int f1, .int v.1] [] v.2 (zq_loop (bX1_addFromWithout_2 N f1 k53) n v) := by
  induction n with
  | zero => exact fun v u hu => by cases hu
  | succ n ih =>
    intro v
    rw [zq_loop_s]
    exact xX1_addFromWithout_2 N f1 k53 hk53 (zq_loop (bX1_addFromWithout_2 N f1 k53) n) ih v
def jX1_addFromWithout_j53 (N : Nat)    (s : zq_S) : Option (Unit × zq_S) :=
  some ((), s)
set_option maxRecDepth 20000 in
set_option maxHeartbeats 2000000 in
theorem xX1_addFromWithout_j53_j (N : Nat)    (s : zq_S) : zq_X yX1_addFromWithout RX1 cX1_addFromWithout 3 none ⟨1, 0, 0, 20⟩ zv_v 53 [.null, .null, .null] [] s (jX1_addFromWithout_j53 N s) := by
  unfold jX1_addFromWithout_j53
  exact zx_vret rfl dX1_addFromWithout_53
def mX1_addFromWithout (N : Nat)  (p1 : Int32) (s : zq_S) : Option (Unit × zq_S) :=
  zq_loop (bX1_addFromWithout_2 N p1 (fun e5 =>
  jX1_addFromWithout_j53 N e5)) N ((0 : Int32), s)
set_option maxRecDepth 20000 in
set_option maxHeartbeats 2000000 in
theorem xX1_addFromWithout (N : Nat)  (p1 : Int32) (s : zq_S) : zq_X yX1_addFromWithout RX1 cX1_addFromWithout 3 none ⟨1, 0, 0, 20⟩ zv_v 0 [.ref 56, .int p1, .null] [] s (mX1_addFromWithout N p1 s) := by
  unfold mX1_addFromWithout
  refine zx_lift (pc' := 1) (fun _ => zq_iconst (v := 0) dX1_addFromWithout_0 rfl rfl) ?_
  refine zx_lift (pc' := 2) (fun _ => zq_istore_n (ls' := [.ref 56, .int p1, .int (0 : Int32)]) rfl (by decide) rfl rfl dX1_addFromWithout_1 rfl) ?_
  refine yX1_addFromWithout_2 N p1 _ (fun e5 => ?_) N ((0 : Int32), s)
  exact xX1_addFromWithout_j53_j N e5
theorem cX1_addFromWithout_mc (N : Nat)  (p1 : Int32) (s : zq_S) (v : Unit × zq_S) (h : mX1_addFromWithout N p1 s = some v) : zq_MC yX1_addFromWithout cX1_addFromWithout 3 none ⟨1, 0, 0, 20⟩ 0 0 [.ref 56, .int p1] (zq_en s) (zv_v v.1, zq_en v.2) := zq_MC_x [.ref 56, .int p1, .null] (by decide +kernel) rfl rfl (Nat.le_of_ble_eq_true rfl) (xX1_addFromWithout N p1 s) h
def bX1_countUpTo_25 (N : Nat)  (f1 : Int32) (f2 : Int32) (k50 : zq_S → Option (Unit × zq_S)) (self : Int32 × zq_S → Option (Unit × zq_S)) (v : Int32 × zq_S) : Option (Unit × zq_S) :=
  if (zgf v.2 (zs (zgb v.2 3)) 7) ≤ v.1 then
  k50 v.2
  else
  zq_b2 (mX1_addFromWithout N v.1 v.2) (fun r5 s6 =>
  zq_let (v.1 + (1 : Int32)) (fun x7 =>
  self (x7, s6)))
set_option maxRecDepth 20000 in
set_option maxHeartbeats 2000000 in
theorem xX1_countUpTo_25 (N : Nat)  (f1 : Int32) (f2 : Int32) (k50 : zq_S → Option (Unit × zq_S)) (hk50 : ∀ e, zq_X yX1_countUpTo RX1 cX1_countUpTo 4 none ⟨4, 0, 0, 95⟩ zv_v 50 [.ref 56, .int f1, .int f2, .null] [] e (k50 e)) (self : Int32 × zq_S → Option (Unit × zq_S)) (hself : ∀ v, zq_X yX1_countUpTo RX1 cX1_countUpTo 4 none ⟨4, 0, 0, 95⟩ zv_v 25 [.ref 56, .int f1, .int f2, .int v.1] [] v.2 (self v)) (v : Int32 × zq_S) : zq_X yX1_countUpTo RX1 cX1_countUpTo 4 none ⟨4, 0, 0, 95⟩ zv_v 25 [.ref 56, .int f1, .int f2, .int v.1] [] v.2 (bX1_countUpTo_25 N f1 f2 k50 self v) := by
  unfold bX1_countUpTo_25
  refine zx_lift (pc' := 26) (fun _ => zq_iload_n rfl rfl dX1_countUpTo_25 rfl) ?_
  refine zx_lift (pc' := 27) (fun _ => zq_aload_n rfl rfl dX1_countUpTo_26 rfl) ?_
  refine zx_lift (pc' := 30) (fun _ => zt_getR zfr_X1_9 zfd_56_0 dX1_countUpTo_27 rfl) ?_
  refine zx_lift (pc' := 33) (fun _ => zt_getP zfr_X1_90 zfd_31_0 dX1_countUpTo_30 rfl) ?_
  refine zx_lift (pc' := 36) (fun _ => zt_getI zfr_X1_94 (zfd_s_7 (zgb v.2 3)) dX1_countUpTo_33 rfl) ?_
  refine zx_icmp_ge (pc' := 39) (tgt := 50) dX1_countUpTo_36 rfl rfl (fun hc => ?_) (fun hc => ?_)
  · refine zx_less [.ref 56, .int f1, .int f2, .null] (zq_cr (zq_cr (zq_cr (zq_cz zq_cn)))) ?_
    exact hk50 v.2
  · refine zx_lift (pc' := 40) (fun _ => zq_aload_n rfl rfl dX1_countUpTo_39 rfl) ?_
    refine zx_lift (pc' := 41) (fun _ => zq_iload_n rfl rfl dX1_countUpTo_40 rfl) ?_
    refine zx_cVv (pc' := 44) zcv_X1_99 (cX1_addFromWithout_mc N v.1 v.2) zob_56 rfl (by decide) (Nat.le_of_ble_eq_true rfl) dX1_countUpTo_41 rfl rfl (fun r5 s6 => ?_)
    refine zx_iinc (pc' := 47) (ls' := fun x7 => [.ref 56, .int f1, .int f2, .int x7]) rfl rfl (by decide) rfl (fun _ => rfl) dX1_countUpTo_44 rfl (fun x7 => ?_)
    refine zx_lift (pc' := 25) (fun _ => zq_goto dX1_countUpTo_47 rfl) ?_
    exact hself (x7, s6)
theorem yX1_countUpTo_25 (N : Nat)  (f1 : Int32) (f2 : Int32) (k50 : zq_S → Option (Unit × zq_S)) (hk50 : ∀ e, zq_X yX1_countUpTo RX1 cX1_countUpTo 4 none ⟨4, 0, 0, 95⟩ zv_v 50 [.ref 56, .int f1, .int f2, .null] [] e (k50 e)) (n : Nat) : ∀ v : Int32 × zq_S, zq_X yX1_countUpTo RX1 cX1_countUpTo 4 none ⟨4, 0, 0, 95⟩ zv_v 25 [.ref 56, .int f1, .int f2, .int v.1] [] v.2 (zq_loop (bX1_countUpTo_25 N f1 f2 k50) n v) := by
  induction n with
  | zero => exact fun v u hu => by cases hu
  | succ n ih =>
    intro v
    rw [zq_loop_s]
    exact xX1_countUpTo_25 N f1 f2 k50 hk50 (zq_loop (bX1_countUpTo_25 N f1 f2 k50) n) ih v
def bX1_countUpTo_13 (N : Nat)  (f1 : Int32) (k62 : zq_S → Option (Unit × zq_S)) (self : Int32 × zq_S → Option (Unit × zq_S)) (v : Int32 × zq_S) : Option (Unit × zq_S) :=
  if f1 < v.1 then
  k62 v.2
  else
  if (4 : Int32) ≤ v.1 then
  k62 v.2
  else
  zq_loop (bX1_countUpTo_25 N f1 v.1 (fun e8 =>
  zq_b2 (mX1_keepTimes N v.1 (0 : Int32) e8) (fun r9 s10 =>
  zq_let (v.1 + (1 : Int32)) (fun x11 =>
  self (x11, s10))))) N ((0 : Int32), v.2)
set_option maxRecDepth 20000 in
set_option maxHeartbeats 2000000 in
theorem xX1_countUpTo_13 (N : Nat)  (f1 : Int32) (k62 : zq_S → Option (Unit × zq_S)) (hk62 : ∀ e, zq_X yX1_countUpTo RX1 cX1_countUpTo 4 none ⟨4, 0, 0, 95⟩ zv_v 62 [.null, .null, .null, .null] [] e (k62 e)) (self : Int32 × zq_S → Option (Unit × zq_S)) (hself : ∀ v, zq_X yX1_countUpTo RX1 cX1_countUpTo 4 none ⟨4, 0, 0, 95⟩ zv_v 13 [.ref 56, .int f1, .int v.1, .null] [] v.2 (self v)) (v : Int32 × zq_S) : zq_X yX1_countUpTo RX1 cX1_countUpTo 4 none ⟨4, 0, 0, 95⟩ zv_v 13 [.ref 56, .int f1, .int v.1, .null] [] v.2 (bX1_countUpTo_13 N f1 k62 self v) := by
  unfold bX1_countUpTo_13
  refine zx_lift (pc' := 14) (fun _ => zq_iload_n rfl rfl dX1_countUpTo_13 rfl) ?_
  refine zx_lift (pc' := 15) (fun _ => zq_iload_n rfl rfl dX1_countUpTo_14 rfl) ?_
  refine zx_icmp_gt (pc' := 18) (tgt := 62) dX1_countUpTo_15 rfl rfl (fun hc => ?_) (fun hc => ?_)
  · refine zx_less [.null, .null, .null, .null] (zq_cz (zq_cz (zq_cz (zq_cz zq_cn)))) ?_
    exact hk62 v.2
  · refine zx_lift (pc' := 19) (fun _ => zq_iload_n rfl rfl dX1_countUpTo_18 rfl) ?_
    refine zx_lift (pc' := 20) (fun _ => zq_iconst (v := 4) dX1_countUpTo_19 rfl rfl) ?_
    refine zx_icmp_ge (pc' := 23) (tgt := 62) dX1_countUpTo_20 rfl rfl (fun hc => ?_) (fun hc => ?_)
    · refine zx_less [.null, .null, .null, .null] (zq_cz (zq_cz (zq_cz (zq_cz zq_cn)))) ?_
      exact hk62 v.2
    · refine zx_lift (pc' := 24) (fun _ => zq_iconst (v := 0) dX1_countUpTo_23 rfl rfl) ?_
      refine zx_lift (pc' := 25) (fun _ => zq_istore_n (ls' := [.ref 56, .int f1, .int v.1, .int (0 : Int32)]) rfl (by decide) rfl rfl dX1_countUpTo_24 rfl) ?_
      refine yX1_countUpTo_25 N f1 v.1 _ (fun e8 => ?_) N ((0 : Int32), v.2)
      refine zx_lift (pc' := 51) (fun _ => zq_aload_n rfl rfl dX1_countUpTo_50 rfl) ?_
      refine zx_lift (pc' := 52) (fun _ => zq_iload_n rfl rfl dX1_countUpTo_51 rfl) ?_
      refine zx_lift (pc' := 53) (fun _ => zq_iconst (v := 0) dX1_countUpTo_52 rfl rfl) ?_
      refine zx_cVv (pc' := 56) zcv_X1_86 (cX1_keepTimes_mc N v.1 (0 : Int32) e8) zob_56 rfl (by decide) (Nat.le_of_ble_eq_true rfl) dX1_countUpTo_53 rfl rfl (fun r9 s10 => ?_)
      refine zx_iinc (pc' := 59) (ls' := fun x11 => [.ref 56, .int f1, .int x11, .null]) rfl rfl (by decide) rfl (fun _ => rfl) dX1_countUpTo_56 rfl (fun x11 => ?_)
      refine zx_lift (pc' := 13) (fun _ => zq_goto dX1_countUpTo_59 rfl) ?_
      exact hself (x11, s10)
theorem yX1_countUpTo_13 (N : Nat)  (f1 : Int32) (k62 : zq_S → Option (Unit × zq_S)) (hk62 : ∀ e, zq_X yX1_countUpTo RX1 cX1_countUpTo 4 none ⟨4, 0, 0, 95⟩ zv_v 62 [.null, .null, .null, .null] [] e (k62 e)) (n : Nat) : ∀ v : Int32 × zq_S, zq_X yX1_countUpTo RX1 cX1_countUpTo 4 none ⟨4, 0, 0, 95⟩ zv_v 13 [.ref 56, .int f1, .int v.1, .null] [] v.2 (zq_loop (bX1_countUpTo_13 N f1 k62) n v) := by
  induction n with
  | zero => exact fun v u hu => by cases hu
  | succ n ih =>
    intro v
    rw [zq_loop_s]
    exact xX1_countUpTo_13 N f1 k62 hk62 (zq_loop (bX1_countUpTo_13 N f1 k62) n) ih v
def jX1_countUpTo_j62 (N : Nat)    (s : zq_S) : Option (Unit × zq_S) :=
  some ((), s)
set_option maxRecDepth 20000 in
set_option maxHeartbeats 2000000 in
theorem xX1_countUpTo_j62_j (N : Nat)    (s : zq_S) : zq_X yX1_countUpTo RX1 cX1_countUpTo 4 none ⟨4, 0, 0, 95⟩ zv_v 62 [.null, .null, .null, .null] [] s (jX1_countUpTo_j62 N s) := by
  unfold jX1_countUpTo_j62
  exact zx_vret rfl dX1_countUpTo_62
def mX1_countUpTo (N : Nat)  (p1 : Int32) (s : zq_S) : Option (Unit × zq_S) :=
  zq_b2 (mX1_allowAll N (0 : Int32) s) (fun r1 s2 =>
  zq_b2 (mX1_keepTimes N (0 : Int32) (0 : Int32) s2) (fun r3 s4 =>
  zq_loop (bX1_countUpTo_13 N p1 (fun e12 =>
  jX1_countUpTo_j62 N e12)) N ((1 : Int32), s4)))
set_option maxRecDepth 20000 in
set_option maxHeartbeats 2000000 in
theorem xX1_countUpTo (N : Nat)  (p1 : Int32) (s : zq_S) : zq_X yX1_countUpTo RX1 cX1_countUpTo 4 none ⟨4, 0, 0, 95⟩ zv_v 0 [.ref 56, .int p1, .null, .null] [] s (mX1_countUpTo N p1 s) := by
  unfold mX1_countUpTo
  refine zx_lift (pc' := 1) (fun _ => zq_aload_n rfl rfl dX1_countUpTo_0 rfl) ?_
  refine zx_lift (pc' := 2) (fun _ => zq_iconst (v := 0) dX1_countUpTo_1 rfl rfl) ?_
  refine zx_cVv (pc' := 5) zcv_X1_83 (cX1_allowAll_mc N (0 : Int32) s) zob_56 rfl (by decide) (Nat.le_of_ble_eq_true rfl) dX1_countUpTo_2 rfl rfl (fun r1 s2 => ?_)
  refine zx_lift (pc' := 6) (fun _ => zq_aload_n rfl rfl dX1_countUpTo_5 rfl) ?_
  refine zx_lift (pc' := 7) (fun _ => zq_iconst (v := 0) dX1_countUpTo_6 rfl rfl) ?_
  refine zx_lift (pc' := 8) (fun _ => zq_iconst (v := 0) dX1_countUpTo_7 rfl rfl) ?_
  refine zx_cVv (pc' := 11) zcv_X1_86 (cX1_keepTimes_mc N (0 : Int32) (0 : Int32) s2) zob_56 rfl (by decide) (Nat.le_of_ble_eq_true rfl) dX1_countUpTo_8 rfl rfl (fun r3 s4 => ?_)
  refine zx_lift (pc' := 12) (fun _ => zq_iconst (v := 1) dX1_countUpTo_11 rfl rfl) ?_
  refine zx_lift (pc' := 13) (fun _ => zq_istore_n (ls' := [.ref 56, .int p1, .int (1 : Int32), .null]) rfl (by decide) rfl rfl dX1_countUpTo_12 rfl) ?_
  refine yX1_countUpTo_13 N p1 _ (fun e12 => ?_) N ((1 : Int32), s4)
  exact xX1_countUpTo_j62_j N e12
theorem cX1_countUpTo_mc (N : Nat)  (p1 : Int32) (s : zq_S) (v : Unit × zq_S) (h : mX1_countUpTo N p1 s = some v) : zq_MC yX1_countUpTo cX1_countUpTo 4 none ⟨4, 0, 0, 95⟩ 0 0 [.ref 56, .int p1] (zq_en s) (zv_v v.1, zq_en v.2) := zq_MC_x [.ref 56, .int p1, .null, .null] (by decide +kernel) rfl rfl (Nat.le_of_ble_eq_true rfl) (xX1_countUpTo N p1 s) h
def bX1_rowsOfTimes_23 (N : Nat)    (self : Int64 × Int32 × zq_S → Option (Int64 × zq_S)) (v : Int64 × Int32 × zq_S) : Option (Int64 × zq_S) :=
  zq_b2 (mX3_goodCount N v.2.2) (fun r3 s4 =>
  if r3 ≤ v.2.1 then
  some (v.1, s4)
  else
  zq_b2 (mX3_goodAt N v.2.1 s4) (fun r5 s6 =>
  zq_ck r5 4096 (
  zq_let (v.1 + (zgl s6 1 r5)) (fun x7 =>
  zq_let (v.2.1 + (1 : Int32)) (fun x8 =>
  self (x7, x8, s6))))))
set_option maxRecDepth 20000 in
set_option maxHeartbeats 2000000 in
theorem xX1_rowsOfTimes_23 (N : Nat)    (self : Int64 × Int32 × zq_S → Option (Int64 × zq_S)) (hself : ∀ v, zq_X yX1_rowsOfTimes RX1 cX1_rowsOfTimes 4 (some .long) ⟨5, 0, 0, 118⟩ zv_l 23 [.ref 56, .long v.1, .null, .int v.2.1] [] v.2.2 (self v)) (v : Int64 × Int32 × zq_S) : zq_X yX1_rowsOfTimes RX1 cX1_rowsOfTimes 4 (some .long) ⟨5, 0, 0, 118⟩ zv_l 23 [.ref 56, .long v.1, .null, .int v.2.1] [] v.2.2 (bX1_rowsOfTimes_23 N self v) := by
  unfold bX1_rowsOfTimes_23
  refine zx_lift (pc' := 24) (fun _ => zq_iload_n rfl rfl dX1_rowsOfTimes_23 rfl) ?_
  refine zx_lift (pc' := 25) (fun _ => zq_aload_n rfl rfl dX1_rowsOfTimes_24 rfl) ?_
  refine zx_lift (pc' := 28) (fun _ => zt_getR zfr_X1_9 zfd_56_0 dX1_rowsOfTimes_25 rfl) ?_
  refine zx_cVi (pc' := 31) zcv_X1_47 (cX3_goodCount_mc N v.2.2) zob_31 rfl (by decide) (Nat.le_of_ble_eq_true rfl) dX1_rowsOfTimes_28 rfl rfl (fun r3 s4 => ?_)
  refine zx_icmp_ge (pc' := 34) (tgt := 56) dX1_rowsOfTimes_31 rfl rfl (fun hc => ?_) (fun hc => ?_)
  · refine zx_lift (pc' := 57) (fun _ => zq_lload_n rfl rfl dX1_rowsOfTimes_56 rfl) ?_
    exact zx_lret rfl dX1_rowsOfTimes_57
  · refine zx_lift (pc' := 35) (fun _ => zq_lload_n rfl rfl dX1_rowsOfTimes_34 rfl) ?_
    refine zx_lift (pc' := 36) (fun _ => zq_aload_n rfl rfl dX1_rowsOfTimes_35 rfl) ?_
    refine zx_lift (pc' := 39) (fun _ => zt_getR zfr_X1_27 zfd_56_4 dX1_rowsOfTimes_36 rfl) ?_
    refine zx_lift (pc' := 40) (fun _ => zq_aload_n rfl rfl dX1_rowsOfTimes_39 rfl) ?_
    refine zx_lift (pc' := 43) (fun _ => zt_getR zfr_X1_9 zfd_56_0 dX1_rowsOfTimes_40 rfl) ?_
    refine zx_lift (pc' := 44) (fun _ => zq_iload_n rfl rfl dX1_rowsOfTimes_43 rfl) ?_
    refine zx_cVi (pc' := 47) zcv_X1_53 (cX3_goodAt_mc N v.2.1 s4) zob_31 rfl (by decide) (Nat.le_of_ble_eq_true rfl) dX1_rowsOfTimes_44 rfl rfl (fun r5 s6 => ?_)
    refine zx_laload (pc' := 48) zsh_1 dX1_rowsOfTimes_47 rfl ?_
    refine zx_lift (pc' := 49) (fun _ => zq_ladd dX1_rowsOfTimes_48 rfl) ?_
    refine zx_lstore_n (pc' := 50) (ls' := fun x7 => [.ref 56, .long x7, .null, .int v.2.1]) rfl (by decide) rfl (fun _ => rfl) dX1_rowsOfTimes_49 rfl (fun x7 => ?_)
    refine zx_iinc (pc' := 53) (ls' := fun x8 => [.ref 56, .long x7, .null, .int x8]) rfl rfl (by decide) rfl (fun _ => rfl) dX1_rowsOfTimes_50 rfl (fun x8 => ?_)
    refine zx_lift (pc' := 23) (fun _ => zq_goto dX1_rowsOfTimes_53 rfl) ?_
    exact hself (x7, x8, s6)
theorem yX1_rowsOfTimes_23 (N : Nat)    (n : Nat) : ∀ v : Int64 × Int32 × zq_S, zq_X yX1_rowsOfTimes RX1 cX1_rowsOfTimes 4 (some .long) ⟨5, 0, 0, 118⟩ zv_l 23 [.ref 56, .long v.1, .null, .int v.2.1] [] v.2.2 (zq_loop (bX1_rowsOfTimes_23 N ) n v) := by
  induction n with
  | zero => exact fun v u hu => by cases hu
  | succ n ih =>
    intro v
    rw [zq_loop_s]
    exact xX1_rowsOfTimes_23 N  (zq_loop (bX1_rowsOfTimes_23 N ) n) ih v
def mX1_rowsOfTimes (N : Nat)   (s : zq_S) : Option (Int64 × zq_S) :=
  if (zgf s 56 5) = (0 : Int32) then
  some ((1 : Int64), s)
  else
  zq_b2 (mX1_countUpTo N ((zgf s 56 5) - (1 : Int32)) s) (fun r1 s2 =>
  zq_loop (bX1_rowsOfTimes_23 N ) N ((0 : Int64), (0 : Int32), s2))
set_option maxRecDepth 20000 in
set_option maxHeartbeats 2000000 in
theorem xX1_rowsOfTimes (N : Nat)   (s : zq_S) : zq_X yX1_rowsOfTimes RX1 cX1_rowsOfTimes 4 (some .long) ⟨5, 0, 0, 118⟩ zv_l 0 [.ref 56, .null, .null, .null] [] s (mX1_rowsOfTimes N s) := by
  unfold mX1_rowsOfTimes
  refine zx_lift (pc' := 1) (fun _ => zq_aload_n rfl rfl dX1_rowsOfTimes_0 rfl) ?_
  refine zx_lift (pc' := 4) (fun _ => zt_getI zfr_X1_31 zfd_56_5 dX1_rowsOfTimes_1 rfl) ?_
  refine zx_if_ne (pc' := 7) (tgt := 9) dX1_rowsOfTimes_4 rfl rfl (fun hc => ?_) (fun hc => ?_)
  · refine zx_lift (pc' := 10) (fun _ => zq_aload_n rfl rfl dX1_rowsOfTimes_9 rfl) ?_
    refine zx_lift (pc' := 11) (fun _ => zq_aload_n rfl rfl dX1_rowsOfTimes_10 rfl) ?_
    refine zx_lift (pc' := 14) (fun _ => zt_getI zfr_X1_31 zfd_56_5 dX1_rowsOfTimes_11 rfl) ?_
    refine zx_lift (pc' := 15) (fun _ => zq_iconst (v := 1) dX1_rowsOfTimes_14 rfl rfl) ?_
    refine zx_lift (pc' := 16) (fun _ => zq_isub dX1_rowsOfTimes_15 rfl) ?_
    refine zx_cVv (pc' := 19) zcv_X1_61 (cX1_countUpTo_mc N ((zgf s 56 5) - (1 : Int32)) s) zob_56 rfl (by decide) (Nat.le_of_ble_eq_true rfl) dX1_rowsOfTimes_16 rfl rfl (fun r1 s2 => ?_)
    refine zx_lift (pc' := 20) (fun _ => zq_lconst (v := 0) dX1_rowsOfTimes_19 rfl rfl) ?_
    refine zx_lift (pc' := 21) (fun _ => zq_lstore_n (ls' := [.ref 56, .long (0 : Int64), .null, .null]) rfl (by decide) rfl rfl dX1_rowsOfTimes_20 rfl) ?_
    refine zx_lift (pc' := 22) (fun _ => zq_iconst (v := 0) dX1_rowsOfTimes_21 rfl rfl) ?_
    refine zx_lift (pc' := 23) (fun _ => zq_istore_n (ls' := [.ref 56, .long (0 : Int64), .null, .int (0 : Int32)]) rfl (by decide) rfl rfl dX1_rowsOfTimes_22 rfl) ?_
    refine yX1_rowsOfTimes_23 N  N ((0 : Int64), (0 : Int32), s2)
  · refine zx_lift (pc' := 8) (fun _ => zq_lconst (v := 1) dX1_rowsOfTimes_7 rfl rfl) ?_
    exact zx_lret rfl dX1_rowsOfTimes_8
theorem cX1_rowsOfTimes_mc (N : Nat)   (s : zq_S) (v : Int64 × zq_S) (h : mX1_rowsOfTimes N s = some v) : zq_MC yX1_rowsOfTimes cX1_rowsOfTimes 4 (some .long) ⟨5, 0, 0, 118⟩ 0 0 [.ref 56] (zq_en s) (zv_l v.1, zq_en v.2) := zq_MC_x [.ref 56, .null, .null, .null] (by decide +kernel) rfl rfl (Nat.le_of_ble_eq_true rfl) (xX1_rowsOfTimes N s) h
def mX11_holds (N : Nat)   (s : zq_S) : Option (Int64 × zq_S) :=
  zq_b2 (mX1_rowsOfTimes N s) (fun r1 s2 =>
  some (r1, s2))
set_option maxRecDepth 20000 in
set_option maxHeartbeats 2000000 in
theorem xX11_holds (N : Nat)   (s : zq_S) : zq_X yX11_holds RX11 cX11_holds 1 (some .long) ⟨6, 0, 0, 141⟩ zv_l 0 [.ref 0] [] s (mX11_holds N s) := by
  unfold mX11_holds
  refine zx_lift (pc' := 1) (fun _ => zq_aload_n rfl rfl dX11_holds_0 rfl) ?_
  refine zx_lift (pc' := 4) (fun _ => zt_getR zfr_X11_95 zfd_0_8 dX11_holds_1 rfl) ?_
  refine zx_cVl (pc' := 7) zcv_X11_280 (cX1_rowsOfTimes_mc N s) zob_56 rfl (by decide) (Nat.le_of_ble_eq_true rfl) dX11_holds_4 rfl rfl (fun r1 s2 => ?_)
  exact zx_lret rfl dX11_holds_7
theorem cX11_holds_mc (N : Nat)   (s : zq_S) (v : Int64 × zq_S) (h : mX11_holds N s = some v) : zq_MC yX11_holds cX11_holds 1 (some .long) ⟨6, 0, 0, 141⟩ 0 0 [.ref 0] (zq_en s) (zv_l v.1, zq_en v.2) := zq_MC_x [.ref 0] (by decide +kernel) rfl rfl (Nat.le_of_ble_eq_true rfl) (xX11_holds N s) h
def mX9_alike (N : Nat)  (p1 : Int32) (p2 : Int32) (s : zq_S) : Option (Int32 × zq_S) :=
  zq_b2 (mX9_with N p1 s) (fun r1 s2 =>
  zq_b2 (mX9_with N p2 s2) (fun r3 s4 =>
  zq_b2 (mX8_isAlike N false false p1 p2 s4) (fun r5 s6 =>
  zq_bz r5 (some (r5, s6)))))
set_option maxRecDepth 20000 in
set_option maxHeartbeats 2000000 in
theorem xX9_alike (N : Nat)  (p1 : Int32) (p2 : Int32) (s : zq_S) : zq_X yX9_alike RX9 cX9_alike 3 (some .boolean) ⟨3, 0, 0, 71⟩ zv_i 0 [.ref 38, .int p1, .int p2] [] s (mX9_alike N p1 p2 s) := by
  unfold mX9_alike
  refine zx_lift (pc' := 1) (fun _ => zq_aload_n rfl rfl dX9_alike_0 rfl) ?_
  refine zx_lift (pc' := 2) (fun _ => zq_iload_n rfl rfl dX9_alike_1 rfl) ?_
  refine zx_cVw (pc' := 5) zcv_X9_37 (cX9_with_mc N p1 s) zob_38 rfl (by decide) (Nat.le_of_ble_eq_true rfl) dX9_alike_2 rfl rfl (fun r1 s2 => ?_)
  refine zx_lift (pc' := 6) (fun _ => zq_pop rfl dX9_alike_5 rfl) ?_
  refine zx_lift (pc' := 7) (fun _ => zq_aload_n rfl rfl dX9_alike_6 rfl) ?_
  refine zx_lift (pc' := 8) (fun _ => zq_iload_n rfl rfl dX9_alike_7 rfl) ?_
  refine zx_cVw (pc' := 11) zcv_X9_37 (cX9_with_mc N p2 s2) zob_38 rfl (by decide) (Nat.le_of_ble_eq_true rfl) dX9_alike_8 rfl rfl (fun r3 s4 => ?_)
  refine zx_lift (pc' := 12) (fun _ => zq_iload_n rfl rfl dX9_alike_11 rfl) ?_
  refine zx_lift (pc' := 13) (fun _ => zq_aload_n rfl rfl dX9_alike_12 rfl) ?_
  refine zx_lift (pc' := 16) (fun _ => zt_getR zfr_X9_14 zfd_38_0 dX9_alike_13 rfl) ?_
  refine zx_lift (pc' := 17) (fun _ => zq_iload_n rfl rfl dX9_alike_16 rfl) ?_
  refine zx_cVi (pc' := 20) zcv_X9_41 (cX8_isAlike_mc N false false p1 p2 s4) (zob_f false) rfl (by decide) (Nat.le_of_ble_eq_true rfl) dX9_alike_17 rfl rfl (fun r5 s6 => ?_)
  exact zx_zretg rfl dX9_alike_20
theorem cX9_alike_mc (N : Nat)  (p1 : Int32) (p2 : Int32) (s : zq_S) (v : Int32 × zq_S) (h : mX9_alike N p1 p2 s = some v) : zq_MC yX9_alike cX9_alike 3 (some .boolean) ⟨3, 0, 0, 71⟩ 0 0 [.ref 38, .int p1, .int p2] (zq_en s) (zv_i v.1, zq_en v.2) := zq_MC_x [.ref 38, .int p1, .int p2] (by decide +kernel) rfl rfl (Nat.le_of_ble_eq_true rfl) (xX9_alike N p1 p2 s) h
def jX11_neverChanges_j55 (N : Nat)  (f1 : Int32)  (self : Int32 × zq_S → Option (Int32 × zq_S)) (w2 : Int32) (s : zq_S) : Option (Int32 × zq_S) :=
  zq_let (w2 + (1 : Int32)) (fun x7 =>
  self (x7, s))
set_option maxRecDepth 20000 in
set_option maxHeartbeats 2000000 in
theorem xX11_neverChanges_j55_j (N : Nat)  (f1 : Int32)  (self : Int32 × zq_S → Option (Int32 × zq_S)) (hself : ∀ v, zq_X yX11_neverChanges RX11 cX11_neverChanges 4 (some .boolean) ⟨4, 0, 0, 93⟩ zv_i 2 [.ref 0, .int f1, .int v.1, .null] [] v.2 (self v)) (w2 : Int32) (s : zq_S) : zq_X yX11_neverChanges RX11 cX11_neverChanges 4 (some .boolean) ⟨4, 0, 0, 93⟩ zv_i 55 [.ref 0, .int f1, .int w2, .null] [] s (jX11_neverChanges_j55 N f1 self w2 s) := by
  unfold jX11_neverChanges_j55
  refine zx_iinc (pc' := 58) (ls' := fun x7 => [.ref 0, .int f1, .int x7, .null]) rfl rfl (by decide) rfl (fun _ => rfl) dX11_neverChanges_55 rfl (fun x7 => ?_)
  refine zx_lift (pc' := 2) (fun _ => zq_goto dX11_neverChanges_58 rfl) ?_
  exact hself (x7, s)
def bX11_neverChanges_2 (N : Nat)  (f1 : Int32)  (self : Int32 × zq_S → Option (Int32 × zq_S)) (v : Int32 × zq_S) : Option (Int32 × zq_S) :=
  zq_b2 (mX3_goodCount N v.2) (fun r1 s2 =>
  if r1 ≤ v.1 then
  some ((1 : Int32), s2)
  else
  zq_b2 (mX3_goodAt N v.1 s2) (fun r3 s4 =>
  zq_b2 (mX3_following N r3 s4) (fun r5 s6 =>
  if ((r5 >>> (f1 &&& 31)) &&& (1 : Int32)) = (0 : Int32) then
  jX11_neverChanges_j55 N f1 self v.1 s6
  else
  zq_b2 (mX9_alike N r3 (r3 ||| ((1 : Int32) <<< (f1 &&& 31))) s6) (fun r8 s9 =>
  if r8 = (0 : Int32) then
  some ((0 : Int32), s9)
  else
  jX11_neverChanges_j55 N f1 self v.1 s9))))
set_option maxRecDepth 20000 in
set_option maxHeartbeats 2000000 in
theorem xX11_neverChanges_2 (N : Nat)  (f1 : Int32)  (self : Int32 × zq_S → Option (Int32 × zq_S)) (hself : ∀ v, zq_X yX11_neverChanges RX11 cX11_neverChanges 4 (some .boolean) ⟨4, 0, 0, 93⟩ zv_i 2 [.ref 0, .int f1, .int v.1, .null] [] v.2 (self v)) (v : Int32 × zq_S) : zq_X yX11_neverChanges RX11 cX11_neverChanges 4 (some .boolean) ⟨4, 0, 0, 93⟩ zv_i 2 [.ref 0, .int f1, .int v.1, .null] [] v.2 (bX11_neverChanges_2 N f1 self v) := by
  unfold bX11_neverChanges_2
  refine zx_lift (pc' := 3) (fun _ => zq_iload_n rfl rfl dX11_neverChanges_2 rfl) ?_
  refine zx_lift (pc' := 4) (fun _ => zq_aload_n rfl rfl dX11_neverChanges_3 rfl) ?_
  refine zx_lift (pc' := 7) (fun _ => zt_getR zfr_X11_31 zfd_0_1 dX11_neverChanges_4 rfl) ?_
  refine zx_cVi (pc' := 10) zcv_X11_183 (cX3_goodCount_mc N v.2) zob_31 rfl (by decide) (Nat.le_of_ble_eq_true rfl) dX11_neverChanges_7 rfl rfl (fun r1 s2 => ?_)
  refine zx_icmp_ge (pc' := 13) (tgt := 61) dX11_neverChanges_10 rfl rfl (fun hc => ?_) (fun hc => ?_)
  · refine zx_lift (pc' := 62) (fun _ => zq_iconst (v := 1) dX11_neverChanges_61 rfl rfl) ?_
    exact zx_zret rfl (by decide) dX11_neverChanges_62
  · refine zx_lift (pc' := 14) (fun _ => zq_aload_n rfl rfl dX11_neverChanges_13 rfl) ?_
    refine zx_lift (pc' := 17) (fun _ => zt_getR zfr_X11_31 zfd_0_1 dX11_neverChanges_14 rfl) ?_
    refine zx_lift (pc' := 18) (fun _ => zq_iload_n rfl rfl dX11_neverChanges_17 rfl) ?_
    refine zx_cVi (pc' := 21) zcv_X11_186 (cX3_goodAt_mc N v.1 s2) zob_31 rfl (by decide) (Nat.le_of_ble_eq_true rfl) dX11_neverChanges_18 rfl rfl (fun r3 s4 => ?_)
    refine zx_lift (pc' := 22) (fun _ => zq_istore_n (ls' := [.ref 0, .int f1, .int v.1, .int r3]) rfl (by decide) rfl rfl dX11_neverChanges_21 rfl) ?_
    refine zx_lift (pc' := 23) (fun _ => zq_aload_n rfl rfl dX11_neverChanges_22 rfl) ?_
    refine zx_lift (pc' := 26) (fun _ => zt_getR zfr_X11_31 zfd_0_1 dX11_neverChanges_23 rfl) ?_
    refine zx_lift (pc' := 27) (fun _ => zq_iload_n rfl rfl dX11_neverChanges_26 rfl) ?_
    refine zx_cVi (pc' := 30) zcv_X11_192 (cX3_following_mc N r3 s4) zob_31 rfl (by decide) (Nat.le_of_ble_eq_true rfl) dX11_neverChanges_27 rfl rfl (fun r5 s6 => ?_)
    refine zx_lift (pc' := 31) (fun _ => zq_iload_n rfl rfl dX11_neverChanges_30 rfl) ?_
    refine zx_lift (pc' := 32) (fun _ => zq_ishr dX11_neverChanges_31 rfl) ?_
    refine zx_lift (pc' := 33) (fun _ => zq_iconst (v := 1) dX11_neverChanges_32 rfl rfl) ?_
    refine zx_lift (pc' := 34) (fun _ => zq_iand dX11_neverChanges_33 rfl) ?_
    refine zx_if_eq (pc' := 37) (tgt := 55) dX11_neverChanges_34 rfl rfl (fun hc => ?_) (fun hc => ?_)
    · refine zx_less [.ref 0, .int f1, .int v.1, .null] (zq_cr (zq_cr (zq_cr (zq_cz zq_cn)))) ?_
      exact xX11_neverChanges_j55_j N f1 self hself v.1 s6
    · refine zx_lift (pc' := 38) (fun _ => zq_aload_n rfl rfl dX11_neverChanges_37 rfl) ?_
      refine zx_lift (pc' := 41) (fun _ => zt_getR zfr_X11_38 zfd_0_2 dX11_neverChanges_38 rfl) ?_
      refine zx_lift (pc' := 42) (fun _ => zq_iload_n rfl rfl dX11_neverChanges_41 rfl) ?_
      refine zx_lift (pc' := 43) (fun _ => zq_iload_n rfl rfl dX11_neverChanges_42 rfl) ?_
      refine zx_lift (pc' := 44) (fun _ => zq_iconst (v := 1) dX11_neverChanges_43 rfl rfl) ?_
      refine zx_lift (pc' := 45) (fun _ => zq_iload_n rfl rfl dX11_neverChanges_44 rfl) ?_
      refine zx_lift (pc' := 46) (fun _ => zq_ishl dX11_neverChanges_45 rfl) ?_
      refine zx_lift (pc' := 47) (fun _ => zq_ior dX11_neverChanges_46 rfl) ?_
      refine zx_cVi (pc' := 50) zcv_X11_309 (cX9_alike_mc N r3 (r3 ||| ((1 : Int32) <<< (f1 &&& 31))) s6) zob_38 rfl (by decide) (Nat.le_of_ble_eq_true rfl) dX11_neverChanges_47 rfl rfl (fun r8 s9 => ?_)
      refine zx_if_ne (pc' := 53) (tgt := 55) dX11_neverChanges_50 rfl rfl (fun hc => ?_) (fun hc => ?_)
      · refine zx_less [.ref 0, .int f1, .int v.1, .null] (zq_cr (zq_cr (zq_cr (zq_cz zq_cn)))) ?_
        exact xX11_neverChanges_j55_j N f1 self hself v.1 s9
      · refine zx_lift (pc' := 54) (fun _ => zq_iconst (v := 0) dX11_neverChanges_53 rfl rfl) ?_
        exact zx_zret rfl (by decide) dX11_neverChanges_54
theorem yX11_neverChanges_2 (N : Nat)  (f1 : Int32)  (n : Nat) : ∀ v : Int32 × zq_S, zq_X yX11_neverChanges RX11 cX11_neverChanges 4 (some .boolean) ⟨4, 0, 0, 93⟩ zv_i 2 [.ref 0, .int f1, .int v.1, .null] [] v.2 (zq_loop (bX11_neverChanges_2 N f1 ) n v) := by
  induction n with
  | zero => exact fun v u hu => by cases hu
  | succ n ih =>
    intro v
    rw [zq_loop_s]
    exact xX11_neverChanges_2 N f1  (zq_loop (bX11_neverChanges_2 N f1 ) n) ih v
def mX11_neverChanges (N : Nat)  (p1 : Int32) (s : zq_S) : Option (Int32 × zq_S) :=
  zq_loop (bX11_neverChanges_2 N p1 ) N ((0 : Int32), s)
set_option maxRecDepth 20000 in
set_option maxHeartbeats 2000000 in
theorem xX11_neverChanges (N : Nat)  (p1 : Int32) (s : zq_S) : zq_X yX11_neverChanges RX11 cX11_neverChanges 4 (some .boolean) ⟨4, 0, 0, 93⟩ zv_i 0 [.ref 0, .int p1, .null, .null] [] s (mX11_neverChanges N p1 s) := by
  unfold mX11_neverChanges
  refine zx_lift (pc' := 1) (fun _ => zq_iconst (v := 0) dX11_neverChanges_0 rfl rfl) ?_
  refine zx_lift (pc' := 2) (fun _ => zq_istore_n (ls' := [.ref 0, .int p1, .int (0 : Int32), .null]) rfl (by decide) rfl rfl dX11_neverChanges_1 rfl) ?_
  refine yX11_neverChanges_2 N p1  N ((0 : Int32), s)
theorem cX11_neverChanges_mc (N : Nat)  (p1 : Int32) (s : zq_S) (v : Int32 × zq_S) (h : mX11_neverChanges N p1 s = some v) : zq_MC yX11_neverChanges cX11_neverChanges 4 (some .boolean) ⟨4, 0, 0, 93⟩ 0 0 [.ref 0, .int p1] (zq_en s) (zv_i v.1, zq_en v.2) := zq_MC_x [.ref 0, .int p1, .null, .null] (by decide +kernel) rfl rfl (Nat.le_of_ble_eq_true rfl) (xX11_neverChanges N p1 s) h
def bX11_idle_4 (N : Nat)    (self : Int32 × Int32 × zq_S → Option (Int32 × zq_S)) (v : Int32 × Int32 × zq_S) : Option (Int32 × zq_S) :=
  if (zgf v.2.2 (zs (zgb v.2.2 0)) 7) ≤ v.2.1 then
  some (v.1, v.2.2)
  else
  zq_b2 (mX11_neverChanges N v.2.1 v.2.2) (fun r1 s2 =>
  zq_let (if r1 = (0 : Int32) then v.1 else (v.1 ||| ((1 : Int32) <<< (v.2.1 &&& 31)))) (fun x3 =>
  zq_let (v.2.1 + (1 : Int32)) (fun x4 =>
  self (x3, x4, s2))))
set_option maxRecDepth 20000 in
set_option maxHeartbeats 2000000 in
theorem xX11_idle_4 (N : Nat)    (self : Int32 × Int32 × zq_S → Option (Int32 × zq_S)) (hself : ∀ v, zq_X yX11_idle RX11 cX11_idle 3 (some .int) ⟨5, 0, 0, 116⟩ zv_i 4 [.ref 0, .int v.1, .int v.2.1] [] v.2.2 (self v)) (v : Int32 × Int32 × zq_S) : zq_X yX11_idle RX11 cX11_idle 3 (some .int) ⟨5, 0, 0, 116⟩ zv_i 4 [.ref 0, .int v.1, .int v.2.1] [] v.2.2 (bX11_idle_4 N self v) := by
  unfold bX11_idle_4
  refine zx_lift (pc' := 5) (fun _ => zq_iload_n rfl rfl dX11_idle_4 rfl) ?_
  refine zx_lift (pc' := 6) (fun _ => zq_aload_n rfl rfl dX11_idle_5 rfl) ?_
  refine zx_lift (pc' := 9) (fun _ => zt_getP zfr_X11_12 zfd_0_10 dX11_idle_6 rfl) ?_
  refine zx_lift (pc' := 12) (fun _ => zt_getI zfr_X11_120 (zfd_s_7 (zgb v.2.2 0)) dX11_idle_9 rfl) ?_
  refine zx_icmp_ge (pc' := 15) (tgt := 35) dX11_idle_12 rfl rfl (fun hc => ?_) (fun hc => ?_)
  · refine zx_lift (pc' := 36) (fun _ => zq_iload_n rfl rfl dX11_idle_35 rfl) ?_
    exact zx_iret rfl dX11_idle_36
  · refine zx_lift (pc' := 16) (fun _ => zq_aload_n rfl rfl dX11_idle_15 rfl) ?_
    refine zx_lift (pc' := 17) (fun _ => zq_iload_n rfl rfl dX11_idle_16 rfl) ?_
    refine zx_cVi (pc' := 20) zcv_X11_243 (cX11_neverChanges_mc N v.2.1 v.2.2) zob_0 rfl (by decide) (Nat.le_of_ble_eq_true rfl) dX11_idle_17 rfl rfl (fun r1 s2 => ?_)
    refine zx_tern (pcJ := 29) (lsJ := fun x3 => [.ref 0, .int x3, .int v.2.1]) (stJ := fun x3 => []) (fun x3 => ?_) (fun f hJ => ?_)
    rotate_left
    · refine zx_lif_eq (pc' := 23) (tgt := 29) dX11_idle_20 rfl rfl (fun _ => ?_) (fun _ => ?_)
      · exact zx_lessJ (zq_cr (zq_cr (zq_cr zq_cn))) (hJ _)
      · refine zx_lift (pc' := 24) (fun _ => zq_iload_n rfl rfl dX11_idle_23 rfl) ?_
        refine zx_lift (pc' := 25) (fun _ => zq_iconst (v := 1) dX11_idle_24 rfl rfl) ?_
        refine zx_lift (pc' := 26) (fun _ => zq_iload_n rfl rfl dX11_idle_25 rfl) ?_
        refine zx_lift (pc' := 27) (fun _ => zq_ishl dX11_idle_26 rfl) ?_
        refine zx_lift (pc' := 28) (fun _ => zq_ior dX11_idle_27 rfl) ?_
        refine zx_lift (pc' := 29) (fun _ => zq_istore_n (ls' := [.ref 0, .int (v.1 ||| ((1 : Int32) <<< (v.2.1 &&& 31))), .int v.2.1]) rfl (by decide) rfl rfl dX11_idle_28 rfl) ?_
        exact zx_lessJ (zq_cr (zq_cr (zq_cr zq_cn))) (hJ _)
    refine zx_iinc (pc' := 32) (ls' := fun x4 => [.ref 0, .int x3, .int x4]) rfl rfl (by decide) rfl (fun _ => rfl) dX11_idle_29 rfl (fun x4 => ?_)
    refine zx_lift (pc' := 4) (fun _ => zq_goto dX11_idle_32 rfl) ?_
    exact hself (x3, x4, s2)
theorem yX11_idle_4 (N : Nat)    (n : Nat) : ∀ v : Int32 × Int32 × zq_S, zq_X yX11_idle RX11 cX11_idle 3 (some .int) ⟨5, 0, 0, 116⟩ zv_i 4 [.ref 0, .int v.1, .int v.2.1] [] v.2.2 (zq_loop (bX11_idle_4 N ) n v) := by
  induction n with
  | zero => exact fun v u hu => by cases hu
  | succ n ih =>
    intro v
    rw [zq_loop_s]
    exact xX11_idle_4 N  (zq_loop (bX11_idle_4 N ) n) ih v
def mX11_idle (N : Nat)   (s : zq_S) : Option (Int32 × zq_S) :=
  zq_loop (bX11_idle_4 N ) N ((0 : Int32), (0 : Int32), s)
set_option maxRecDepth 20000 in
set_option maxHeartbeats 2000000 in
theorem xX11_idle (N : Nat)   (s : zq_S) : zq_X yX11_idle RX11 cX11_idle 3 (some .int) ⟨5, 0, 0, 116⟩ zv_i 0 [.ref 0, .null, .null] [] s (mX11_idle N s) := by
  unfold mX11_idle
  refine zx_lift (pc' := 1) (fun _ => zq_iconst (v := 0) dX11_idle_0 rfl rfl) ?_
  refine zx_lift (pc' := 2) (fun _ => zq_istore_n (ls' := [.ref 0, .int (0 : Int32), .null]) rfl (by decide) rfl rfl dX11_idle_1 rfl) ?_
  refine zx_lift (pc' := 3) (fun _ => zq_iconst (v := 0) dX11_idle_2 rfl rfl) ?_
  refine zx_lift (pc' := 4) (fun _ => zq_istore_n (ls' := [.ref 0, .int (0 : Int32), .int (0 : Int32)]) rfl (by decide) rfl rfl dX11_idle_3 rfl) ?_
  refine yX11_idle_4 N  N ((0 : Int32), (0 : Int32), s)
theorem cX11_idle_mc (N : Nat)   (s : zq_S) (v : Int32 × zq_S) (h : mX11_idle N s = some v) : zq_MC yX11_idle cX11_idle 3 (some .int) ⟨5, 0, 0, 116⟩ 0 0 [.ref 0] (zq_en s) (zv_i v.1, zq_en v.2) := zq_MC_x [.ref 0, .null, .null] (by decide +kernel) rfl rfl (Nat.le_of_ble_eq_true rfl) (xX11_idle N s) h
def jX11_ink_j18 (N : Nat)    (s : zq_S) : Option (Int32 × zq_S) :=
  some ((-1001 : Int32), s)
set_option maxRecDepth 20000 in
set_option maxHeartbeats 2000000 in
theorem xX11_ink_j18_j (N : Nat)    (s : zq_S) : zq_X yX11_ink RX11 cX11_ink 4 (some .int) ⟨3, 0, 0, 67⟩ zv_i 18 [.null, .null, .null, .null] [] s (jX11_ink_j18 N s) := by
  unfold jX11_ink_j18
  refine zx_lift (pc' := 21) (fun _ => zq_sipush (v := (-1001)) dX11_ink_18 rfl rfl) ?_
  exact zx_iret rfl dX11_ink_21
def mX11_ink (N : Nat)  (p1 : Int32) (p2 : Int32) (s : zq_S) : Option (Int32 × zq_S) :=
  zq_b2 (mX3_hasMark N p1 s) (fun r1 s2 =>
  if r1 = (0 : Int32) then
  jX11_ink_j18 N s2
  else
  zq_b2 (mX11_isInk N p2 s2) (fun r3 s4 =>
  if r3 = (0 : Int32) then
  jX11_ink_j18 N s4
  else
  zq_ck p1 10 (
  zq_let (zga s4 32 p1) (fun x5 =>
  zq_ck p1 10 (
  zq_let (zpa s4 32 p1 p2) (fun s6 =>
  zq_b2 (mX3_settle N s6) (fun r7 s8 =>
  if r7 = (0 : Int32) then
  zq_ck p1 10 (
  zq_let (zpa s8 32 p1 x5) (fun s9 =>
  some ((-1003 : Int32), s9)))
  else
  some (x5, s8))))))))
set_option maxRecDepth 20000 in
set_option maxHeartbeats 2000000 in
theorem xX11_ink (N : Nat)  (p1 : Int32) (p2 : Int32) (s : zq_S) : zq_X yX11_ink RX11 cX11_ink 4 (some .int) ⟨3, 0, 0, 67⟩ zv_i 0 [.ref 0, .int p1, .int p2, .null] [] s (mX11_ink N p1 p2 s) := by
  unfold mX11_ink
  refine zx_lift (pc' := 1) (fun _ => zq_aload_n rfl rfl dX11_ink_0 rfl) ?_
  refine zx_lift (pc' := 4) (fun _ => zt_getR zfr_X11_31 zfd_0_1 dX11_ink_1 rfl) ?_
  refine zx_lift (pc' := 5) (fun _ => zq_iload_n rfl rfl dX11_ink_4 rfl) ?_
  refine zx_cVi (pc' := 8) zcv_X11_130 (cX3_hasMark_mc N p1 s) zob_31 rfl (by decide) (Nat.le_of_ble_eq_true rfl) dX11_ink_5 rfl rfl (fun r1 s2 => ?_)
  refine zx_if_eq (pc' := 11) (tgt := 18) dX11_ink_8 rfl rfl (fun hc => ?_) (fun hc => ?_)
  · refine zx_less [.null, .null, .null, .null] (zq_cz (zq_cz (zq_cz (zq_cz zq_cn)))) ?_
    exact xX11_ink_j18_j N s2
  · refine zx_lift (pc' := 12) (fun _ => zq_iload_n rfl rfl dX11_ink_11 rfl) ?_
    refine zx_cSi (pc' := 15) zcs_X11_153 (cX11_isInk_mc N p2 s2) rfl (by decide) (Nat.le_of_ble_eq_true rfl) dX11_ink_12 rfl rfl (fun r3 s4 => ?_)
    refine zx_if_ne (pc' := 18) (tgt := 22) dX11_ink_15 rfl rfl (fun hc => ?_) (fun hc => ?_)
    · refine zx_lift (pc' := 23) (fun _ => zq_aload_n rfl rfl dX11_ink_22 rfl) ?_
      refine zx_lift (pc' := 26) (fun _ => zt_getR zfr_X11_31 zfd_0_1 dX11_ink_23 rfl) ?_
      refine zx_lift (pc' := 29) (fun _ => zt_getR zfr_X11_138 zfd_31_1 dX11_ink_26 rfl) ?_
      refine zx_lift (pc' := 30) (fun _ => zq_iload_n rfl rfl dX11_ink_29 rfl) ?_
      refine zx_iaload (pc' := 31) zsh_32 dX11_ink_30 rfl ?_
      refine zx_istore_n (pc' := 32) (ls' := fun x5 => [.ref 0, .int p1, .int p2, .int x5]) rfl (by decide) rfl (fun _ => rfl) dX11_ink_31 rfl (fun x5 => ?_)
      refine zx_lift (pc' := 33) (fun _ => zq_aload_n rfl rfl dX11_ink_32 rfl) ?_
      refine zx_lift (pc' := 36) (fun _ => zt_getR zfr_X11_31 zfd_0_1 dX11_ink_33 rfl) ?_
      refine zx_lift (pc' := 39) (fun _ => zt_getR zfr_X11_138 zfd_31_1 dX11_ink_36 rfl) ?_
      refine zx_lift (pc' := 40) (fun _ => zq_iload_n rfl rfl dX11_ink_39 rfl) ?_
      refine zx_lift (pc' := 41) (fun _ => zq_iload_n rfl rfl dX11_ink_40 rfl) ?_
      refine zx_iastore (pc' := 42) zsh_32 dX11_ink_41 rfl (fun s6 => ?_)
      refine zx_lift (pc' := 43) (fun _ => zq_aload_n rfl rfl dX11_ink_42 rfl) ?_
      refine zx_lift (pc' := 46) (fun _ => zt_getR zfr_X11_31 zfd_0_1 dX11_ink_43 rfl) ?_
      refine zx_cVi (pc' := 49) zcv_X11_156 (cX3_settle_mc N s6) zob_31 rfl (by decide) (Nat.le_of_ble_eq_true rfl) dX11_ink_46 rfl rfl (fun r7 s8 => ?_)
      refine zx_if_ne (pc' := 52) (tgt := 66) dX11_ink_49 rfl rfl (fun hc => ?_) (fun hc => ?_)
      · refine zx_lift (pc' := 67) (fun _ => zq_iload_n rfl rfl dX11_ink_66 rfl) ?_
        exact zx_iret rfl dX11_ink_67
      · refine zx_lift (pc' := 53) (fun _ => zq_aload_n rfl rfl dX11_ink_52 rfl) ?_
        refine zx_lift (pc' := 56) (fun _ => zt_getR zfr_X11_31 zfd_0_1 dX11_ink_53 rfl) ?_
        refine zx_lift (pc' := 59) (fun _ => zt_getR zfr_X11_138 zfd_31_1 dX11_ink_56 rfl) ?_
        refine zx_lift (pc' := 60) (fun _ => zq_iload_n rfl rfl dX11_ink_59 rfl) ?_
        refine zx_lift (pc' := 61) (fun _ => zq_iload_n rfl rfl dX11_ink_60 rfl) ?_
        refine zx_iastore (pc' := 62) zsh_32 dX11_ink_61 rfl (fun s9 => ?_)
        refine zx_lift (pc' := 65) (fun _ => zq_sipush (v := (-1003)) dX11_ink_62 rfl rfl) ?_
        exact zx_iret rfl dX11_ink_65
    · refine zx_less [.null, .null, .null, .null] (zq_cz (zq_cz (zq_cz (zq_cz zq_cn)))) ?_
      exact xX11_ink_j18_j N s4
theorem cX11_ink_mc (N : Nat)  (p1 : Int32) (p2 : Int32) (s : zq_S) (v : Int32 × zq_S) (h : mX11_ink N p1 p2 s = some v) : zq_MC yX11_ink cX11_ink 4 (some .int) ⟨3, 0, 0, 67⟩ 0 0 [.ref 0, .int p1, .int p2] (zq_en s) (zv_i v.1, zq_en v.2) := zq_MC_x [.ref 0, .int p1, .int p2, .null] (by decide +kernel) rfl rfl (Nat.le_of_ble_eq_true rfl) (xX11_ink N p1 p2 s) h
def mX6_leastBreaks (N : Nat)   (s : zq_S) : Option (Int32 × zq_S) :=
  zq_b2 (mX6_fillCosts N (1 : Int32) s) (fun r1 s2 =>
  some ((Int64.toInt32 (r1 - r1 / (1000 : Int64) * (1000 : Int64))), s2))
set_option maxRecDepth 20000 in
set_option maxHeartbeats 2000000 in
theorem xX6_leastBreaks (N : Nat)   (s : zq_S) : zq_X yX6_leastBreaks RX6 cX6_leastBreaks 1 (some .int) ⟨5, 0, 0, 119⟩ zv_i 0 [.ref 46] [] s (mX6_leastBreaks N s) := by
  unfold mX6_leastBreaks
  refine zx_lift (pc' := 1) (fun _ => zq_aload_n rfl rfl dX6_leastBreaks_0 rfl) ?_
  refine zx_lift (pc' := 2) (fun _ => zq_iconst (v := 1) dX6_leastBreaks_1 rfl rfl) ?_
  refine zx_cVl (pc' := 5) zcv_X6_43 (cX6_fillCosts_mc N (1 : Int32) s) zob_46 rfl (by decide) (Nat.le_of_ble_eq_true rfl) dX6_leastBreaks_2 rfl rfl (fun r1 s2 => ?_)
  refine zx_lift (pc' := 8) (fun _ => zq_ldc2 zk_X6_47 dX6_leastBreaks_5 rfl) ?_
  refine zx_lift (pc' := 9) (fun _ => zq_lrem (by decide) dX6_leastBreaks_8 rfl) ?_
  refine zx_lift (pc' := 10) (fun _ => zq_l2i dX6_leastBreaks_9 rfl) ?_
  exact zx_iret rfl dX6_leastBreaks_10
theorem cX6_leastBreaks_mc (N : Nat)   (s : zq_S) (v : Int32 × zq_S) (h : mX6_leastBreaks N s = some v) : zq_MC yX6_leastBreaks cX6_leastBreaks 1 (some .int) ⟨5, 0, 0, 119⟩ 0 0 [.ref 46] (zq_en s) (zv_i v.1, zq_en v.2) := zq_MC_x [.ref 46] (by decide +kernel) rfl rfl (Nat.le_of_ble_eq_true rfl) (xX6_leastBreaks N s) h
def mX11_least (N : Nat)   (s : zq_S) : Option (Int32 × zq_S) :=
  zq_b2 (mX6_leastBreaks N s) (fun r1 s2 =>
  some (r1, s2))
set_option maxRecDepth 20000 in
set_option maxHeartbeats 2000000 in
theorem xX11_least (N : Nat)   (s : zq_S) : zq_X yX11_least RX11 cX11_least 1 (some .int) ⟨6, 0, 0, 139⟩ zv_i 0 [.ref 0] [] s (mX11_least N s) := by
  unfold mX11_least
  refine zx_lift (pc' := 1) (fun _ => zq_aload_n rfl rfl dX11_least_0 rfl) ?_
  refine zx_lift (pc' := 4) (fun _ => zt_getR zfr_X11_61 zfd_0_5 dX11_least_1 rfl) ?_
  refine zx_cVi (pc' := 7) zcv_X11_303 (cX6_leastBreaks_mc N s) zob_46 rfl (by decide) (Nat.le_of_ble_eq_true rfl) dX11_least_4 rfl rfl (fun r1 s2 => ?_)
  exact zx_iret rfl dX11_least_7
theorem cX11_least_mc (N : Nat)   (s : zq_S) (v : Int32 × zq_S) (h : mX11_least N s = some v) : zq_MC yX11_least cX11_least 1 (some .int) ⟨6, 0, 0, 139⟩ 0 0 [.ref 0] (zq_en s) (zv_i v.1, zq_en v.2) := zq_MC_x [.ref 0] (by decide +kernel) rfl rfl (Nat.le_of_ble_eq_true rfl) (xX11_least N s) h
def mX11_mark (N : Nat)  (p1 : Int32) (p2 : Int32) (s : zq_S) : Option (Int32 × zq_S) :=
  zq_b2 (mX3_hasMark N p1 s) (fun r1 s2 =>
  if r1 = (0 : Int32) then
  some ((-1001 : Int32), s2)
  else
  if p2 = (0 : Int32) then
  zq_ck p1 10 (
  some ((zga s2 (zs (zgb s2 0) + 5) p1), s2))
  else if p2 = (1 : Int32) then
  zq_ck p1 10 (
  some ((zga s2 32 p1), s2))
  else if p2 = (2 : Int32) then
  zq_ck p1 10 (
  some ((zga s2 34 p1), s2))
  else if p2 = (3 : Int32) then
  zq_ck p1 10 (
  some ((zga s2 35 p1), s2))
  else if p2 = (4 : Int32) then
  zq_ck p1 10 (
  some ((zga s2 (zs (zgb s2 0) + 7) p1), s2))
  else if p2 = (5 : Int32) then
  zq_ck p1 10 (
  some ((zga s2 (zs (zgb s2 0) + 8) p1), s2))
  else 
  some ((-1002 : Int32), s2))
set_option maxRecDepth 20000 in
set_option maxHeartbeats 2000000 in
theorem xX11_mark (N : Nat)  (p1 : Int32) (p2 : Int32) (s : zq_S) : zq_X yX11_mark RX11 cX11_mark 3 (some .int) ⟨1, 0, 0, 21⟩ zv_i 0 [.ref 0, .int p1, .int p2] [] s (mX11_mark N p1 p2 s) := by
  unfold mX11_mark
  refine zx_lift (pc' := 1) (fun _ => zq_aload_n rfl rfl dX11_mark_0 rfl) ?_
  refine zx_lift (pc' := 4) (fun _ => zt_getR zfr_X11_31 zfd_0_1 dX11_mark_1 rfl) ?_
  refine zx_lift (pc' := 5) (fun _ => zq_iload_n rfl rfl dX11_mark_4 rfl) ?_
  refine zx_cVi (pc' := 8) zcv_X11_130 (cX3_hasMark_mc N p1 s) zob_31 rfl (by decide) (Nat.le_of_ble_eq_true rfl) dX11_mark_5 rfl rfl (fun r1 s2 => ?_)
  refine zx_if_ne (pc' := 11) (tgt := 15) dX11_mark_8 rfl rfl (fun hc => ?_) (fun hc => ?_)
  · refine zx_lift (pc' := 16) (fun _ => zq_iload_n rfl rfl dX11_mark_15 rfl) ?_
    refine zx_ite (fun hc => ?_) (fun hn3 => ?_)
    · refine zx_tabIn (tgt := 56) hc dX11_mark_16 (by decide) (by decide) rfl rfl ?_
      refine zx_lift (pc' := 57) (fun _ => zq_aload_n rfl rfl dX11_mark_56 rfl) ?_
      refine zx_lift (pc' := 60) (fun _ => zt_getP zfr_X11_12 zfd_0_10 dX11_mark_57 rfl) ?_
      refine zx_lift (pc' := 63) (fun _ => zt_getR zfr_X11_134 (zfd_s_9 (zgb s2 0)) dX11_mark_60 rfl) ?_
      refine zx_lift (pc' := 64) (fun _ => zq_iload_n rfl rfl dX11_mark_63 rfl) ?_
      refine zx_iaload (pc' := 65) (zsh_s5 (zgb s2 0)) dX11_mark_64 rfl ?_
      exact zx_iret rfl dX11_mark_65
    refine zx_ite (fun hc => ?_) (fun hn4 => ?_)
    · refine zx_tabIn (tgt := 66) hc dX11_mark_16 (by decide) (by decide) rfl rfl ?_
      refine zx_lift (pc' := 67) (fun _ => zq_aload_n rfl rfl dX11_mark_66 rfl) ?_
      refine zx_lift (pc' := 70) (fun _ => zt_getR zfr_X11_31 zfd_0_1 dX11_mark_67 rfl) ?_
      refine zx_lift (pc' := 73) (fun _ => zt_getR zfr_X11_138 zfd_31_1 dX11_mark_70 rfl) ?_
      refine zx_lift (pc' := 74) (fun _ => zq_iload_n rfl rfl dX11_mark_73 rfl) ?_
      refine zx_iaload (pc' := 75) zsh_32 dX11_mark_74 rfl ?_
      exact zx_iret rfl dX11_mark_75
    refine zx_ite (fun hc => ?_) (fun hn5 => ?_)
    · refine zx_tabIn (tgt := 76) hc dX11_mark_16 (by decide) (by decide) rfl rfl ?_
      refine zx_lift (pc' := 77) (fun _ => zq_aload_n rfl rfl dX11_mark_76 rfl) ?_
      refine zx_lift (pc' := 80) (fun _ => zt_getR zfr_X11_31 zfd_0_1 dX11_mark_77 rfl) ?_
      refine zx_lift (pc' := 83) (fun _ => zt_getR zfr_X11_141 zfd_31_3 dX11_mark_80 rfl) ?_
      refine zx_lift (pc' := 84) (fun _ => zq_iload_n rfl rfl dX11_mark_83 rfl) ?_
      refine zx_iaload (pc' := 85) zsh_34 dX11_mark_84 rfl ?_
      exact zx_iret rfl dX11_mark_85
    refine zx_ite (fun hc => ?_) (fun hn6 => ?_)
    · refine zx_tabIn (tgt := 86) hc dX11_mark_16 (by decide) (by decide) rfl rfl ?_
      refine zx_lift (pc' := 87) (fun _ => zq_aload_n rfl rfl dX11_mark_86 rfl) ?_
      refine zx_lift (pc' := 90) (fun _ => zt_getR zfr_X11_31 zfd_0_1 dX11_mark_87 rfl) ?_
      refine zx_lift (pc' := 93) (fun _ => zt_getR zfr_X11_144 zfd_31_4 dX11_mark_90 rfl) ?_
      refine zx_lift (pc' := 94) (fun _ => zq_iload_n rfl rfl dX11_mark_93 rfl) ?_
      refine zx_iaload (pc' := 95) zsh_35 dX11_mark_94 rfl ?_
      exact zx_iret rfl dX11_mark_95
    refine zx_ite (fun hc => ?_) (fun hn7 => ?_)
    · refine zx_tabIn (tgt := 96) hc dX11_mark_16 (by decide) (by decide) rfl rfl ?_
      refine zx_lift (pc' := 97) (fun _ => zq_aload_n rfl rfl dX11_mark_96 rfl) ?_
      refine zx_lift (pc' := 100) (fun _ => zt_getP zfr_X11_12 zfd_0_10 dX11_mark_97 rfl) ?_
      refine zx_lift (pc' := 103) (fun _ => zt_getR zfr_X11_147 (zfd_s_11 (zgb s2 0)) dX11_mark_100 rfl) ?_
      refine zx_lift (pc' := 104) (fun _ => zq_iload_n rfl rfl dX11_mark_103 rfl) ?_
      refine zx_iaload (pc' := 105) (zsh_s7 (zgb s2 0)) dX11_mark_104 rfl ?_
      exact zx_iret rfl dX11_mark_105
    refine zx_ite (fun hc => ?_) (fun hn8 => ?_)
    · refine zx_tabIn (tgt := 106) hc dX11_mark_16 (by decide) (by decide) rfl rfl ?_
      refine zx_lift (pc' := 107) (fun _ => zq_aload_n rfl rfl dX11_mark_106 rfl) ?_
      refine zx_lift (pc' := 110) (fun _ => zt_getP zfr_X11_12 zfd_0_10 dX11_mark_107 rfl) ?_
      refine zx_lift (pc' := 113) (fun _ => zt_getR zfr_X11_150 (zfd_s_12 (zgb s2 0)) dX11_mark_110 rfl) ?_
      refine zx_lift (pc' := 114) (fun _ => zq_iload_n rfl rfl dX11_mark_113 rfl) ?_
      refine zx_iaload (pc' := 115) (zsh_s8 (zgb s2 0)) dX11_mark_114 rfl ?_
      exact zx_iret rfl dX11_mark_115
    refine zx_tabOut (tgt := 116) dX11_mark_16 (by have := zq_tk (k := 0) hn3 (by decide); have := zq_tk (k := 1) hn4 (by decide); have := zq_tk (k := 2) hn5 (by decide); have := zq_tk (k := 3) hn6 (by decide); have := zq_tk (k := 4) hn7 (by decide); have := zq_tk (k := 5) hn8 (by decide); omega) rfl ?_
    refine zx_lift (pc' := 119) (fun _ => zq_sipush (v := (-1002)) dX11_mark_116 rfl rfl) ?_
    exact zx_iret rfl dX11_mark_119
  · refine zx_lift (pc' := 14) (fun _ => zq_sipush (v := (-1001)) dX11_mark_11 rfl rfl) ?_
    exact zx_iret rfl dX11_mark_14
theorem cX11_mark_mc (N : Nat)  (p1 : Int32) (p2 : Int32) (s : zq_S) (v : Int32 × zq_S) (h : mX11_mark N p1 p2 s = some v) : zq_MC yX11_mark cX11_mark 3 (some .int) ⟨1, 0, 0, 21⟩ 0 0 [.ref 0, .int p1, .int p2] (zq_en s) (zv_i v.1, zq_en v.2) := zq_MC_x [.ref 0, .int p1, .int p2] (by decide +kernel) rfl rfl (Nat.le_of_ble_eq_true rfl) (xX11_mark N p1 p2 s) h
def mX1_hasCopy (N : Nat)  (p1 : Int32) (s : zq_S) : Option (Int32 × zq_S) :=
  zq_let (if p1 < (0 : Int32) then (0 : Int32) else (if (zgf s 56 5) ≤ p1 then (0 : Int32) else (1 : Int32))) (fun x1 =>
  zq_bz x1 (some (x1, s)))
set_option maxRecDepth 20000 in
set_option maxHeartbeats 2000000 in
theorem xX1_hasCopy (N : Nat)  (p1 : Int32) (s : zq_S) : zq_X yX1_hasCopy RX1 cX1_hasCopy 2 (some .boolean) ⟨0, 0, 0, 0⟩ zv_i 0 [.ref 56, .int p1] [] s (mX1_hasCopy N p1 s) := by
  unfold mX1_hasCopy
  refine zx_lift (pc' := 1) (fun _ => zq_iload_n rfl rfl dX1_hasCopy_0 rfl) ?_
  refine zx_tern (pcJ := 17) (lsJ := fun x1 => [.null, .null]) (stJ := fun x1 => [.int x1]) (fun x1 => ?_) (fun f hJ => ?_)
  rotate_left
  · refine zx_lif_lt (pc' := 4) (tgt := 16) dX1_hasCopy_1 rfl rfl (fun _ => ?_) (fun _ => ?_)
    · refine zx_lift (pc' := 17) (fun _ => zq_iconst (v := 0) dX1_hasCopy_16 rfl rfl) ?_
      exact zx_lessJ (zq_cz (zq_cz zq_cn)) (hJ _)
    · refine zx_lift (pc' := 5) (fun _ => zq_iload_n rfl rfl dX1_hasCopy_4 rfl) ?_
      refine zx_lift (pc' := 6) (fun _ => zq_aload_n rfl rfl dX1_hasCopy_5 rfl) ?_
      refine zx_lift (pc' := 9) (fun _ => zt_getI zfr_X1_31 zfd_56_5 dX1_hasCopy_6 rfl) ?_
      refine zx_licmp_ge (pc' := 12) (tgt := 16) dX1_hasCopy_9 rfl rfl (fun _ => ?_) (fun _ => ?_)
      · refine zx_lift (pc' := 17) (fun _ => zq_iconst (v := 0) dX1_hasCopy_16 rfl rfl) ?_
        exact zx_lessJ (zq_cz (zq_cz zq_cn)) (hJ _)
      · refine zx_lift (pc' := 13) (fun _ => zq_iconst (v := 1) dX1_hasCopy_12 rfl rfl) ?_
        refine zx_lift (pc' := 17) (fun _ => zq_goto dX1_hasCopy_13 rfl) ?_
        exact zx_lessJ (zq_cz (zq_cz zq_cn)) (hJ _)
  exact zx_zretg rfl dX1_hasCopy_17
theorem cX1_hasCopy_mc (N : Nat)  (p1 : Int32) (s : zq_S) (v : Int32 × zq_S) (h : mX1_hasCopy N p1 s = some v) : zq_MC yX1_hasCopy cX1_hasCopy 2 (some .boolean) ⟨0, 0, 0, 0⟩ 0 0 [.ref 56, .int p1] (zq_en s) (zv_i v.1, zq_en v.2) := zq_MC_x [.ref 56, .int p1] (by decide +kernel) rfl rfl (Nat.le_of_ble_eq_true rfl) (xX1_hasCopy N p1 s) h
def jX1_nearestSet_j91 (N : Nat)  (f1 : Int32) (k97 : Int32 × zq_S → Option (Int32 × zq_S)) (self : Int32 × Int32 × Int32 × zq_S → Option (Int32 × zq_S)) (w2 : Int32) (w3 : Int32) (w4 : Int32) (s : zq_S) : Option (Int32 × zq_S) :=
  zq_let (w4 + (1 : Int32)) (fun x13 =>
  self (w2, w3, x13, s))
set_option maxRecDepth 20000 in
set_option maxHeartbeats 2000000 in
theorem xX1_nearestSet_j91_j (N : Nat)  (f1 : Int32) (k97 : Int32 × zq_S → Option (Int32 × zq_S)) (hk97 : ∀ e, zq_X yX1_nearestSet RX1 cX1_nearestSet 7 (some .int) ⟨4, 0, 0, 112⟩ zv_i 97 [.null, .null, .int e.1, .null, .null, .null, .null] [] e.2 (k97 e)) (self : Int32 × Int32 × Int32 × zq_S → Option (Int32 × zq_S)) (hself : ∀ v, zq_X yX1_nearestSet RX1 cX1_nearestSet 7 (some .int) ⟨4, 0, 0, 112⟩ zv_i 27 [.ref 56, .int f1, .int v.1, .int v.2.1, .int v.2.2.1, .null, .null] [] v.2.2.2 (self v)) (w2 : Int32) (w3 : Int32) (w4 : Int32) (s : zq_S) : zq_X yX1_nearestSet RX1 cX1_nearestSet 7 (some .int) ⟨4, 0, 0, 112⟩ zv_i 91 [.ref 56, .int f1, .int w2, .int w3, .int w4, .null, .null] [] s (jX1_nearestSet_j91 N f1 k97 self w2 w3 w4 s) := by
  unfold jX1_nearestSet_j91
  refine zx_iinc (pc' := 94) (ls' := fun x13 => [.ref 56, .int f1, .int w2, .int w3, .int x13, .null, .null]) rfl rfl (by decide) rfl (fun _ => rfl) dX1_nearestSet_91 rfl (fun x13 => ?_)
  refine zx_lift (pc' := 27) (fun _ => zq_goto dX1_nearestSet_94 rfl) ?_
  exact hself (w2, w3, x13, s)
def bX1_nearestSet_27 (N : Nat)  (f1 : Int32) (k97 : Int32 × zq_S → Option (Int32 × zq_S)) (self : Int32 × Int32 × Int32 × zq_S → Option (Int32 × zq_S)) (v : Int32 × Int32 × Int32 × zq_S) : Option (Int32 × zq_S) :=
  zq_b2 (mX3_goodCount N v.2.2.2) (fun r5 s6 =>
  if r5 ≤ v.2.2.1 then
  k97 (v.1, s6)
  else
  if v.2.1 ≤ (0 : Int32) then
  k97 (v.1, s6)
  else
  zq_b2 (mX3_goodAt N v.2.2.1 s6) (fun r7 s8 =>
  zq_b2 (mX9_with N r7 s8) (fun r9 s10 =>
  zq_b2 (mX2_between N true false f1 r7 s10) (fun r11 s12 =>
  if v.2.1 ≤ r11 then
  jX1_nearestSet_j91 N f1 k97 self v.1 v.2.1 v.2.2.1 s12
  else
  jX1_nearestSet_j91 N f1 k97 self r7 r11 v.2.2.1 s12))))
set_option maxRecDepth 20000 in
set_option maxHeartbeats 2000000 in
theorem xX1_nearestSet_27 (N : Nat)  (f1 : Int32) (k97 : Int32 × zq_S → Option (Int32 × zq_S)) (hk97 : ∀ e, zq_X yX1_nearestSet RX1 cX1_nearestSet 7 (some .int) ⟨4, 0, 0, 112⟩ zv_i 97 [.null, .null, .int e.1, .null, .null, .null, .null] [] e.2 (k97 e)) (self : Int32 × Int32 × Int32 × zq_S → Option (Int32 × zq_S)) (hself : ∀ v, zq_X yX1_nearestSet RX1 cX1_nearestSet 7 (some .int) ⟨4, 0, 0, 112⟩ zv_i 27 [.ref 56, .int f1, .int v.1, .int v.2.1, .int v.2.2.1, .null, .null] [] v.2.2.2 (self v)) (v : Int32 × Int32 × Int32 × zq_S) : zq_X yX1_nearestSet RX1 cX1_nearestSet 7 (some .int) ⟨4, 0, 0, 112⟩ zv_i 27 [.ref 56, .int f1, .int v.1, .int v.2.1, .int v.2.2.1, .null, .null] [] v.2.2.2 (bX1_nearestSet_27 N f1 k97 self v) := by
  unfold bX1_nearestSet_27
  refine zx_lift (pc' := 29) (fun _ => zq_iload rfl dX1_nearestSet_27 rfl) ?_
  refine zx_lift (pc' := 30) (fun _ => zq_aload_n rfl rfl dX1_nearestSet_29 rfl) ?_
  refine zx_lift (pc' := 33) (fun _ => zt_getR zfr_X1_9 zfd_56_0 dX1_nearestSet_30 rfl) ?_
  refine zx_cVi (pc' := 36) zcv_X1_47 (cX3_goodCount_mc N v.2.2.2) zob_31 rfl (by decide) (Nat.le_of_ble_eq_true rfl) dX1_nearestSet_33 rfl rfl (fun r5 s6 => ?_)
  refine zx_icmp_ge (pc' := 39) (tgt := 97) dX1_nearestSet_36 rfl rfl (fun hc => ?_) (fun hc => ?_)
  · refine zx_less [.null, .null, .int v.1, .null, .null, .null, .null] (zq_cz (zq_cz (zq_cr (zq_cz (zq_cz (zq_cz (zq_cz zq_cn))))))) ?_
    exact hk97 (v.1, s6)
  · refine zx_lift (pc' := 40) (fun _ => zq_iload_n rfl rfl dX1_nearestSet_39 rfl) ?_
    refine zx_if_le (pc' := 43) (tgt := 97) dX1_nearestSet_40 rfl rfl (fun hc => ?_) (fun hc => ?_)
    · refine zx_less [.null, .null, .int v.1, .null, .null, .null, .null] (zq_cz (zq_cz (zq_cr (zq_cz (zq_cz (zq_cz (zq_cz zq_cn))))))) ?_
      exact hk97 (v.1, s6)
    · refine zx_lift (pc' := 44) (fun _ => zq_aload_n rfl rfl dX1_nearestSet_43 rfl) ?_
      refine zx_lift (pc' := 47) (fun _ => zt_getR zfr_X1_9 zfd_56_0 dX1_nearestSet_44 rfl) ?_
      refine zx_lift (pc' := 49) (fun _ => zq_iload rfl dX1_nearestSet_47 rfl) ?_
      refine zx_cVi (pc' := 52) zcv_X1_53 (cX3_goodAt_mc N v.2.2.1 s6) zob_31 rfl (by decide) (Nat.le_of_ble_eq_true rfl) dX1_nearestSet_49 rfl rfl (fun r7 s8 => ?_)
      refine zx_lift (pc' := 54) (fun _ => zq_istore (ls' := [.ref 56, .int f1, .int v.1, .int v.2.1, .int v.2.2.1, .int r7, .null]) (by decide) rfl rfl dX1_nearestSet_52 rfl) ?_
      refine zx_lift (pc' := 55) (fun _ => zq_aload_n rfl rfl dX1_nearestSet_54 rfl) ?_
      refine zx_lift (pc' := 58) (fun _ => zt_getR zfr_X1_23 zfd_56_3 dX1_nearestSet_55 rfl) ?_
      refine zx_lift (pc' := 59) (fun _ => zq_aload_n rfl rfl dX1_nearestSet_58 rfl) ?_
      refine zx_lift (pc' := 62) (fun _ => zt_getR zfr_X1_19 zfd_56_2 dX1_nearestSet_59 rfl) ?_
      refine zx_lift (pc' := 63) (fun _ => zq_iload_n rfl rfl dX1_nearestSet_62 rfl) ?_
      refine zx_lift (pc' := 64) (fun _ => zq_aload_n rfl rfl dX1_nearestSet_63 rfl) ?_
      refine zx_lift (pc' := 67) (fun _ => zt_getR zfr_X1_15 zfd_56_1 dX1_nearestSet_64 rfl) ?_
      refine zx_lift (pc' := 69) (fun _ => zq_iload rfl dX1_nearestSet_67 rfl) ?_
      refine zx_cVw (pc' := 72) zcv_X1_35 (cX9_with_mc N r7 s8) zob_38 rfl (by decide) (Nat.le_of_ble_eq_true rfl) dX1_nearestSet_69 rfl rfl (fun r9 s10 => ?_)
      refine zx_lift (pc' := 74) (fun _ => zq_iload rfl dX1_nearestSet_72 rfl) ?_
      refine zx_cVi (pc' := 77) zcv_X1_112 (cX2_between_mc N true false f1 r7 s10) zob_54 rfl (by decide) (Nat.le_of_ble_eq_true rfl) dX1_nearestSet_74 rfl rfl (fun r11 s12 => ?_)
      refine zx_lift (pc' := 79) (fun _ => zq_istore (ls' := [.ref 56, .int f1, .int v.1, .int v.2.1, .int v.2.2.1, .int r7, .int r11]) (by decide) rfl rfl dX1_nearestSet_77 rfl) ?_
      refine zx_lift (pc' := 81) (fun _ => zq_iload rfl dX1_nearestSet_79 rfl) ?_
      refine zx_lift (pc' := 82) (fun _ => zq_iload_n rfl rfl dX1_nearestSet_81 rfl) ?_
      refine zx_icmp_ge (pc' := 85) (tgt := 91) dX1_nearestSet_82 rfl rfl (fun hc => ?_) (fun hc => ?_)
      · refine zx_less [.ref 56, .int f1, .int v.1, .int v.2.1, .int v.2.2.1, .null, .null] (zq_cr (zq_cr (zq_cr (zq_cr (zq_cr (zq_cz (zq_cz zq_cn))))))) ?_
        exact xX1_nearestSet_j91_j N f1 k97 hk97 self hself v.1 v.2.1 v.2.2.1 s12
      · refine zx_lift (pc' := 87) (fun _ => zq_iload rfl dX1_nearestSet_85 rfl) ?_
        refine zx_lift (pc' := 88) (fun _ => zq_istore_n (ls' := [.ref 56, .int f1, .int v.1, .int r11, .int v.2.2.1, .int r7, .int r11]) rfl (by decide) rfl rfl dX1_nearestSet_87 rfl) ?_
        refine zx_lift (pc' := 90) (fun _ => zq_iload rfl dX1_nearestSet_88 rfl) ?_
        refine zx_lift (pc' := 91) (fun _ => zq_istore_n (ls' := [.ref 56, .int f1, .int r7, .int r11, .int v.2.2.1, .int r7, .int r11]) rfl (by decide) rfl rfl dX1_nearestSet_90 rfl) ?_
        refine zx_less [.ref 56, .int f1, .int r7, .int r11, .int v.2.2.1, .null, .null] (zq_cr (zq_cr (zq_cr (zq_cr (zq_cr (zq_cz (zq_cz zq_cn))))))) ?_
        exact xX1_nearestSet_j91_j N f1 k97 hk97 self hself r7 r11 v.2.2.1 s12
theorem yX1_nearestSet_27 (N : Nat)  (f1 : Int32) (k97 : Int32 × zq_S → Option (Int32 × zq_S)) (hk97 : ∀ e, zq_X yX1_nearestSet RX1 cX1_nearestSet 7 (some .int) ⟨4, 0, 0, 112⟩ zv_i 97 [.null, .null, .int e.1, .null, .null, .null, .null] [] e.2 (k97 e)) (n : Nat) : ∀ v : Int32 × Int32 × Int32 × zq_S, zq_X yX1_nearestSet RX1 cX1_nearestSet 7 (some .int) ⟨4, 0, 0, 112⟩ zv_i 27 [.ref 56, .int f1, .int v.1, .int v.2.1, .int v.2.2.1, .null, .null] [] v.2.2.2 (zq_loop (bX1_nearestSet_27 N f1 k97) n v) := by
  induction n with
  | zero => exact fun v u hu => by cases hu
  | succ n ih =>
    intro v
    rw [zq_loop_s]
    exact xX1_nearestSet_27 N f1 k97 hk97 (zq_loop (bX1_nearestSet_27 N f1 k97) n) ih v
def jX1_nearestSet_j97 (N : Nat)   (w2 : Int32) (s : zq_S) : Option (Int32 × zq_S) :=
  some (w2, s)
set_option maxRecDepth 20000 in
set_option maxHeartbeats 2000000 in
theorem xX1_nearestSet_j97_j (N : Nat)   (w2 : Int32) (s : zq_S) : zq_X yX1_nearestSet RX1 cX1_nearestSet 7 (some .int) ⟨4, 0, 0, 112⟩ zv_i 97 [.null, .null, .int w2, .null, .null, .null, .null] [] s (jX1_nearestSet_j97 N w2 s) := by
  unfold jX1_nearestSet_j97
  refine zx_lift (pc' := 98) (fun _ => zq_iload_n rfl rfl dX1_nearestSet_97 rfl) ?_
  exact zx_iret rfl dX1_nearestSet_98
def mX1_nearestSet (N : Nat)  (p1 : Int32) (s : zq_S) : Option (Int32 × zq_S) :=
  zq_b2 (mX9_with N (0 : Int32) s) (fun r1 s2 =>
  zq_b2 (mX2_between N true false p1 (0 : Int32) s2) (fun r3 s4 =>
  zq_loop (bX1_nearestSet_27 N p1 (fun e14 =>
  jX1_nearestSet_j97 N e14.1 e14.2)) N ((0 : Int32), r3, (1 : Int32), s4)))
set_option maxRecDepth 20000 in
set_option maxHeartbeats 2000000 in
theorem xX1_nearestSet (N : Nat)  (p1 : Int32) (s : zq_S) : zq_X yX1_nearestSet RX1 cX1_nearestSet 7 (some .int) ⟨4, 0, 0, 112⟩ zv_i 0 [.ref 56, .int p1, .null, .null, .null, .null, .null] [] s (mX1_nearestSet N p1 s) := by
  unfold mX1_nearestSet
  refine zx_lift (pc' := 1) (fun _ => zq_iconst (v := 0) dX1_nearestSet_0 rfl rfl) ?_
  refine zx_lift (pc' := 2) (fun _ => zq_istore_n (ls' := [.ref 56, .int p1, .int (0 : Int32), .null, .null, .null, .null]) rfl (by decide) rfl rfl dX1_nearestSet_1 rfl) ?_
  refine zx_lift (pc' := 3) (fun _ => zq_aload_n rfl rfl dX1_nearestSet_2 rfl) ?_
  refine zx_lift (pc' := 6) (fun _ => zt_getR zfr_X1_23 zfd_56_3 dX1_nearestSet_3 rfl) ?_
  refine zx_lift (pc' := 7) (fun _ => zq_aload_n rfl rfl dX1_nearestSet_6 rfl) ?_
  refine zx_lift (pc' := 10) (fun _ => zt_getR zfr_X1_19 zfd_56_2 dX1_nearestSet_7 rfl) ?_
  refine zx_lift (pc' := 11) (fun _ => zq_iload_n rfl rfl dX1_nearestSet_10 rfl) ?_
  refine zx_lift (pc' := 12) (fun _ => zq_aload_n rfl rfl dX1_nearestSet_11 rfl) ?_
  refine zx_lift (pc' := 15) (fun _ => zt_getR zfr_X1_15 zfd_56_1 dX1_nearestSet_12 rfl) ?_
  refine zx_lift (pc' := 16) (fun _ => zq_iconst (v := 0) dX1_nearestSet_15 rfl rfl) ?_
  refine zx_cVw (pc' := 19) zcv_X1_35 (cX9_with_mc N (0 : Int32) s) zob_38 rfl (by decide) (Nat.le_of_ble_eq_true rfl) dX1_nearestSet_16 rfl rfl (fun r1 s2 => ?_)
  refine zx_lift (pc' := 20) (fun _ => zq_iconst (v := 0) dX1_nearestSet_19 rfl rfl) ?_
  refine zx_cVi (pc' := 23) zcv_X1_112 (cX2_between_mc N true false p1 (0 : Int32) s2) zob_54 rfl (by decide) (Nat.le_of_ble_eq_true rfl) dX1_nearestSet_20 rfl rfl (fun r3 s4 => ?_)
  refine zx_lift (pc' := 24) (fun _ => zq_istore_n (ls' := [.ref 56, .int p1, .int (0 : Int32), .int r3, .null, .null, .null]) rfl (by decide) rfl rfl dX1_nearestSet_23 rfl) ?_
  refine zx_lift (pc' := 25) (fun _ => zq_iconst (v := 1) dX1_nearestSet_24 rfl rfl) ?_
  refine zx_lift (pc' := 27) (fun _ => zq_istore (ls' := [.ref 56, .int p1, .int (0 : Int32), .int r3, .int (1 : Int32), .null, .null]) (by decide) rfl rfl dX1_nearestSet_25 rfl) ?_
  refine yX1_nearestSet_27 N p1 _ (fun e14 => ?_) N ((0 : Int32), r3, (1 : Int32), s4)
  exact xX1_nearestSet_j97_j N e14.1 e14.2
theorem cX1_nearestSet_mc (N : Nat)  (p1 : Int32) (s : zq_S) (v : Int32 × zq_S) (h : mX1_nearestSet N p1 s = some v) : zq_MC yX1_nearestSet cX1_nearestSet 7 (some .int) ⟨4, 0, 0, 112⟩ 0 0 [.ref 56, .int p1] (zq_en s) (zv_i v.1, zq_en v.2) := zq_MC_x [.ref 56, .int p1, .null, .null, .null, .null, .null] (by decide +kernel) rfl rfl (Nat.le_of_ble_eq_true rfl) (xX1_nearestSet N p1 s) h
def jX11_nearest_j67 (N : Nat)   (t0 : Int32) (s : zq_S) : Option (Int32 × zq_S) :=
  some (t0, s)
set_option maxRecDepth 20000 in
set_option maxHeartbeats 2000000 in
theorem xX11_nearest_j67_j (N : Nat)   (t0 : Int32) (s : zq_S) : zq_X yX11_nearest RX11 cX11_nearest 4 (some .int) ⟨5, 0, 0, 138⟩ zv_i 67 [.null, .null, .null, .null] [.int t0] s (jX11_nearest_j67 N t0 s) := by
  unfold jX11_nearest_j67
  exact zx_iret rfl dX11_nearest_67
def jX11_nearest_j28 (N : Nat)   (w1 : Int32) (w2 : Int32) (s : zq_S) : Option (Int32 × zq_S) :=
  zq_b2 (mX1_nearestSet N w1 s) (fun r3 s4 =>
  if w2 = (1 : Int32) then
  jX11_nearest_j67 N r3 s4
  else
  zq_b2 (mX9_with N r3 s4) (fun r5 s6 =>
  zq_b2 (mX2_between N true false w1 r3 s6) (fun r7 s8 =>
  jX11_nearest_j67 N r7 s8)))
set_option maxRecDepth 20000 in
set_option maxHeartbeats 2000000 in
theorem xX11_nearest_j28_j (N : Nat)   (w1 : Int32) (w2 : Int32) (s : zq_S) : zq_X yX11_nearest RX11 cX11_nearest 4 (some .int) ⟨5, 0, 0, 138⟩ zv_i 28 [.ref 0, .int w1, .int w2, .null] [] s (jX11_nearest_j28 N w1 w2 s) := by
  unfold jX11_nearest_j28
  refine zx_lift (pc' := 29) (fun _ => zq_aload_n rfl rfl dX11_nearest_28 rfl) ?_
  refine zx_lift (pc' := 32) (fun _ => zt_getR zfr_X11_95 zfd_0_8 dX11_nearest_29 rfl) ?_
  refine zx_lift (pc' := 33) (fun _ => zq_iload_n rfl rfl dX11_nearest_32 rfl) ?_
  refine zx_cVi (pc' := 36) zcv_X11_287 (cX1_nearestSet_mc N w1 s) zob_56 rfl (by decide) (Nat.le_of_ble_eq_true rfl) dX11_nearest_33 rfl rfl (fun r3 s4 => ?_)
  refine zx_lift (pc' := 37) (fun _ => zq_istore_n (ls' := [.ref 0, .int w1, .int w2, .int r3]) rfl (by decide) rfl rfl dX11_nearest_36 rfl) ?_
  refine zx_lift (pc' := 38) (fun _ => zq_iload_n rfl rfl dX11_nearest_37 rfl) ?_
  refine zx_lift (pc' := 39) (fun _ => zq_iconst (v := 1) dX11_nearest_38 rfl rfl) ?_
  refine zx_icmp_ne (pc' := 42) (tgt := 46) dX11_nearest_39 rfl rfl (fun hc => ?_) (fun hc => ?_)
  · refine zx_lift (pc' := 47) (fun _ => zq_aload_n rfl rfl dX11_nearest_46 rfl) ?_
    refine zx_lift (pc' := 50) (fun _ => zt_getR zfr_X11_86 zfd_0_9 dX11_nearest_47 rfl) ?_
    refine zx_lift (pc' := 51) (fun _ => zq_aload_n rfl rfl dX11_nearest_50 rfl) ?_
    refine zx_lift (pc' := 54) (fun _ => zt_getR zfr_X11_79 zfd_0_7 dX11_nearest_51 rfl) ?_
    refine zx_lift (pc' := 55) (fun _ => zq_iload_n rfl rfl dX11_nearest_54 rfl) ?_
    refine zx_lift (pc' := 56) (fun _ => zq_aload_n rfl rfl dX11_nearest_55 rfl) ?_
    refine zx_lift (pc' := 59) (fun _ => zt_getR zfr_X11_38 zfd_0_2 dX11_nearest_56 rfl) ?_
    refine zx_lift (pc' := 60) (fun _ => zq_iload_n rfl rfl dX11_nearest_59 rfl) ?_
    refine zx_cVw (pc' := 63) zcv_X11_252 (cX9_with_mc N r3 s4) zob_38 rfl (by decide) (Nat.le_of_ble_eq_true rfl) dX11_nearest_60 rfl rfl (fun r5 s6 => ?_)
    refine zx_lift (pc' := 64) (fun _ => zq_iload_n rfl rfl dX11_nearest_63 rfl) ?_
    refine zx_cVi (pc' := 67) zcv_X11_256 (cX2_between_mc N true false w1 r3 s6) zob_54 rfl (by decide) (Nat.le_of_ble_eq_true rfl) dX11_nearest_64 rfl rfl (fun r7 s8 => ?_)
    refine zx_less [.null, .null, .null, .null] (zq_cz (zq_cz (zq_cz (zq_cz zq_cn)))) ?_
    exact xX11_nearest_j67_j N r7 s8
  · refine zx_lift (pc' := 43) (fun _ => zq_iload_n rfl rfl dX11_nearest_42 rfl) ?_
    refine zx_lift (pc' := 67) (fun _ => zq_goto dX11_nearest_43 rfl) ?_
    refine zx_less [.null, .null, .null, .null] (zq_cz (zq_cz (zq_cz (zq_cz zq_cn)))) ?_
    exact xX11_nearest_j67_j N r3 s4
def mX11_nearest (N : Nat)  (p1 : Int32) (p2 : Int32) (s : zq_S) : Option (Int32 × zq_S) :=
  zq_b2 (mX1_hasCopy N p1 s) (fun r1 s2 =>
  if r1 = (0 : Int32) then
  some ((-1001 : Int32), s2)
  else
  if p2 = (0 : Int32) then
  jX11_nearest_j28 N p1 p2 s2
  else
  if p2 = (1 : Int32) then
  jX11_nearest_j28 N p1 p2 s2
  else
  some ((-1002 : Int32), s2))
set_option maxRecDepth 20000 in
set_option maxHeartbeats 2000000 in
theorem xX11_nearest (N : Nat)  (p1 : Int32) (p2 : Int32) (s : zq_S) : zq_X yX11_nearest RX11 cX11_nearest 4 (some .int) ⟨5, 0, 0, 138⟩ zv_i 0 [.ref 0, .int p1, .int p2, .null] [] s (mX11_nearest N p1 p2 s) := by
  unfold mX11_nearest
  refine zx_lift (pc' := 1) (fun _ => zq_aload_n rfl rfl dX11_nearest_0 rfl) ?_
  refine zx_lift (pc' := 4) (fun _ => zt_getR zfr_X11_95 zfd_0_8 dX11_nearest_1 rfl) ?_
  refine zx_lift (pc' := 5) (fun _ => zq_iload_n rfl rfl dX11_nearest_4 rfl) ?_
  refine zx_cVi (pc' := 8) zcv_X11_271 (cX1_hasCopy_mc N p1 s) zob_56 rfl (by decide) (Nat.le_of_ble_eq_true rfl) dX11_nearest_5 rfl rfl (fun r1 s2 => ?_)
  refine zx_if_ne (pc' := 11) (tgt := 15) dX11_nearest_8 rfl rfl (fun hc => ?_) (fun hc => ?_)
  · refine zx_lift (pc' := 16) (fun _ => zq_iload_n rfl rfl dX11_nearest_15 rfl) ?_
    refine zx_if_eq (pc' := 19) (tgt := 28) dX11_nearest_16 rfl rfl (fun hc => ?_) (fun hc => ?_)
    · exact xX11_nearest_j28_j N p1 p2 s2
    · refine zx_lift (pc' := 20) (fun _ => zq_iload_n rfl rfl dX11_nearest_19 rfl) ?_
      refine zx_lift (pc' := 21) (fun _ => zq_iconst (v := 1) dX11_nearest_20 rfl rfl) ?_
      refine zx_icmp_eq (pc' := 24) (tgt := 28) dX11_nearest_21 rfl rfl (fun hc => ?_) (fun hc => ?_)
      · exact xX11_nearest_j28_j N p1 p2 s2
      · refine zx_lift (pc' := 27) (fun _ => zq_sipush (v := (-1002)) dX11_nearest_24 rfl rfl) ?_
        exact zx_iret rfl dX11_nearest_27
  · refine zx_lift (pc' := 14) (fun _ => zq_sipush (v := (-1001)) dX11_nearest_11 rfl rfl) ?_
    exact zx_iret rfl dX11_nearest_14
theorem cX11_nearest_mc (N : Nat)  (p1 : Int32) (p2 : Int32) (s : zq_S) (v : Int32 × zq_S) (h : mX11_nearest N p1 p2 s = some v) : zq_MC yX11_nearest cX11_nearest 4 (some .int) ⟨5, 0, 0, 138⟩ 0 0 [.ref 0, .int p1, .int p2] (zq_en s) (zv_i v.1, zq_en v.2) := zq_MC_x [.ref 0, .int p1, .int p2, .null] (by decide +kernel) rfl rfl (Nat.le_of_ble_eq_true rfl) (xX11_nearest N p1 p2 s) h
def jX11_next_j25 (N : Nat)   (t0 : Int32) (s : zq_S) : Option (Int32 × zq_S) :=
  some (t0, s)
set_option maxRecDepth 20000 in
set_option maxHeartbeats 2000000 in
theorem xX11_next_j25_j (N : Nat)   (t0 : Int32) (s : zq_S) : zq_X yX11_next RX11 cX11_next 3 (some .int) ⟨3, 0, 0, 62⟩ zv_i 25 [.null, .null, .null] [.int t0] s (jX11_next_j25 N t0 s) := by
  unfold jX11_next_j25
  exact zx_iret rfl dX11_next_25
def mX11_next (N : Nat)  (p1 : Int32) (s : zq_S) : Option (Int32 × zq_S) :=
  zq_b2 (mX3_refuse N p1 s) (fun r1 s2 =>
  if r1 = (0 : Int32) then
  zq_b2 (mX3_following N p1 s2) (fun r3 s4 =>
  jX11_next_j25 N r3 s4)
  else
  jX11_next_j25 N r1 s2)
set_option maxRecDepth 20000 in
set_option maxHeartbeats 2000000 in
theorem xX11_next (N : Nat)  (p1 : Int32) (s : zq_S) : zq_X yX11_next RX11 cX11_next 3 (some .int) ⟨3, 0, 0, 62⟩ zv_i 0 [.ref 0, .int p1, .null] [] s (mX11_next N p1 s) := by
  unfold mX11_next
  refine zx_lift (pc' := 1) (fun _ => zq_aload_n rfl rfl dX11_next_0 rfl) ?_
  refine zx_lift (pc' := 4) (fun _ => zt_getR zfr_X11_31 zfd_0_1 dX11_next_1 rfl) ?_
  refine zx_lift (pc' := 5) (fun _ => zq_iload_n rfl rfl dX11_next_4 rfl) ?_
  refine zx_cVi (pc' := 8) zcv_X11_189 (cX3_refuse_mc N p1 s) zob_31 rfl (by decide) (Nat.le_of_ble_eq_true rfl) dX11_next_5 rfl rfl (fun r1 s2 => ?_)
  refine zx_lift (pc' := 9) (fun _ => zq_istore_n (ls' := [.ref 0, .int p1, .int r1]) rfl (by decide) rfl rfl dX11_next_8 rfl) ?_
  refine zx_lift (pc' := 10) (fun _ => zq_iload_n rfl rfl dX11_next_9 rfl) ?_
  refine zx_if_eq (pc' := 13) (tgt := 17) dX11_next_10 rfl rfl (fun hc => ?_) (fun hc => ?_)
  · refine zx_lift (pc' := 18) (fun _ => zq_aload_n rfl rfl dX11_next_17 rfl) ?_
    refine zx_lift (pc' := 21) (fun _ => zt_getR zfr_X11_31 zfd_0_1 dX11_next_18 rfl) ?_
    refine zx_lift (pc' := 22) (fun _ => zq_iload_n rfl rfl dX11_next_21 rfl) ?_
    refine zx_cVi (pc' := 25) zcv_X11_192 (cX3_following_mc N p1 s2) zob_31 rfl (by decide) (Nat.le_of_ble_eq_true rfl) dX11_next_22 rfl rfl (fun r3 s4 => ?_)
    refine zx_less [.null, .null, .null] (zq_cz (zq_cz (zq_cz zq_cn))) ?_
    exact xX11_next_j25_j N r3 s4
  · refine zx_lift (pc' := 14) (fun _ => zq_iload_n rfl rfl dX11_next_13 rfl) ?_
    refine zx_lift (pc' := 25) (fun _ => zq_goto dX11_next_14 rfl) ?_
    refine zx_less [.null, .null, .null] (zq_cz (zq_cz (zq_cz zq_cn))) ?_
    exact xX11_next_j25_j N r1 s2
theorem cX11_next_mc (N : Nat)  (p1 : Int32) (s : zq_S) (v : Int32 × zq_S) (h : mX11_next N p1 s = some v) : zq_MC yX11_next cX11_next 3 (some .int) ⟨3, 0, 0, 62⟩ 0 0 [.ref 0, .int p1] (zq_en s) (zv_i v.1, zq_en v.2) := zq_MC_x [.ref 0, .int p1, .null] (by decide +kernel) rfl rfl (Nat.le_of_ble_eq_true rfl) (xX11_next N p1 s) h
