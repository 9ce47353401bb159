def mX3_hasMark (N : Nat)  (p1 : Int32) (s : zq_S) : Option (Int32 × zq_S) :=
  zq_let (if p1 < (0 : Int32) then (0 : Int32) else (if (zgf s (zs (zgb s 3)) 7) ≤ p1 then (0 : Int32) else (if (10 : Int32) ≤ p1 then (0 : Int32) else (1 : Int32)))) (fun x1 =>
  zq_bz x1 (some (x1, s)))
set_option maxRecDepth 20000 in
set_option maxHeartbeats 2000000 in
theorem xX3_hasMark (N : Nat)  (p1 : Int32) (s : zq_S) : zq_X yX3_hasMark RX3 cX3_hasMark 2 (some .boolean) ⟨0, 0, 0, 0⟩ zv_i 0 [.ref 31, .int p1] [] s (mX3_hasMark N p1 s) := by
  unfold mX3_hasMark
  refine zx_lift (pc' := 1) (fun _ => zq_iload_n rfl rfl dX3_hasMark_0 rfl) ?_
  refine zx_tern (pcJ := 26) (lsJ := fun x1 => [.null, .null]) (stJ := fun x1 => [.int x1]) (fun x1 => ?_) (fun f hJ => ?_)
  rotate_left
  · refine zx_lif_lt (pc' := 4) (tgt := 25) dX3_hasMark_1 rfl rfl (fun _ => ?_) (fun _ => ?_)
    · refine zx_lift (pc' := 26) (fun _ => zq_iconst (v := 0) dX3_hasMark_25 rfl rfl) ?_
      exact zx_lessJ (zq_cz (zq_cz zq_cn)) (hJ _)
    · refine zx_lift (pc' := 5) (fun _ => zq_iload_n rfl rfl dX3_hasMark_4 rfl) ?_
      refine zx_lift (pc' := 6) (fun _ => zq_aload_n rfl rfl dX3_hasMark_5 rfl) ?_
      refine zx_lift (pc' := 9) (fun _ => zt_getP zfr_X3_34 zfd_31_0 dX3_hasMark_6 rfl) ?_
      refine zx_lift (pc' := 12) (fun _ => zt_getI zfr_X3_48 (zfd_s_7 (zgb s 3)) dX3_hasMark_9 rfl) ?_
      refine zx_licmp_ge (pc' := 15) (tgt := 25) dX3_hasMark_12 rfl rfl (fun _ => ?_) (fun _ => ?_)
      · refine zx_lift (pc' := 26) (fun _ => zq_iconst (v := 0) dX3_hasMark_25 rfl rfl) ?_
        exact zx_lessJ (zq_cz (zq_cz zq_cn)) (hJ _)
      · refine zx_lift (pc' := 16) (fun _ => zq_iload_n rfl rfl dX3_hasMark_15 rfl) ?_
        refine zx_lift (pc' := 18) (fun _ => zq_bipush (v := 10) dX3_hasMark_16 rfl rfl) ?_
        refine zx_licmp_ge (pc' := 21) (tgt := 25) dX3_hasMark_18 rfl rfl (fun _ => ?_) (fun _ => ?_)
        · refine zx_lift (pc' := 26) (fun _ => zq_iconst (v := 0) dX3_hasMark_25 rfl rfl) ?_
          exact zx_lessJ (zq_cz (zq_cz zq_cn)) (hJ _)
        · refine zx_lift (pc' := 22) (fun _ => zq_iconst (v := 1) dX3_hasMark_21 rfl rfl) ?_
          refine zx_lift (pc' := 26) (fun _ => zq_goto dX3_hasMark_22 rfl) ?_
          exact zx_lessJ (zq_cz (zq_cz zq_cn)) (hJ _)
  exact zx_zretg rfl dX3_hasMark_26
theorem cX3_hasMark_mc (N : Nat)  (p1 : Int32) (s : zq_S) (v : Int32 × zq_S) (h : mX3_hasMark N p1 s = some v) : zq_MC yX3_hasMark cX3_hasMark 2 (some .boolean) ⟨0, 0, 0, 0⟩ 0 0 [.ref 31, .int p1] (zq_en s) (zv_i v.1, zq_en v.2) := zq_MC_x [.ref 31, .int p1] (by decide +kernel) rfl rfl (Nat.le_of_ble_eq_true rfl) (xX3_hasMark N p1 s) h
def mX3_full (N : Nat)   (s : zq_S) : Option (Int32 × zq_S) :=
  some ((((1 : Int32) <<< ((zgf s (zs (zgb s 3)) 7) &&& 31)) - (1 : Int32)), s)
set_option maxRecDepth 20000 in
set_option maxHeartbeats 2000000 in
theorem xX3_full (N : Nat)   (s : zq_S) : zq_X yX3_full RX3 cX3_full 1 (some .int) ⟨0, 0, 0, 0⟩ zv_i 0 [.ref 31] [] s (mX3_full N s) := by
  unfold mX3_full
  refine zx_lift (pc' := 1) (fun _ => zq_iconst (v := 1) dX3_full_0 rfl rfl) ?_
  refine zx_lift (pc' := 2) (fun _ => zq_aload_n rfl rfl dX3_full_1 rfl) ?_
  refine zx_lift (pc' := 5) (fun _ => zt_getP zfr_X3_34 zfd_31_0 dX3_full_2 rfl) ?_
  refine zx_lift (pc' := 8) (fun _ => zt_getI zfr_X3_48 (zfd_s_7 (zgb s 3)) dX3_full_5 rfl) ?_
  refine zx_lift (pc' := 9) (fun _ => zq_ishl dX3_full_8 rfl) ?_
  refine zx_lift (pc' := 10) (fun _ => zq_iconst (v := 1) dX3_full_9 rfl rfl) ?_
  refine zx_lift (pc' := 11) (fun _ => zq_isub dX3_full_10 rfl) ?_
  exact zx_iret rfl dX3_full_11
theorem cX3_full_mc (N : Nat)   (s : zq_S) (v : Int32 × zq_S) (h : mX3_full N s = some v) : zq_MC yX3_full cX3_full 1 (some .int) ⟨0, 0, 0, 0⟩ 0 0 [.ref 31] (zq_en s) (zv_i v.1, zq_en v.2) := zq_MC_x [.ref 31] (by decide +kernel) rfl rfl (Nat.le_of_ble_eq_true rfl) (xX3_full N s) h
def jX3_isGood_j36 (N : Nat)  (f1 : Int32)  (self : Int32 × zq_S → Option (Int32 × zq_S)) (w2 : Int32) (s : zq_S) : Option (Int32 × zq_S) :=
  zq_let (w2 + (1 : Int32)) (fun x1 =>
  self (x1, s))
set_option maxRecDepth 20000 in
set_option maxHeartbeats 2000000 in
theorem xX3_isGood_j36_j (N : Nat)  (f1 : Int32)  (self : Int32 × zq_S → Option (Int32 × zq_S)) (hself : ∀ v, zq_X yX3_isGood RX3 cX3_isGood 3 (some .boolean) ⟨0, 0, 0, 0⟩ zv_i 2 [.ref 31, .int f1, .int v.1] [] v.2 (self v)) (w2 : Int32) (s : zq_S) : zq_X yX3_isGood RX3 cX3_isGood 3 (some .boolean) ⟨0, 0, 0, 0⟩ zv_i 36 [.ref 31, .int f1, .int w2] [] s (jX3_isGood_j36 N f1 self w2 s) := by
  unfold jX3_isGood_j36
  refine zx_iinc (pc' := 39) (ls' := fun x1 => [.ref 31, .int f1, .int x1]) rfl rfl (by decide) rfl (fun _ => rfl) dX3_isGood_36 rfl (fun x1 => ?_)
  refine zx_lift (pc' := 2) (fun _ => zq_goto dX3_isGood_39 rfl) ?_
  exact hself (x1, s)
def bX3_isGood_2 (N : Nat)  (f1 : Int32)  (self : Int32 × zq_S → Option (Int32 × zq_S)) (v : Int32 × zq_S) : Option (Int32 × zq_S) :=
  if (zgf v.2 (zs (zgb v.2 3)) 7) ≤ v.1 then
  some ((1 : Int32), v.2)
  else
  if ((f1 >>> (v.1 &&& 31)) &&& (1 : Int32)) = (0 : Int32) then
  jX3_isGood_j36 N f1 self v.1 v.2
  else
  zq_ck v.1 10 (
  if ((zga v.2 34 v.1) &&& (f1 ^^^ (-1 : Int32))) = (0 : Int32) then
  jX3_isGood_j36 N f1 self v.1 v.2
  else
  some ((0 : Int32), v.2))
set_option maxRecDepth 20000 in
set_option maxHeartbeats 2000000 in
theorem xX3_isGood_2 (N : Nat)  (f1 : Int32)  (self : Int32 × zq_S → Option (Int32 × zq_S)) (hself : ∀ v, zq_X yX3_isGood RX3 cX3_isGood 3 (some .boolean) ⟨0, 0, 0, 0⟩ zv_i 2 [.ref 31, .int f1, .int v.1] [] v.2 (self v)) (v : Int32 × zq_S) : zq_X yX3_isGood RX3 cX3_isGood 3 (some .boolean) ⟨0, 0, 0, 0⟩ zv_i 2 [.ref 31, .int f1, .int v.1] [] v.2 (bX3_isGood_2 N f1 self v) := by
  unfold bX3_isGood_2
  refine zx_lift (pc' := 3) (fun _ => zq_iload_n rfl rfl dX3_isGood_2 rfl) ?_
  refine zx_lift (pc' := 4) (fun _ => zq_aload_n rfl rfl dX3_isGood_3 rfl) ?_
  refine zx_lift (pc' := 7) (fun _ => zt_getP zfr_X3_34 zfd_31_0 dX3_isGood_4 rfl) ?_
  refine zx_lift (pc' := 10) (fun _ => zt_getI zfr_X3_48 (zfd_s_7 (zgb v.2 3)) dX3_isGood_7 rfl) ?_
  refine zx_icmp_ge (pc' := 13) (tgt := 42) dX3_isGood_10 rfl rfl (fun hc => ?_) (fun hc => ?_)
  · refine zx_lift (pc' := 43) (fun _ => zq_iconst (v := 1) dX3_isGood_42 rfl rfl) ?_
    exact zx_zret rfl (by decide) dX3_isGood_43
  · refine zx_lift (pc' := 14) (fun _ => zq_iload_n rfl rfl dX3_isGood_13 rfl) ?_
    refine zx_lift (pc' := 15) (fun _ => zq_iload_n rfl rfl dX3_isGood_14 rfl) ?_
    refine zx_lift (pc' := 16) (fun _ => zq_ishr dX3_isGood_15 rfl) ?_
    refine zx_lift (pc' := 17) (fun _ => zq_iconst (v := 1) dX3_isGood_16 rfl rfl) ?_
    refine zx_lift (pc' := 18) (fun _ => zq_iand dX3_isGood_17 rfl) ?_
    refine zx_if_eq (pc' := 21) (tgt := 36) dX3_isGood_18 rfl rfl (fun hc => ?_) (fun hc => ?_)
    · exact xX3_isGood_j36_j N f1 self hself v.1 v.2
    · refine zx_lift (pc' := 22) (fun _ => zq_aload_n rfl rfl dX3_isGood_21 rfl) ?_
      refine zx_lift (pc' := 25) (fun _ => zt_getR zfr_X3_18 zfd_31_3 dX3_isGood_22 rfl) ?_
      refine zx_lift (pc' := 26) (fun _ => zq_iload_n rfl rfl dX3_isGood_25 rfl) ?_
      refine zx_iaload (pc' := 27) zsh_34 dX3_isGood_26 rfl ?_
      refine zx_lift (pc' := 28) (fun _ => zq_iload_n rfl rfl dX3_isGood_27 rfl) ?_
      refine zx_lift (pc' := 29) (fun _ => zq_iconst (v := (-1)) dX3_isGood_28 rfl rfl) ?_
      refine zx_lift (pc' := 30) (fun _ => zq_ixor dX3_isGood_29 rfl) ?_
      refine zx_lift (pc' := 31) (fun _ => zq_iand dX3_isGood_30 rfl) ?_
      refine zx_if_eq (pc' := 34) (tgt := 36) dX3_isGood_31 rfl rfl (fun hc => ?_) (fun hc => ?_)
      · exact xX3_isGood_j36_j N f1 self hself v.1 v.2
      · refine zx_lift (pc' := 35) (fun _ => zq_iconst (v := 0) dX3_isGood_34 rfl rfl) ?_
        exact zx_zret rfl (by decide) dX3_isGood_35
theorem yX3_isGood_2 (N : Nat)  (f1 : Int32)  (n : Nat) : ∀ v : Int32 × zq_S, zq_X yX3_isGood RX3 cX3_isGood 3 (some .boolean) ⟨0, 0, 0, 0⟩ zv_i 2 [.ref 31, .int f1, .int v.1] [] v.2 (zq_loop (bX3_isGood_2 N f1 ) n v) := by
  induction n with
  | zero => exact fun v u hu => by cases hu
  | succ n ih =>
    intro v
    rw [zq_loop_s]
    exact xX3_isGood_2 N f1  (zq_loop (bX3_isGood_2 N f1 ) n) ih v
def mX3_isGood (N : Nat)  (p1 : Int32) (s : zq_S) : Option (Int32 × zq_S) :=
  zq_loop (bX3_isGood_2 N p1 ) N ((0 : Int32), s)
set_option maxRecDepth 20000 in
set_option maxHeartbeats 2000000 in
theorem xX3_isGood (N : Nat)  (p1 : Int32) (s : zq_S) : zq_X yX3_isGood RX3 cX3_isGood 3 (some .boolean) ⟨0, 0, 0, 0⟩ zv_i 0 [.ref 31, .int p1, .null] [] s (mX3_isGood N p1 s) := by
  unfold mX3_isGood
  refine zx_lift (pc' := 1) (fun _ => zq_iconst (v := 0) dX3_isGood_0 rfl rfl) ?_
  refine zx_lift (pc' := 2) (fun _ => zq_istore_n (ls' := [.ref 31, .int p1, .int (0 : Int32)]) rfl (by decide) rfl rfl dX3_isGood_1 rfl) ?_
  refine yX3_isGood_2 N p1  N ((0 : Int32), s)
theorem cX3_isGood_mc (N : Nat)  (p1 : Int32) (s : zq_S) (v : Int32 × zq_S) (h : mX3_isGood N p1 s = some v) : zq_MC yX3_isGood cX3_isGood 3 (some .boolean) ⟨0, 0, 0, 0⟩ 0 0 [.ref 31, .int p1] (zq_en s) (zv_i v.1, zq_en v.2) := zq_MC_x [.ref 31, .int p1, .null] (by decide +kernel) rfl rfl (Nat.le_of_ble_eq_true rfl) (xX3_isGood N p1 s) h
def jX3_goodCount_j75 (N : Nat)    (s : zq_S) : Option (Int32 × zq_S) :=
  some ((zgf s 31 7), s)
set_option maxRecDepth 20000 in
set_option maxHeartbeats 2000000 in
theorem xX3_goodCount_j75_j (N : Nat)    (s : zq_S) : zq_X yX3_goodCount RX3 cX3_goodCount 2 (some .int) ⟨1, 0, 0, 22⟩ zv_i 75 [.ref 31, .null] [] s (jX3_goodCount_j75 N s) := by
  unfold jX3_goodCount_j75
  refine zx_lift (pc' := 76) (fun _ => zq_aload_n rfl rfl dX3_goodCount_75 rfl) ?_
  refine zx_lift (pc' := 79) (fun _ => zt_getI zfr_X3_81 zfd_31_7 dX3_goodCount_76 rfl) ?_
  exact zx_iret rfl dX3_goodCount_79
def jX3_goodCount_j69 (N : Nat)   (k75 : zq_S → Option (Int32 × zq_S)) (self : Int32 × zq_S → Option (Int32 × zq_S)) (w1 : Int32) (s : zq_S) : Option (Int32 × zq_S) :=
  zq_let (w1 + (1 : Int32)) (fun x7 =>
  self (x7, s))
set_option maxRecDepth 20000 in
set_option maxHeartbeats 2000000 in
theorem xX3_goodCount_j69_j (N : Nat)   (k75 : zq_S → Option (Int32 × zq_S)) (hk75 : ∀ e, zq_X yX3_goodCount RX3 cX3_goodCount 2 (some .int) ⟨1, 0, 0, 22⟩ zv_i 75 [.ref 31, .null] [] e (k75 e)) (self : Int32 × zq_S → Option (Int32 × zq_S)) (hself : ∀ v, zq_X yX3_goodCount RX3 cX3_goodCount 2 (some .int) ⟨1, 0, 0, 22⟩ zv_i 26 [.ref 31, .int v.1] [] v.2 (self v)) (w1 : Int32) (s : zq_S) : zq_X yX3_goodCount RX3 cX3_goodCount 2 (some .int) ⟨1, 0, 0, 22⟩ zv_i 69 [.ref 31, .int w1] [] s (jX3_goodCount_j69 N k75 self w1 s) := by
  unfold jX3_goodCount_j69
  refine zx_iinc (pc' := 72) (ls' := fun x7 => [.ref 31, .int x7]) rfl rfl (by decide) rfl (fun _ => rfl) dX3_goodCount_69 rfl (fun x7 => ?_)
  refine zx_lift (pc' := 26) (fun _ => zq_goto dX3_goodCount_72 rfl) ?_
  exact hself (x7, s)
def bX3_goodCount_26 (N : Nat)   (k75 : zq_S → Option (Int32 × zq_S)) (self : Int32 × zq_S → Option (Int32 × zq_S)) (v : Int32 × zq_S) : Option (Int32 × zq_S) :=
  zq_b2 (mX3_full N v.2) (fun r3 s4 =>
  if r3 < v.1 then
  k75 s4
  else
  if (1024 : Int32) ≤ v.1 then
  k75 s4
  else
  zq_b2 (mX3_isGood N v.1 s4) (fun r5 s6 =>
  if r5 = (0 : Int32) then
  jX3_goodCount_j69 N k75 self v.1 s6
  else
  zq_ck (zgf s6 31 7) 1024 (
  zq_let (zpa s6 37 (zgf s6 31 7) v.1) (fun s8 =>
  zq_let (zpf s8 31 7 ((zgf s8 31 7) + (1 : Int32))) (fun s9 =>
  jX3_goodCount_j69 N k75 self v.1 s9)))))
set_option maxRecDepth 20000 in
set_option maxHeartbeats 2000000 in
theorem xX3_goodCount_26 (N : Nat)   (k75 : zq_S → Option (Int32 × zq_S)) (hk75 : ∀ e, zq_X yX3_goodCount RX3 cX3_goodCount 2 (some .int) ⟨1, 0, 0, 22⟩ zv_i 75 [.ref 31, .null] [] e (k75 e)) (self : Int32 × zq_S → Option (Int32 × zq_S)) (hself : ∀ v, zq_X yX3_goodCount RX3 cX3_goodCount 2 (some .int) ⟨1, 0, 0, 22⟩ zv_i 26 [.ref 31, .int v.1] [] v.2 (self v)) (v : Int32 × zq_S) : zq_X yX3_goodCount RX3 cX3_goodCount 2 (some .int) ⟨1, 0, 0, 22⟩ zv_i 26 [.ref 31, .int v.1] [] v.2 (bX3_goodCount_26 N k75 self v) := by
  unfold bX3_goodCount_26
  refine zx_lift (pc' := 27) (fun _ => zq_iload_n rfl rfl dX3_goodCount_26 rfl) ?_
  refine zx_lift (pc' := 28) (fun _ => zq_aload_n rfl rfl dX3_goodCount_27 rfl) ?_
  refine zx_cVi (pc' := 31) zcv_X3_53 (cX3_full_mc N v.2) zob_31 rfl (by decide) (Nat.le_of_ble_eq_true rfl) dX3_goodCount_28 rfl rfl (fun r3 s4 => ?_)
  refine zx_icmp_gt (pc' := 34) (tgt := 75) dX3_goodCount_31 rfl rfl (fun hc => ?_) (fun hc => ?_)
  · refine zx_less [.ref 31, .null] (zq_cr (zq_cz zq_cn)) ?_
    exact hk75 s4
  · refine zx_lift (pc' := 35) (fun _ => zq_iload_n rfl rfl dX3_goodCount_34 rfl) ?_
    refine zx_lift (pc' := 38) (fun _ => zq_sipush (v := 1024) dX3_goodCount_35 rfl rfl) ?_
    refine zx_icmp_ge (pc' := 41) (tgt := 75) dX3_goodCount_38 rfl rfl (fun hc => ?_) (fun hc => ?_)
    · refine zx_less [.ref 31, .null] (zq_cr (zq_cz zq_cn)) ?_
      exact hk75 s4
    · refine zx_lift (pc' := 42) (fun _ => zq_aload_n rfl rfl dX3_goodCount_41 rfl) ?_
      refine zx_lift (pc' := 43) (fun _ => zq_iload_n rfl rfl dX3_goodCount_42 rfl) ?_
      refine zx_cVi (pc' := 46) zcv_X3_78 (cX3_isGood_mc N v.1 s4) zob_31 rfl (by decide) (Nat.le_of_ble_eq_true rfl) dX3_goodCount_43 rfl rfl (fun r5 s6 => ?_)
      refine zx_if_eq (pc' := 49) (tgt := 69) dX3_goodCount_46 rfl rfl (fun hc => ?_) (fun hc => ?_)
      · exact xX3_goodCount_j69_j N k75 hk75 self hself v.1 s6
      · refine zx_lift (pc' := 50) (fun _ => zq_aload_n rfl rfl dX3_goodCount_49 rfl) ?_
        refine zx_lift (pc' := 53) (fun _ => zt_getR zfr_X3_27 zfd_31_6 dX3_goodCount_50 rfl) ?_
        refine zx_lift (pc' := 54) (fun _ => zq_aload_n rfl rfl dX3_goodCount_53 rfl) ?_
        refine zx_lift (pc' := 57) (fun _ => zt_getI zfr_X3_81 zfd_31_7 dX3_goodCount_54 rfl) ?_
        refine zx_lift (pc' := 58) (fun _ => zq_iload_n rfl rfl dX3_goodCount_57 rfl) ?_
        refine zx_iastore (pc' := 59) zsh_37 dX3_goodCount_58 rfl (fun s8 => ?_)
        refine zx_lift (pc' := 60) (fun _ => zq_aload_n rfl rfl dX3_goodCount_59 rfl) ?_
        refine zx_lift (pc' := 61) (fun _ => zq_dup rfl dX3_goodCount_60 rfl) ?_
        refine zx_lift (pc' := 64) (fun _ => zt_getI zfr_X3_81 zfd_31_7 dX3_goodCount_61 rfl) ?_
        refine zx_lift (pc' := 65) (fun _ => zq_iconst (v := 1) dX3_goodCount_64 rfl rfl) ?_
        refine zx_lift (pc' := 66) (fun _ => zq_iadd dX3_goodCount_65 rfl) ?_
        refine zx_putI (pc' := 69) zfr_X3_81 (fun _ => ⟨rfl, rfl⟩) zfd_31_7 dX3_goodCount_66 rfl (fun s9 => ?_)
        exact xX3_goodCount_j69_j N k75 hk75 self hself v.1 s9
theorem yX3_goodCount_26 (N : Nat)   (k75 : zq_S → Option (Int32 × zq_S)) (hk75 : ∀ e, zq_X yX3_goodCount RX3 cX3_goodCount 2 (some .int) ⟨1, 0, 0, 22⟩ zv_i 75 [.ref 31, .null] [] e (k75 e)) (n : Nat) : ∀ v : Int32 × zq_S, zq_X yX3_goodCount RX3 cX3_goodCount 2 (some .int) ⟨1, 0, 0, 22⟩ zv_i 26 [.ref 31, .int v.1] [] v.2 (zq_loop (bX3_goodCount_26 N k75) n v) := by
  induction n with
  | zero => exact fun v u hu => by cases hu
  | succ n ih =>
    intro v
    rw [zq_loop_s]
    exact xX3_goodCount_26 N k75 hk75 (zq_loop (bX3_goodCount_26 N k75) n) ih v
def mX3_goodCount (N : Nat)   (s : zq_S) : Option (Int32 × zq_S) :=
  if (zgf s 31 9) = (zgf s 31 8) then
  jX3_goodCount_j75 N s
  else
  zq_let (zpf s 31 9 (zgf s 31 8)) (fun s1 =>
  zq_let (zpf s1 31 7 (0 : Int32)) (fun s2 =>
  zq_loop (bX3_goodCount_26 N (fun e10 =>
  jX3_goodCount_j75 N e10)) N ((0 : Int32), s2)))
set_option maxRecDepth 20000 in
set_option maxHeartbeats 2000000 in
theorem xX3_goodCount (N : Nat)   (s : zq_S) : zq_X yX3_goodCount RX3 cX3_goodCount 2 (some .int) ⟨1, 0, 0, 22⟩ zv_i 0 [.ref 31, .null] [] s (mX3_goodCount N s) := by
  unfold mX3_goodCount
  refine zx_lift (pc' := 1) (fun _ => zq_aload_n rfl rfl dX3_goodCount_0 rfl) ?_
  refine zx_lift (pc' := 4) (fun _ => zt_getI zfr_X3_30 zfd_31_9 dX3_goodCount_1 rfl) ?_
  refine zx_lift (pc' := 5) (fun _ => zq_aload_n rfl rfl dX3_goodCount_4 rfl) ?_
  refine zx_lift (pc' := 8) (fun _ => zt_getI zfr_X3_66 zfd_31_8 dX3_goodCount_5 rfl) ?_
  refine zx_icmp_eq (pc' := 11) (tgt := 75) dX3_goodCount_8 rfl rfl (fun hc => ?_) (fun hc => ?_)
  · exact xX3_goodCount_j75_j N s
  · refine zx_lift (pc' := 12) (fun _ => zq_aload_n rfl rfl dX3_goodCount_11 rfl) ?_
    refine zx_lift (pc' := 13) (fun _ => zq_aload_n rfl rfl dX3_goodCount_12 rfl) ?_
    refine zx_lift (pc' := 16) (fun _ => zt_getI zfr_X3_66 zfd_31_8 dX3_goodCount_13 rfl) ?_
    refine zx_putI (pc' := 19) zfr_X3_30 (fun _ => ⟨rfl, rfl⟩) zfd_31_9 dX3_goodCount_16 rfl (fun s1 => ?_)
    refine zx_lift (pc' := 20) (fun _ => zq_aload_n rfl rfl dX3_goodCount_19 rfl) ?_
    refine zx_lift (pc' := 21) (fun _ => zq_iconst (v := 0) dX3_goodCount_20 rfl rfl) ?_
    refine zx_putI (pc' := 24) zfr_X3_81 (fun _ => ⟨rfl, rfl⟩) zfd_31_7 dX3_goodCount_21 rfl (fun s2 => ?_)
    refine zx_lift (pc' := 25) (fun _ => zq_iconst (v := 0) dX3_goodCount_24 rfl rfl) ?_
    refine zx_lift (pc' := 26) (fun _ => zq_istore_n (ls' := [.ref 31, .int (0 : Int32)]) rfl (by decide) rfl rfl dX3_goodCount_25 rfl) ?_
    refine yX3_goodCount_26 N _ (fun e10 => ?_) N ((0 : Int32), s2)
    exact xX3_goodCount_j75_j N e10
theorem cX3_goodCount_mc (N : Nat)   (s : zq_S) (v : Int32 × zq_S) (h : mX3_goodCount N s = some v) : zq_MC yX3_goodCount cX3_goodCount 2 (some .int) ⟨1, 0, 0, 22⟩ 0 0 [.ref 31] (zq_en s) (zv_i v.1, zq_en v.2) := zq_MC_x [.ref 31, .null] (by decide +kernel) rfl rfl (Nat.le_of_ble_eq_true rfl) (xX3_goodCount N s) h
def jX3_goodAt_j22 (N : Nat)   (t0 : Int32) (s : zq_S) : Option (Int32 × zq_S) :=
  some (t0, s)
set_option maxRecDepth 20000 in
set_option maxHeartbeats 2000000 in
theorem xX3_goodAt_j22_j (N : Nat)   (t0 : Int32) (s : zq_S) : zq_X yX3_goodAt RX3 cX3_goodAt 2 (some .int) ⟨2, 0, 0, 43⟩ zv_i 22 [.null, .null] [.int t0] s (jX3_goodAt_j22 N t0 s) := by
  unfold jX3_goodAt_j22
  exact zx_iret rfl dX3_goodAt_22
def jX3_goodAt_j12 (N : Nat)    (s : zq_S) : Option (Int32 × zq_S) :=
  jX3_goodAt_j22 N (-1 : Int32) s
set_option maxRecDepth 20000 in
set_option maxHeartbeats 2000000 in
theorem xX3_goodAt_j12_j (N : Nat)    (s : zq_S) : zq_X yX3_goodAt RX3 cX3_goodAt 2 (some .int) ⟨2, 0, 0, 43⟩ zv_i 12 [.null, .null] [] s (jX3_goodAt_j12 N s) := by
  unfold jX3_goodAt_j12
  refine zx_lift (pc' := 13) (fun _ => zq_iconst (v := (-1)) dX3_goodAt_12 rfl rfl) ?_
  refine zx_lift (pc' := 22) (fun _ => zq_goto dX3_goodAt_13 rfl) ?_
  exact xX3_goodAt_j22_j N (-1 : Int32) s
def mX3_goodAt (N : Nat)  (p1 : Int32) (s : zq_S) : Option (Int32 × zq_S) :=
  if p1 < (0 : Int32) then
  jX3_goodAt_j12 N s
  else
  zq_b2 (mX3_goodCount N s) (fun r1 s2 =>
  if p1 < r1 then
  zq_ck p1 1024 (
  jX3_goodAt_j22 N (zga s2 37 p1) s2)
  else
  jX3_goodAt_j12 N s2)
set_option maxRecDepth 20000 in
set_option maxHeartbeats 2000000 in
theorem xX3_goodAt (N : Nat)  (p1 : Int32) (s : zq_S) : zq_X yX3_goodAt RX3 cX3_goodAt 2 (some .int) ⟨2, 0, 0, 43⟩ zv_i 0 [.ref 31, .int p1] [] s (mX3_goodAt N p1 s) := by
  unfold mX3_goodAt
  refine zx_lift (pc' := 1) (fun _ => zq_iload_n rfl rfl dX3_goodAt_0 rfl) ?_
  refine zx_if_lt (pc' := 4) (tgt := 12) dX3_goodAt_1 rfl rfl (fun hc => ?_) (fun hc => ?_)
  · refine zx_less [.null, .null] (zq_cz (zq_cz zq_cn)) ?_
    exact xX3_goodAt_j12_j N s
  · refine zx_lift (pc' := 5) (fun _ => zq_iload_n rfl rfl dX3_goodAt_4 rfl) ?_
    refine zx_lift (pc' := 6) (fun _ => zq_aload_n rfl rfl dX3_goodAt_5 rfl) ?_
    refine zx_cVi (pc' := 9) zcv_X3_84 (cX3_goodCount_mc N s) zob_31 rfl (by decide) (Nat.le_of_ble_eq_true rfl) dX3_goodAt_6 rfl rfl (fun r1 s2 => ?_)
    refine zx_icmp_lt (pc' := 12) (tgt := 16) dX3_goodAt_9 rfl rfl (fun hc => ?_) (fun hc => ?_)
    · refine zx_lift (pc' := 17) (fun _ => zq_aload_n rfl rfl dX3_goodAt_16 rfl) ?_
      refine zx_lift (pc' := 20) (fun _ => zt_getR zfr_X3_27 zfd_31_6 dX3_goodAt_17 rfl) ?_
      refine zx_lift (pc' := 21) (fun _ => zq_iload_n rfl rfl dX3_goodAt_20 rfl) ?_
      refine zx_iaload (pc' := 22) zsh_37 dX3_goodAt_21 rfl ?_
      refine zx_less [.null, .null] (zq_cz (zq_cz zq_cn)) ?_
      exact xX3_goodAt_j22_j N (zga s2 37 p1) s2
    · refine zx_less [.null, .null] (zq_cz (zq_cz zq_cn)) ?_
      exact xX3_goodAt_j12_j N s2
theorem cX3_goodAt_mc (N : Nat)  (p1 : Int32) (s : zq_S) (v : Int32 × zq_S) (h : mX3_goodAt N p1 s = some v) : zq_MC yX3_goodAt cX3_goodAt 2 (some .int) ⟨2, 0, 0, 43⟩ 0 0 [.ref 31, .int p1] (zq_en s) (zv_i v.1, zq_en v.2) := zq_MC_x [.ref 31, .int p1] (by decide +kernel) rfl rfl (Nat.le_of_ble_eq_true rfl) (xX3_goodAt N p1 s) h
def jX3_following_j42 (N : Nat)  (f1 : Int32)  (self : Int32 × Int32 × zq_S → Option (Int32 × zq_S)) (w2 : Int32) (w3 : Int32) (s : zq_S) : Option (Int32 × zq_S) :=
  zq_let (w3 + (1 : Int32)) (fun x1 =>
  self (w2, x1, s))
set_option maxRecDepth 20000 in
set_option maxHeartbeats 2000000 in
theorem xX3_following_j42_j (N : Nat)  (f1 : Int32)  (self : Int32 × Int32 × zq_S → Option (Int32 × zq_S)) (hself : ∀ v, zq_X yX3_following RX3 cX3_following 4 (some .int) ⟨0, 0, 0, 0⟩ zv_i 4 [.ref 31, .int f1, .int v.1, .int v.2.1] [] v.2.2 (self v)) (w2 : Int32) (w3 : Int32) (s : zq_S) : zq_X yX3_following RX3 cX3_following 4 (some .int) ⟨0, 0, 0, 0⟩ zv_i 42 [.ref 31, .int f1, .int w2, .int w3] [] s (jX3_following_j42 N f1 self w2 w3 s) := by
  unfold jX3_following_j42
  refine zx_iinc (pc' := 45) (ls' := fun x1 => [.ref 31, .int f1, .int w2, .int x1]) rfl rfl (by decide) rfl (fun _ => rfl) dX3_following_42 rfl (fun x1 => ?_)
  refine zx_lift (pc' := 4) (fun _ => zq_goto dX3_following_45 rfl) ?_
  exact hself (w2, x1, s)
def bX3_following_4 (N : Nat)  (f1 : Int32)  (self : Int32 × Int32 × zq_S → Option (Int32 × zq_S)) (v : Int32 × Int32 × zq_S) : Option (Int32 × zq_S) :=
  if (zgf v.2.2 (zs (zgb v.2.2 3)) 7) ≤ v.2.1 then
  some (v.1, v.2.2)
  else
  if ((f1 >>> (v.2.1 &&& 31)) &&& (1 : Int32)) = (0 : Int32) then
  zq_ck v.2.1 10 (
  if ((zga v.2.2 34 v.2.1) &&& (f1 ^^^ (-1 : Int32))) = (0 : Int32) then
  zq_let (v.1 ||| ((1 : Int32) <<< (v.2.1 &&& 31))) (fun x2 =>
  jX3_following_j42 N f1 self x2 v.2.1 v.2.2)
  else
  jX3_following_j42 N f1 self v.1 v.2.1 v.2.2)
  else
  jX3_following_j42 N f1 self v.1 v.2.1 v.2.2
set_option maxRecDepth 20000 in
set_option maxHeartbeats 2000000 in
theorem xX3_following_4 (N : Nat)  (f1 : Int32)  (self : Int32 × Int32 × zq_S → Option (Int32 × zq_S)) (hself : ∀ v, zq_X yX3_following RX3 cX3_following 4 (some .int) ⟨0, 0, 0, 0⟩ zv_i 4 [.ref 31, .int f1, .int v.1, .int v.2.1] [] v.2.2 (self v)) (v : Int32 × Int32 × zq_S) : zq_X yX3_following RX3 cX3_following 4 (some .int) ⟨0, 0, 0, 0⟩ zv_i 4 [.ref 31, .int f1, .int v.1, .int v.2.1] [] v.2.2 (bX3_following_4 N f1 self v) := by
  unfold bX3_following_4
  refine zx_lift (pc' := 5) (fun _ => zq_iload_n rfl rfl dX3_following_4 rfl) ?_
  refine zx_lift (pc' := 6) (fun _ => zq_aload_n rfl rfl dX3_following_5 rfl) ?_
  refine zx_lift (pc' := 9) (fun _ => zt_getP zfr_X3_34 zfd_31_0 dX3_following_6 rfl) ?_
  refine zx_lift (pc' := 12) (fun _ => zt_getI zfr_X3_48 (zfd_s_7 (zgb v.2.2 3)) dX3_following_9 rfl) ?_
  refine zx_icmp_ge (pc' := 15) (tgt := 48) dX3_following_12 rfl rfl (fun hc => ?_) (fun hc => ?_)
  · refine zx_lift (pc' := 49) (fun _ => zq_iload_n rfl rfl dX3_following_48 rfl) ?_
    exact zx_iret rfl dX3_following_49
  · refine zx_lift (pc' := 16) (fun _ => zq_iload_n rfl rfl dX3_following_15 rfl) ?_
    refine zx_lift (pc' := 17) (fun _ => zq_iload_n rfl rfl dX3_following_16 rfl) ?_
    refine zx_lift (pc' := 18) (fun _ => zq_ishr dX3_following_17 rfl) ?_
    refine zx_lift (pc' := 19) (fun _ => zq_iconst (v := 1) dX3_following_18 rfl rfl) ?_
    refine zx_lift (pc' := 20) (fun _ => zq_iand dX3_following_19 rfl) ?_
    refine zx_if_ne (pc' := 23) (tgt := 42) dX3_following_20 rfl rfl (fun hc => ?_) (fun hc => ?_)
    · exact xX3_following_j42_j N f1 self hself v.1 v.2.1 v.2.2
    · refine zx_lift (pc' := 24) (fun _ => zq_aload_n rfl rfl dX3_following_23 rfl) ?_
      refine zx_lift (pc' := 27) (fun _ => zt_getR zfr_X3_18 zfd_31_3 dX3_following_24 rfl) ?_
      refine zx_lift (pc' := 28) (fun _ => zq_iload_n rfl rfl dX3_following_27 rfl) ?_
      refine zx_iaload (pc' := 29) zsh_34 dX3_following_28 rfl ?_
      refine zx_lift (pc' := 30) (fun _ => zq_iload_n rfl rfl dX3_following_29 rfl) ?_
      refine zx_lift (pc' := 31) (fun _ => zq_iconst (v := (-1)) dX3_following_30 rfl rfl) ?_
      refine zx_lift (pc' := 32) (fun _ => zq_ixor dX3_following_31 rfl) ?_
      refine zx_lift (pc' := 33) (fun _ => zq_iand dX3_following_32 rfl) ?_
      refine zx_if_ne (pc' := 36) (tgt := 42) dX3_following_33 rfl rfl (fun hc => ?_) (fun hc => ?_)
      · exact xX3_following_j42_j N f1 self hself v.1 v.2.1 v.2.2
      · refine zx_lift (pc' := 37) (fun _ => zq_iload_n rfl rfl dX3_following_36 rfl) ?_
        refine zx_lift (pc' := 38) (fun _ => zq_iconst (v := 1) dX3_following_37 rfl rfl) ?_
        refine zx_lift (pc' := 39) (fun _ => zq_iload_n rfl rfl dX3_following_38 rfl) ?_
        refine zx_lift (pc' := 40) (fun _ => zq_ishl dX3_following_39 rfl) ?_
        refine zx_lift (pc' := 41) (fun _ => zq_ior dX3_following_40 rfl) ?_
        refine zx_istore_n (pc' := 42) (ls' := fun x2 => [.ref 31, .int f1, .int x2, .int v.2.1]) rfl (by decide) rfl (fun _ => rfl) dX3_following_41 rfl (fun x2 => ?_)
        exact xX3_following_j42_j N f1 self hself x2 v.2.1 v.2.2
theorem yX3_following_4 (N : Nat)  (f1 : Int32)  (n : Nat) : ∀ v : Int32 × Int32 × zq_S, zq_X yX3_following RX3 cX3_following 4 (some .int) ⟨0, 0, 0, 0⟩ zv_i 4 [.ref 31, .int f1, .int v.1, .int v.2.1] [] v.2.2 (zq_loop (bX3_following_4 N f1 ) n v) := by
  induction n with
  | zero => exact fun v u hu => by cases hu
  | succ n ih =>
    intro v
    rw [zq_loop_s]
    exact xX3_following_4 N f1  (zq_loop (bX3_following_4 N f1 ) n) ih v
def mX3_following (N : Nat)  (p1 : Int32) (s : zq_S) : Option (Int32 × zq_S) :=
  zq_loop (bX3_following_4 N p1 ) N ((0 : Int32), (0 : Int32), s)
set_option maxRecDepth 20000 in
set_option maxHeartbeats 2000000 in
theorem xX3_following (N : Nat)  (p1 : Int32) (s : zq_S) : zq_X yX3_following RX3 cX3_following 4 (some .int) ⟨0, 0, 0, 0⟩ zv_i 0 [.ref 31, .int p1, .null, .null] [] s (mX3_following N p1 s) := by
  unfold mX3_following
  refine zx_lift (pc' := 1) (fun _ => zq_iconst (v := 0) dX3_following_0 rfl rfl) ?_
  refine zx_lift (pc' := 2) (fun _ => zq_istore_n (ls' := [.ref 31, .int p1, .int (0 : Int32), .null]) rfl (by decide) rfl rfl dX3_following_1 rfl) ?_
  refine zx_lift (pc' := 3) (fun _ => zq_iconst (v := 0) dX3_following_2 rfl rfl) ?_
  refine zx_lift (pc' := 4) (fun _ => zq_istore_n (ls' := [.ref 31, .int p1, .int (0 : Int32), .int (0 : Int32)]) rfl (by decide) rfl rfl dX3_following_3 rfl) ?_
  refine yX3_following_4 N p1  N ((0 : Int32), (0 : Int32), s)
theorem cX3_following_mc (N : Nat)  (p1 : Int32) (s : zq_S) (v : Int32 × zq_S) (h : mX3_following N p1 s = some v) : zq_MC yX3_following cX3_following 4 (some .int) ⟨0, 0, 0, 0⟩ 0 0 [.ref 31, .int p1] (zq_en s) (zv_i v.1, zq_en v.2) := zq_MC_x [.ref 31, .int p1, .null, .null] (by decide +kernel) rfl rfl (Nat.le_of_ble_eq_true rfl) (xX3_following N p1 s) h
def jX4_waysOn_a1_j43 (N : Nat)  (f1 : Int32) (f5 : Int32)  (self : Int64 × Int32 × zq_S → Option (Int64 × zq_S)) (w3 : Int64) (w6 : Int32) (s : zq_S) : Option (Int64 × zq_S) :=
  zq_let (w6 + (1 : Int32)) (fun x3 =>
  self (w3, x3, s))
set_option maxRecDepth 20000 in
set_option maxHeartbeats 2000000 in
theorem xX4_waysOn_a1_j43_j (N : Nat)  (f1 : Int32) (f5 : Int32)  (self : Int64 × Int32 × zq_S → Option (Int64 × zq_S)) (hself : ∀ v, zq_X yX4_waysOn RX4 cX4_waysOn 7 (some .long) ⟨1, 0, 0, 23⟩ zv_l 15 [.null, .int f1, .ref 1, .long v.1, .null, .int f5, .int v.2.1] [] v.2.2 (self v)) (w3 : Int64) (w6 : Int32) (s : zq_S) : zq_X yX4_waysOn RX4 cX4_waysOn 7 (some .long) ⟨1, 0, 0, 23⟩ zv_l 43 [.null, .int f1, .ref 1, .long w3, .null, .int f5, .int w6] [] s (jX4_waysOn_a1_j43 N f1 f5 self w3 w6 s) := by
  unfold jX4_waysOn_a1_j43
  refine zx_iinc (pc' := 46) (ls' := fun x3 => [.null, .int f1, .ref 1, .long w3, .null, .int f5, .int x3]) rfl rfl (by decide) rfl (fun _ => rfl) dX4_waysOn_43 rfl (fun x3 => ?_)
  refine zx_lift (pc' := 15) (fun _ => zq_goto dX4_waysOn_46 rfl) ?_
  exact hself (w3, x3, s)
def bX4_waysOn_a1_15 (N : Nat)  (f1 : Int32) (f5 : Int32)  (self : Int64 × Int32 × zq_S → Option (Int64 × zq_S)) (v : Int64 × Int32 × zq_S) : Option (Int64 × zq_S) :=
  if (10 : Int32) ≤ v.2.1 then
  some (v.1, v.2.2)
  else
  if ((f5 >>> (v.2.1 &&& 31)) &&& (1 : Int32)) = (0 : Int32) then
  jX4_waysOn_a1_j43 N f1 f5 self v.1 v.2.1 v.2.2
  else
  zq_ck (f1 ||| ((1 : Int32) <<< (v.2.1 &&& 31))) 4096 (
  zq_let (v.1 + (zgl v.2.2 1 (f1 ||| ((1 : Int32) <<< (v.2.1 &&& 31))))) (fun x4 =>
  jX4_waysOn_a1_j43 N f1 f5 self x4 v.2.1 v.2.2))
set_option maxRecDepth 20000 in
set_option maxHeartbeats 2000000 in
theorem xX4_waysOn_a1_15 (N : Nat)  (f1 : Int32) (f5 : Int32)  (self : Int64 × Int32 × zq_S → Option (Int64 × zq_S)) (hself : ∀ v, zq_X yX4_waysOn RX4 cX4_waysOn 7 (some .long) ⟨1, 0, 0, 23⟩ zv_l 15 [.null, .int f1, .ref 1, .long v.1, .null, .int f5, .int v.2.1] [] v.2.2 (self v)) (v : Int64 × Int32 × zq_S) : zq_X yX4_waysOn RX4 cX4_waysOn 7 (some .long) ⟨1, 0, 0, 23⟩ zv_l 15 [.null, .int f1, .ref 1, .long v.1, .null, .int f5, .int v.2.1] [] v.2.2 (bX4_waysOn_a1_15 N f1 f5 self v) := by
  unfold bX4_waysOn_a1_15
  refine zx_lift (pc' := 17) (fun _ => zq_iload rfl dX4_waysOn_15 rfl) ?_
  refine zx_lift (pc' := 19) (fun _ => zq_bipush (v := 10) dX4_waysOn_17 rfl rfl) ?_
  refine zx_icmp_ge (pc' := 22) (tgt := 49) dX4_waysOn_19 rfl rfl (fun hc => ?_) (fun hc => ?_)
  · refine zx_lift (pc' := 50) (fun _ => zq_lload_n rfl rfl dX4_waysOn_49 rfl) ?_
    exact zx_lret rfl dX4_waysOn_50
  · refine zx_lift (pc' := 24) (fun _ => zq_iload rfl dX4_waysOn_22 rfl) ?_
    refine zx_lift (pc' := 26) (fun _ => zq_iload rfl dX4_waysOn_24 rfl) ?_
    refine zx_lift (pc' := 27) (fun _ => zq_ishr dX4_waysOn_26 rfl) ?_
    refine zx_lift (pc' := 28) (fun _ => zq_iconst (v := 1) dX4_waysOn_27 rfl rfl) ?_
    refine zx_lift (pc' := 29) (fun _ => zq_iand dX4_waysOn_28 rfl) ?_
    refine zx_if_eq (pc' := 32) (tgt := 43) dX4_waysOn_29 rfl rfl (fun hc => ?_) (fun hc => ?_)
    · exact xX4_waysOn_a1_j43_j N f1 f5 self hself v.1 v.2.1 v.2.2
    · refine zx_lift (pc' := 33) (fun _ => zq_lload_n rfl rfl dX4_waysOn_32 rfl) ?_
      refine zx_lift (pc' := 34) (fun _ => zq_aload_n rfl rfl dX4_waysOn_33 rfl) ?_
      refine zx_lift (pc' := 35) (fun _ => zq_iload_n rfl rfl dX4_waysOn_34 rfl) ?_
      refine zx_lift (pc' := 36) (fun _ => zq_iconst (v := 1) dX4_waysOn_35 rfl rfl) ?_
      refine zx_lift (pc' := 38) (fun _ => zq_iload rfl dX4_waysOn_36 rfl) ?_
      refine zx_lift (pc' := 39) (fun _ => zq_ishl dX4_waysOn_38 rfl) ?_
      refine zx_lift (pc' := 40) (fun _ => zq_ior dX4_waysOn_39 rfl) ?_
      refine zx_laload (pc' := 41) zsh_1 dX4_waysOn_40 rfl ?_
      refine zx_lift (pc' := 42) (fun _ => zq_ladd dX4_waysOn_41 rfl) ?_
      refine zx_lstore_n (pc' := 43) (ls' := fun x4 => [.null, .int f1, .ref 1, .long x4, .null, .int f5, .int v.2.1]) rfl (by decide) rfl (fun _ => rfl) dX4_waysOn_42 rfl (fun x4 => ?_)
      exact xX4_waysOn_a1_j43_j N f1 f5 self hself x4 v.2.1 v.2.2
theorem yX4_waysOn_a1_15 (N : Nat)  (f1 : Int32) (f5 : Int32)  (n : Nat) : ∀ v : Int64 × Int32 × zq_S, zq_X yX4_waysOn RX4 cX4_waysOn 7 (some .long) ⟨1, 0, 0, 23⟩ zv_l 15 [.null, .int f1, .ref 1, .long v.1, .null, .int f5, .int v.2.1] [] v.2.2 (zq_loop (bX4_waysOn_a1_15 N f1 f5 ) n v) := by
  induction n with
  | zero => exact fun v u hu => by cases hu
  | succ n ih =>
    intro v
    rw [zq_loop_s]
    exact xX4_waysOn_a1_15 N f1 f5  (zq_loop (bX4_waysOn_a1_15 N f1 f5 ) n) ih v
def mX4_waysOn_a1 (N : Nat)  (p1 : Int32) (s : zq_S) : Option (Int64 × zq_S) :=
  zq_b2 (mX3_following N p1 s) (fun r1 s2 =>
  zq_loop (bX4_waysOn_a1_15 N p1 r1 ) N ((0 : Int64), (0 : Int32), s2))
set_option maxRecDepth 20000 in
set_option maxHeartbeats 2000000 in
theorem xX4_waysOn_a1 (N : Nat)  (p1 : Int32) (s : zq_S) : zq_X yX4_waysOn RX4 cX4_waysOn 7 (some .long) ⟨1, 0, 0, 23⟩ zv_l 0 [.ref 44, .int p1, .ref 1, .null, .null, .null, .null] [] s (mX4_waysOn_a1 N p1 s) := by
  unfold mX4_waysOn_a1
  refine zx_lift (pc' := 1) (fun _ => zq_lconst (v := 0) dX4_waysOn_0 rfl rfl) ?_
  refine zx_lift (pc' := 2) (fun _ => zq_lstore_n (ls' := [.ref 44, .int p1, .ref 1, .long (0 : Int64), .null, .null, .null]) rfl (by decide) rfl rfl dX4_waysOn_1 rfl) ?_
  refine zx_lift (pc' := 3) (fun _ => zq_aload_n rfl rfl dX4_waysOn_2 rfl) ?_
  refine zx_lift (pc' := 6) (fun _ => zt_getR zfr_X4_19 zfd_44_0 dX4_waysOn_3 rfl) ?_
  refine zx_lift (pc' := 7) (fun _ => zq_iload_n rfl rfl dX4_waysOn_6 rfl) ?_
  refine zx_cVi (pc' := 10) zcv_X4_57 (cX3_following_mc N p1 s) zob_31 rfl (by decide) (Nat.le_of_ble_eq_true rfl) dX4_waysOn_7 rfl rfl (fun r1 s2 => ?_)
  refine zx_lift (pc' := 12) (fun _ => zq_istore (ls' := [.ref 44, .int p1, .ref 1, .long (0 : Int64), .null, .int r1, .null]) (by decide) rfl rfl dX4_waysOn_10 rfl) ?_
  refine zx_lift (pc' := 13) (fun _ => zq_iconst (v := 0) dX4_waysOn_12 rfl rfl) ?_
  refine zx_lift (pc' := 15) (fun _ => zq_istore (ls' := [.ref 44, .int p1, .ref 1, .long (0 : Int64), .null, .int r1, .int (0 : Int32)]) (by decide) rfl rfl dX4_waysOn_13 rfl) ?_
  refine zx_less [.null, .int p1, .ref 1, .long (0 : Int64), .null, .int r1, .int (0 : Int32)] (zq_cz (zq_cr (zq_cr (zq_cr (zq_cz (zq_cr (zq_cr zq_cn))))))) ?_
  refine yX4_waysOn_a1_15 N p1 r1  N ((0 : Int64), (0 : Int32), s2)
theorem cX4_waysOn_a1_mc (N : Nat)  (p1 : Int32) (s : zq_S) (v : Int64 × zq_S) (h : mX4_waysOn_a1 N p1 s = some v) : zq_MC yX4_waysOn cX4_waysOn 7 (some .long) ⟨1, 0, 0, 23⟩ 0 0 [.ref 44, .int p1, .ref 1] (zq_en s) (zv_l v.1, zq_en v.2) := zq_MC_x [.ref 44, .int p1, .ref 1, .null, .null, .null, .null] (by decide +kernel) rfl rfl (Nat.le_of_ble_eq_true rfl) (xX4_waysOn_a1 N p1 s) h
def jX4_countWays_a1_j40 (N : Nat)    (self : Int32 × zq_S → Option (Unit × zq_S)) (w2 : Int32) (s : zq_S) : Option (Unit × zq_S) :=
  zq_let (w2 + (-1 : Int32)) (fun x6 =>
  self (x6, s))
set_option maxRecDepth 20000 in
set_option maxHeartbeats 2000000 in
theorem xX4_countWays_a1_j40_j (N : Nat)    (self : Int32 × zq_S → Option (Unit × zq_S)) (hself : ∀ v, zq_X yX4_countWays RX4 cX4_countWays 4 none ⟨3, 0, 0, 64⟩ zv_v 10 [.ref 44, .ref 1, .int v.1, .null] [] v.2 (self v)) (w2 : Int32) (s : zq_S) : zq_X yX4_countWays RX4 cX4_countWays 4 none ⟨3, 0, 0, 64⟩ zv_v 40 [.ref 44, .ref 1, .int w2, .null] [] s (jX4_countWays_a1_j40 N self w2 s) := by
  unfold jX4_countWays_a1_j40
  refine zx_iinc (pc' := 43) (ls' := fun x6 => [.ref 44, .ref 1, .int x6, .null]) rfl rfl (by decide) rfl (fun _ => rfl) dX4_countWays_40 rfl (fun x6 => ?_)
  refine zx_lift (pc' := 10) (fun _ => zq_goto dX4_countWays_43 rfl) ?_
  exact hself (x6, s)
def bX4_countWays_a1_10 (N : Nat)    (self : Int32 × zq_S → Option (Unit × zq_S)) (v : Int32 × zq_S) : Option (Unit × zq_S) :=
  if v.1 < (0 : Int32) then
  some ((), v.2)
  else
  zq_b2 (mX3_goodAt N v.1 v.2) (fun r4 s5 =>
  zq_ck r4 4096 (
  if (lg_cmp (zgl s5 1 r4) (0 : Int64)) = (0 : Int32) then
  jX4_countWays_a1_j40 N self v.1 s5
  else
  zq_b2 (mX4_waysOn_a1 N r4 s5) (fun r7 s8 =>
  zq_ck r4 4096 (
  zq_let (zpl s8 1 r4 r7) (fun s9 =>
  jX4_countWays_a1_j40 N self v.1 s9)))))
set_option maxRecDepth 20000 in
set_option maxHeartbeats 2000000 in
theorem xX4_countWays_a1_10 (N : Nat)    (self : Int32 × zq_S → Option (Unit × zq_S)) (hself : ∀ v, zq_X yX4_countWays RX4 cX4_countWays 4 none ⟨3, 0, 0, 64⟩ zv_v 10 [.ref 44, .ref 1, .int v.1, .null] [] v.2 (self v)) (v : Int32 × zq_S) : zq_X yX4_countWays RX4 cX4_countWays 4 none ⟨3, 0, 0, 64⟩ zv_v 10 [.ref 44, .ref 1, .int v.1, .null] [] v.2 (bX4_countWays_a1_10 N self v) := by
  unfold bX4_countWays_a1_10
  refine zx_lift (pc' := 11) (fun _ => zq_iload_n rfl rfl dX4_countWays_10 rfl) ?_
  refine zx_if_lt (pc' := 14) (tgt := 46) dX4_countWays_11 rfl rfl (fun hc => ?_) (fun hc => ?_)
  · exact zx_vret rfl dX4_countWays_46
  · refine zx_lift (pc' := 15) (fun _ => zq_aload_n rfl rfl dX4_countWays_14 rfl) ?_
    refine zx_lift (pc' := 18) (fun _ => zt_getR zfr_X4_19 zfd_44_0 dX4_countWays_15 rfl) ?_
    refine zx_lift (pc' := 19) (fun _ => zq_iload_n rfl rfl dX4_countWays_18 rfl) ?_
    refine zx_cVi (pc' := 22) zcv_X4_65 (cX3_goodAt_mc N v.1 v.2) zob_31 rfl (by decide) (Nat.le_of_ble_eq_true rfl) dX4_countWays_19 rfl rfl (fun r4 s5 => ?_)
    refine zx_lift (pc' := 23) (fun _ => zq_istore_n (ls' := [.ref 44, .ref 1, .int v.1, .int r4]) rfl (by decide) rfl rfl dX4_countWays_22 rfl) ?_
    refine zx_lift (pc' := 24) (fun _ => zq_aload_n rfl rfl dX4_countWays_23 rfl) ?_
    refine zx_lift (pc' := 25) (fun _ => zq_iload_n rfl rfl dX4_countWays_24 rfl) ?_
    refine zx_laload (pc' := 26) zsh_1 dX4_countWays_25 rfl ?_
    refine zx_lift (pc' := 27) (fun _ => zq_lconst (v := 0) dX4_countWays_26 rfl rfl) ?_
    refine zx_lift (pc' := 28) (fun _ => zq_lcmp dX4_countWays_27 rfl) ?_
    refine zx_if_eq (pc' := 31) (tgt := 40) dX4_countWays_28 rfl rfl (fun hc => ?_) (fun hc => ?_)
    · refine zx_less [.ref 44, .ref 1, .int v.1, .null] (zq_cr (zq_cr (zq_cr (zq_cz zq_cn)))) ?_
      exact xX4_countWays_a1_j40_j N self hself v.1 s5
    · refine zx_lift (pc' := 32) (fun _ => zq_aload_n rfl rfl dX4_countWays_31 rfl) ?_
      refine zx_lift (pc' := 33) (fun _ => zq_iload_n rfl rfl dX4_countWays_32 rfl) ?_
      refine zx_lift (pc' := 34) (fun _ => zq_aload_n rfl rfl dX4_countWays_33 rfl) ?_
      refine zx_lift (pc' := 35) (fun _ => zq_iload_n rfl rfl dX4_countWays_34 rfl) ?_
      refine zx_lift (pc' := 36) (fun _ => zq_aload_n rfl rfl dX4_countWays_35 rfl) ?_
      refine zx_cVl (pc' := 39) zcv_X4_80 (cX4_waysOn_a1_mc N r4 s5) zob_44 rfl (by decide) (Nat.le_of_ble_eq_true rfl) dX4_countWays_36 rfl rfl (fun r7 s8 => ?_)
      refine zx_lastore (pc' := 40) zsh_1 dX4_countWays_39 rfl (fun s9 => ?_)
      refine zx_less [.ref 44, .ref 1, .int v.1, .null] (zq_cr (zq_cr (zq_cr (zq_cz zq_cn)))) ?_
      exact xX4_countWays_a1_j40_j N self hself v.1 s9
theorem yX4_countWays_a1_10 (N : Nat)    (n : Nat) : ∀ v : Int32 × zq_S, zq_X yX4_countWays RX4 cX4_countWays 4 none ⟨3, 0, 0, 64⟩ zv_v 10 [.ref 44, .ref 1, .int v.1, .null] [] v.2 (zq_loop (bX4_countWays_a1_10 N ) n v) := by
  induction n with
  | zero => exact fun v u hu => by cases hu
  | succ n ih =>
    intro v
    rw [zq_loop_s]
    exact xX4_countWays_a1_10 N  (zq_loop (bX4_countWays_a1_10 N ) n) ih v
def mX4_countWays_a1 (N : Nat)   (s : zq_S) : Option (Unit × zq_S) :=
  zq_b2 (mX3_goodCount N s) (fun r1 s2 =>
  zq_let (r1 - (2 : Int32)) (fun x3 =>
  zq_loop (bX4_countWays_a1_10 N ) N (x3, s2)))
set_option maxRecDepth 20000 in
set_option maxHeartbeats 2000000 in
theorem xX4_countWays_a1 (N : Nat)   (s : zq_S) : zq_X yX4_countWays RX4 cX4_countWays 4 none ⟨3, 0, 0, 64⟩ zv_v 0 [.ref 44, .ref 1, .null, .null] [] s (mX4_countWays_a1 N s) := by
  unfold mX4_countWays_a1
  refine zx_lift (pc' := 1) (fun _ => zq_aload_n rfl rfl dX4_countWays_0 rfl) ?_
  refine zx_lift (pc' := 4) (fun _ => zt_getR zfr_X4_19 zfd_44_0 dX4_countWays_1 rfl) ?_
  refine zx_cVi (pc' := 7) zcv_X4_61 (cX3_goodCount_mc N s) zob_31 rfl (by decide) (Nat.le_of_ble_eq_true rfl) dX4_countWays_4 rfl rfl (fun r1 s2 => ?_)
  refine zx_lift (pc' := 8) (fun _ => zq_iconst (v := 2) dX4_countWays_7 rfl rfl) ?_
  refine zx_lift (pc' := 9) (fun _ => zq_isub dX4_countWays_8 rfl) ?_
  refine zx_istore_n (pc' := 10) (ls' := fun x3 => [.ref 44, .ref 1, .int x3, .null]) rfl (by decide) rfl (fun _ => rfl) dX4_countWays_9 rfl (fun x3 => ?_)
  refine yX4_countWays_a1_10 N  N (x3, s2)
theorem cX4_countWays_a1_mc (N : Nat)   (s : zq_S) (v : Unit × zq_S) (h : mX4_countWays_a1 N s = some v) : zq_MC yX4_countWays cX4_countWays 4 none ⟨3, 0, 0, 64⟩ 0 0 [.ref 44, .ref 1] (zq_en s) (zv_v v.1, zq_en v.2) := zq_MC_x [.ref 44, .ref 1, .null, .null] (by decide +kernel) rfl rfl (Nat.le_of_ble_eq_true rfl) (xX4_countWays_a1 N s) h
def bX4_numberWith_2 (N : Nat)  (f1 : Int32) (f2 : Int32)  (self : Int32 × zq_S → Option (Int64 × zq_S)) (v : Int32 × zq_S) : Option (Int64 × zq_S) :=
  zq_b2 (mX3_goodCount N v.2) (fun r1 s2 =>
  if r1 ≤ v.1 then
  zq_b2 (mX4_countWays_a1 N s2) (fun r3 s4 =>
  zq_ck (0 : Int32) 4096 (
  some ((zgl s4 1 (0 : Int32)), s4)))
  else
  zq_b2 (mX3_goodAt N v.1 s2) (fun r5 s6 =>
  zq_let (if ((r5 >>> (f2 &&& 31)) &&& (1 : Int32)) = (0 : Int32) then (1 : Int64) else (if ((r5 >>> (f1 &&& 31)) &&& (1 : Int32)) = (0 : Int32) then (0 : Int64) else (1 : Int64))) (fun x7 =>
  zq_ck r5 4096 (
  zq_let (zpl s6 1 r5 x7) (fun s8 =>
  zq_let (v.1 + (1 : Int32)) (fun x9 =>
  self (x9, s8)))))))
set_option maxRecDepth 20000 in
set_option maxHeartbeats 2000000 in
theorem xX4_numberWith_2 (N : Nat)  (f1 : Int32) (f2 : Int32)  (self : Int32 × zq_S → Option (Int64 × zq_S)) (hself : ∀ v, zq_X yX4_numberWith RX4 cX4_numberWith 5 (some .long) ⟨4, 0, 0, 87⟩ zv_l 2 [.ref 44, .int f1, .int f2, .int v.1, .null] [] v.2 (self v)) (v : Int32 × zq_S) : zq_X yX4_numberWith RX4 cX4_numberWith 5 (some .long) ⟨4, 0, 0, 87⟩ zv_l 2 [.ref 44, .int f1, .int f2, .int v.1, .null] [] v.2 (bX4_numberWith_2 N f1 f2 self v) := by
  unfold bX4_numberWith_2
  refine zx_lift (pc' := 3) (fun _ => zq_iload_n rfl rfl dX4_numberWith_2 rfl) ?_
  refine zx_lift (pc' := 4) (fun _ => zq_aload_n rfl rfl dX4_numberWith_3 rfl) ?_
  refine zx_lift (pc' := 7) (fun _ => zt_getR zfr_X4_19 zfd_44_0 dX4_numberWith_4 rfl) ?_
  refine zx_cVi (pc' := 10) zcv_X4_61 (cX3_goodCount_mc N v.2) zob_31 rfl (by decide) (Nat.le_of_ble_eq_true rfl) dX4_numberWith_7 rfl rfl (fun r1 s2 => ?_)
  refine zx_icmp_ge (pc' := 13) (tgt := 59) dX4_numberWith_10 rfl rfl (fun hc => ?_) (fun hc => ?_)
  · refine zx_lift (pc' := 60) (fun _ => zq_aload_n rfl rfl dX4_numberWith_59 rfl) ?_
    refine zx_lift (pc' := 61) (fun _ => zq_aload_n rfl rfl dX4_numberWith_60 rfl) ?_
    refine zx_lift (pc' := 64) (fun _ => zt_getR zfr_X4_31 zfd_44_3 dX4_numberWith_61 rfl) ?_
    refine zx_cVv (pc' := 67) zcv_X4_45 (cX4_countWays_a1_mc N s2) zob_44 rfl (by decide) (Nat.le_of_ble_eq_true rfl) dX4_numberWith_64 rfl rfl (fun r3 s4 => ?_)
    refine zx_lift (pc' := 68) (fun _ => zq_aload_n rfl rfl dX4_numberWith_67 rfl) ?_
    refine zx_lift (pc' := 71) (fun _ => zt_getR zfr_X4_31 zfd_44_3 dX4_numberWith_68 rfl) ?_
    refine zx_lift (pc' := 72) (fun _ => zq_iconst (v := 0) dX4_numberWith_71 rfl rfl) ?_
    refine zx_laload (pc' := 73) zsh_1 dX4_numberWith_72 rfl ?_
    exact zx_lret rfl dX4_numberWith_73
  · refine zx_lift (pc' := 14) (fun _ => zq_aload_n rfl rfl dX4_numberWith_13 rfl) ?_
    refine zx_lift (pc' := 17) (fun _ => zt_getR zfr_X4_19 zfd_44_0 dX4_numberWith_14 rfl) ?_
    refine zx_lift (pc' := 18) (fun _ => zq_iload_n rfl rfl dX4_numberWith_17 rfl) ?_
    refine zx_cVi (pc' := 21) zcv_X4_65 (cX3_goodAt_mc N v.1 s2) zob_31 rfl (by decide) (Nat.le_of_ble_eq_true rfl) dX4_numberWith_18 rfl rfl (fun r5 s6 => ?_)
    refine zx_lift (pc' := 23) (fun _ => zq_istore (ls' := [.ref 44, .int f1, .int f2, .int v.1, .int r5]) (by decide) rfl rfl dX4_numberWith_21 rfl) ?_
    refine zx_lift (pc' := 24) (fun _ => zq_aload_n rfl rfl dX4_numberWith_23 rfl) ?_
    refine zx_lift (pc' := 27) (fun _ => zt_getR zfr_X4_31 zfd_44_3 dX4_numberWith_24 rfl) ?_
    refine zx_lift (pc' := 29) (fun _ => zq_iload rfl dX4_numberWith_27 rfl) ?_
    refine zx_lift (pc' := 31) (fun _ => zq_iload rfl dX4_numberWith_29 rfl) ?_
    refine zx_lift (pc' := 32) (fun _ => zq_iload_n rfl rfl dX4_numberWith_31 rfl) ?_
    refine zx_lift (pc' := 33) (fun _ => zq_ishr dX4_numberWith_32 rfl) ?_
    refine zx_lift (pc' := 34) (fun _ => zq_iconst (v := 1) dX4_numberWith_33 rfl rfl) ?_
    refine zx_lift (pc' := 35) (fun _ => zq_iand dX4_numberWith_34 rfl) ?_
    refine zx_tern (pcJ := 52) (lsJ := fun x7 => [.ref 44, .int f1, .int f2, .int v.1, .null]) (stJ := fun x7 => [.long x7, .int r5, .ref 1]) (fun x7 => ?_) (fun f hJ => ?_)
    rotate_left
    · refine zx_lif_eq (pc' := 38) (tgt := 51) dX4_numberWith_35 rfl rfl (fun _ => ?_) (fun _ => ?_)
      · refine zx_lift (pc' := 52) (fun _ => zq_lconst (v := 1) dX4_numberWith_51 rfl rfl) ?_
        exact zx_lessJ (zq_cr (zq_cr (zq_cr (zq_cr (zq_cz zq_cn))))) (hJ _)
      · refine zx_lift (pc' := 40) (fun _ => zq_iload rfl dX4_numberWith_38 rfl) ?_
        refine zx_lift (pc' := 41) (fun _ => zq_iload_n rfl rfl dX4_numberWith_40 rfl) ?_
        refine zx_lift (pc' := 42) (fun _ => zq_ishr dX4_numberWith_41 rfl) ?_
        refine zx_lift (pc' := 43) (fun _ => zq_iconst (v := 1) dX4_numberWith_42 rfl rfl) ?_
        refine zx_lift (pc' := 44) (fun _ => zq_iand dX4_numberWith_43 rfl) ?_
        refine zx_lif_ne (pc' := 47) (tgt := 51) dX4_numberWith_44 rfl rfl (fun _ => ?_) (fun _ => ?_)
        · refine zx_lift (pc' := 52) (fun _ => zq_lconst (v := 1) dX4_numberWith_51 rfl rfl) ?_
          exact zx_lessJ (zq_cr (zq_cr (zq_cr (zq_cr (zq_cz zq_cn))))) (hJ _)
        · refine zx_lift (pc' := 48) (fun _ => zq_lconst (v := 0) dX4_numberWith_47 rfl rfl) ?_
          refine zx_lift (pc' := 52) (fun _ => zq_goto dX4_numberWith_48 rfl) ?_
          exact zx_lessJ (zq_cr (zq_cr (zq_cr (zq_cr (zq_cz zq_cn))))) (hJ _)
    refine zx_lastore (pc' := 53) zsh_1 dX4_numberWith_52 rfl (fun s8 => ?_)
    refine zx_iinc (pc' := 56) (ls' := fun x9 => [.ref 44, .int f1, .int f2, .int x9, .null]) rfl rfl (by decide) rfl (fun _ => rfl) dX4_numberWith_53 rfl (fun x9 => ?_)
    refine zx_lift (pc' := 2) (fun _ => zq_goto dX4_numberWith_56 rfl) ?_
    exact hself (x9, s8)
theorem yX4_numberWith_2 (N : Nat)  (f1 : Int32) (f2 : Int32)  (n : Nat) : ∀ v : Int32 × zq_S, zq_X yX4_numberWith RX4 cX4_numberWith 5 (some .long) ⟨4, 0, 0, 87⟩ zv_l 2 [.ref 44, .int f1, .int f2, .int v.1, .null] [] v.2 (zq_loop (bX4_numberWith_2 N f1 f2 ) n v) := by
  induction n with
  | zero => exact fun v u hu => by cases hu
  | succ n ih =>
    intro v
    rw [zq_loop_s]
    exact xX4_numberWith_2 N f1 f2  (zq_loop (bX4_numberWith_2 N f1 f2 ) n) ih v
def mX4_numberWith (N : Nat)  (p1 : Int32) (p2 : Int32) (s : zq_S) : Option (Int64 × zq_S) :=
  zq_loop (bX4_numberWith_2 N p1 p2 ) N ((0 : Int32), s)
set_option maxRecDepth 20000 in
set_option maxHeartbeats 2000000 in
theorem xX4_numberWith (N : Nat)  (p1 : Int32) (p2 : Int32) (s : zq_S) : zq_X yX4_numberWith RX4 cX4_numberWith 5 (some .long) ⟨4, 0, 0, 87⟩ zv_l 0 [.ref 44, .int p1, .int p2, .null, .null] [] s (mX4_numberWith N p1 p2 s) := by
  unfold mX4_numberWith
  refine zx_lift (pc' := 1) (fun _ => zq_iconst (v := 0) dX4_numberWith_0 rfl rfl) ?_
  refine zx_lift (pc' := 2) (fun _ => zq_istore_n (ls' := [.ref 44, .int p1, .int p2, .int (0 : Int32), .null]) rfl (by decide) rfl rfl dX4_numberWith_1 rfl) ?_
  refine yX4_numberWith_2 N p1 p2  N ((0 : Int32), s)
theorem cX4_numberWith_mc (N : Nat)  (p1 : Int32) (p2 : Int32) (s : zq_S) (v : Int64 × zq_S) (h : mX4_numberWith N p1 p2 s = some v) : zq_MC yX4_numberWith cX4_numberWith 5 (some .long) ⟨4, 0, 0, 87⟩ 0 0 [.ref 44, .int p1, .int p2] (zq_en s) (zv_l v.1, zq_en v.2) := zq_MC_x [.ref 44, .int p1, .int p2, .null, .null] (by decide +kernel) rfl rfl (Nat.le_of_ble_eq_true rfl) (xX4_numberWith N p1 p2 s) h
def jX11_ahead_j27 (N : Nat)    (s : zq_S) : Option (Int64 × zq_S) :=
  some ((-1001 : Int64), s)
set_option maxRecDepth 20000 in
set_option maxHeartbeats 2000000 in
theorem xX11_ahead_j27_j (N : Nat)    (s : zq_S) : zq_X yX11_ahead RX11 cX11_ahead 3 (some .long) ⟨5, 0, 0, 111⟩ zv_l 27 [.null, .null, .null] [] s (jX11_ahead_j27 N s) := by
  unfold jX11_ahead_j27
  refine zx_lift (pc' := 30) (fun _ => zq_ldc2 zk_X11_202 dX11_ahead_27 rfl) ?_
  exact zx_lret rfl dX11_ahead_30
def mX11_ahead (N : Nat)  (p1 : Int32) (p2 : Int32) (s : zq_S) : Option (Int64 × zq_S) :=
  zq_b2 (mX3_hasMark N p1 s) (fun r1 s2 =>
  if r1 = (0 : Int32) then
  jX11_ahead_j27 N s2
  else
  zq_b2 (mX3_hasMark N p2 s2) (fun r3 s4 =>
  if r3 = (0 : Int32) then
  jX11_ahead_j27 N s4
  else
  if p1 = p2 then
  jX11_ahead_j27 N s4
  else
  zq_b2 (mX4_numberWith N p1 p2 s4) (fun r5 s6 =>
  some (r5, s6))))
set_option maxRecDepth 20000 in
set_option maxHeartbeats 2000000 in
theorem xX11_ahead (N : Nat)  (p1 : Int32) (p2 : Int32) (s : zq_S) : zq_X yX11_ahead RX11 cX11_ahead 3 (some .long) ⟨5, 0, 0, 111⟩ zv_l 0 [.ref 0, .int p1, .int p2] [] s (mX11_ahead N p1 p2 s) := by
  unfold mX11_ahead
  refine zx_lift (pc' := 1) (fun _ => zq_aload_n rfl rfl dX11_ahead_0 rfl) ?_
  refine zx_lift (pc' := 4) (fun _ => zt_getR zfr_X11_31 zfd_0_1 dX11_ahead_1 rfl) ?_
  refine zx_lift (pc' := 5) (fun _ => zq_iload_n rfl rfl dX11_ahead_4 rfl) ?_
  refine zx_cVi (pc' := 8) zcv_X11_130 (cX3_hasMark_mc N p1 s) zob_31 rfl (by decide) (Nat.le_of_ble_eq_true rfl) dX11_ahead_5 rfl rfl (fun r1 s2 => ?_)
  refine zx_if_eq (pc' := 11) (tgt := 27) dX11_ahead_8 rfl rfl (fun hc => ?_) (fun hc => ?_)
  · refine zx_less [.null, .null, .null] (zq_cz (zq_cz (zq_cz zq_cn))) ?_
    exact xX11_ahead_j27_j N s2
  · refine zx_lift (pc' := 12) (fun _ => zq_aload_n rfl rfl dX11_ahead_11 rfl) ?_
    refine zx_lift (pc' := 15) (fun _ => zt_getR zfr_X11_31 zfd_0_1 dX11_ahead_12 rfl) ?_
    refine zx_lift (pc' := 16) (fun _ => zq_iload_n rfl rfl dX11_ahead_15 rfl) ?_
    refine zx_cVi (pc' := 19) zcv_X11_130 (cX3_hasMark_mc N p2 s2) zob_31 rfl (by decide) (Nat.le_of_ble_eq_true rfl) dX11_ahead_16 rfl rfl (fun r3 s4 => ?_)
    refine zx_if_eq (pc' := 22) (tgt := 27) dX11_ahead_19 rfl rfl (fun hc => ?_) (fun hc => ?_)
    · refine zx_less [.null, .null, .null] (zq_cz (zq_cz (zq_cz zq_cn))) ?_
      exact xX11_ahead_j27_j N s4
    · refine zx_lift (pc' := 23) (fun _ => zq_iload_n rfl rfl dX11_ahead_22 rfl) ?_
      refine zx_lift (pc' := 24) (fun _ => zq_iload_n rfl rfl dX11_ahead_23 rfl) ?_
      refine zx_icmp_ne (pc' := 27) (tgt := 31) dX11_ahead_24 rfl rfl (fun hc => ?_) (fun hc => ?_)
      · refine zx_lift (pc' := 32) (fun _ => zq_aload_n rfl rfl dX11_ahead_31 rfl) ?_
        refine zx_lift (pc' := 35) (fun _ => zt_getR zfr_X11_54 zfd_0_4 dX11_ahead_32 rfl) ?_
        refine zx_lift (pc' := 36) (fun _ => zq_iload_n rfl rfl dX11_ahead_35 rfl) ?_
        refine zx_lift (pc' := 37) (fun _ => zq_iload_n rfl rfl dX11_ahead_36 rfl) ?_
        refine zx_cVl (pc' := 40) zcv_X11_204 (cX4_numberWith_mc N p1 p2 s4) zob_44 rfl (by decide) (Nat.le_of_ble_eq_true rfl) dX11_ahead_37 rfl rfl (fun r5 s6 => ?_)
        exact zx_lret rfl dX11_ahead_40
      · refine zx_less [.null, .null, .null] (zq_cz (zq_cz (zq_cz zq_cn))) ?_
        exact xX11_ahead_j27_j N s4
theorem cX11_ahead_mc (N : Nat)  (p1 : Int32) (p2 : Int32) (s : zq_S) (v : Int64 × zq_S) (h : mX11_ahead N p1 p2 s = some v) : zq_MC yX11_ahead cX11_ahead 3 (some .long) ⟨5, 0, 0, 111⟩ 0 0 [.ref 0, .int p1, .int p2] (zq_en s) (zv_l v.1, zq_en v.2) := zq_MC_x [.ref 0, .int p1, .int p2] (by decide +kernel) rfl rfl (Nat.le_of_ble_eq_true rfl) (xX11_ahead N p1 p2 s) h
def jX3_hasBits_j17 (N : Nat)   (t0 : Int32) (s : zq_S) : Option (Int32 × zq_S) :=
  zq_bz t0 (some (t0, s))
set_option maxRecDepth 20000 in
set_option maxHeartbeats 2000000 in
theorem xX3_hasBits_j17_j (N : Nat)   (t0 : Int32) (s : zq_S) : zq_X yX3_hasBits RX3 cX3_hasBits 2 (some .boolean) ⟨1, 0, 0, 20⟩ zv_i 17 [.null, .null] [.int t0] s (jX3_hasBits_j17 N t0 s) := by
  unfold jX3_hasBits_j17
  exact zx_zretg rfl dX3_hasBits_17
def jX3_hasBits_j16 (N : Nat)    (s : zq_S) : Option (Int32 × zq_S) :=
  jX3_hasBits_j17 N (0 : Int32) s
set_option maxRecDepth 20000 in
set_option maxHeartbeats 2000000 in
theorem xX3_hasBits_j16_j (N : Nat)    (s : zq_S) : zq_X yX3_hasBits RX3 cX3_hasBits 2 (some .boolean) ⟨1, 0, 0, 20⟩ zv_i 16 [.null, .null] [] s (jX3_hasBits_j16 N s) := by
  unfold jX3_hasBits_j16
  refine zx_lift (pc' := 17) (fun _ => zq_iconst (v := 0) dX3_hasBits_16 rfl rfl) ?_
  exact xX3_hasBits_j17_j N (0 : Int32) s
def mX3_hasBits (N : Nat)  (p1 : Int32) (s : zq_S) : Option (Int32 × zq_S) :=
  if p1 < (0 : Int32) then
  jX3_hasBits_j16 N s
  else
  zq_b2 (mX3_full N s) (fun r1 s2 =>
  if r1 < p1 then
  jX3_hasBits_j16 N s2
  else
  jX3_hasBits_j17 N (1 : Int32) s2)
set_option maxRecDepth 20000 in
set_option maxHeartbeats 2000000 in
theorem xX3_hasBits (N : Nat)  (p1 : Int32) (s : zq_S) : zq_X yX3_hasBits RX3 cX3_hasBits 2 (some .boolean) ⟨1, 0, 0, 20⟩ zv_i 0 [.ref 31, .int p1] [] s (mX3_hasBits N p1 s) := by
  unfold mX3_hasBits
  refine zx_lift (pc' := 1) (fun _ => zq_iload_n rfl rfl dX3_hasBits_0 rfl) ?_
  refine zx_if_lt (pc' := 4) (tgt := 16) dX3_hasBits_1 rfl rfl (fun hc => ?_) (fun hc => ?_)
  · refine zx_less [.null, .null] (zq_cz (zq_cz zq_cn)) ?_
    exact xX3_hasBits_j16_j N s
  · refine zx_lift (pc' := 5) (fun _ => zq_iload_n rfl rfl dX3_hasBits_4 rfl) ?_
    refine zx_lift (pc' := 6) (fun _ => zq_aload_n rfl rfl dX3_hasBits_5 rfl) ?_
    refine zx_cVi (pc' := 9) zcv_X3_53 (cX3_full_mc N s) zob_31 rfl (by decide) (Nat.le_of_ble_eq_true rfl) dX3_hasBits_6 rfl rfl (fun r1 s2 => ?_)
    refine zx_icmp_gt (pc' := 12) (tgt := 16) dX3_hasBits_9 rfl rfl (fun hc => ?_) (fun hc => ?_)
    · refine zx_less [.null, .null] (zq_cz (zq_cz zq_cn)) ?_
      exact xX3_hasBits_j16_j N s2
    · refine zx_lift (pc' := 13) (fun _ => zq_iconst (v := 1) dX3_hasBits_12 rfl rfl) ?_
      refine zx_lift (pc' := 17) (fun _ => zq_goto dX3_hasBits_13 rfl) ?_
      refine zx_less [.null, .null] (zq_cz (zq_cz zq_cn)) ?_
      exact xX3_hasBits_j17_j N (1 : Int32) s2
theorem cX3_hasBits_mc (N : Nat)  (p1 : Int32) (s : zq_S) (v : Int32 × zq_S) (h : mX3_hasBits N p1 s = some v) : zq_MC yX3_hasBits cX3_hasBits 2 (some .boolean) ⟨1, 0, 0, 20⟩ 0 0 [.ref 31, .int p1] (zq_en s) (zv_i v.1, zq_en v.2) := zq_MC_x [.ref 31, .int p1] (by decide +kernel) rfl rfl (Nat.le_of_ble_eq_true rfl) (xX3_hasBits N p1 s) h
def jX8_isMade_j27 (N : Nat) (b0 : Bool)  (t0 : Int32) (s : zq_S) : Option (Int32 × zq_S) :=
  zq_bz t0 (some (t0, s))
set_option maxRecDepth 20000 in
set_option maxHeartbeats 2000000 in
theorem xX8_isMade_j27_j (N : Nat) (b0 : Bool)  (t0 : Int32) (s : zq_S) : zq_X yX8_isMade RX8 cX8_isMade 2 (some .boolean) ⟨0, 0, 0, 0⟩ zv_i 27 [.null, .null] [.int t0] s (jX8_isMade_j27 N b0 t0 s) := by
  unfold jX8_isMade_j27
  exact zx_zretg rfl dX8_isMade_27
def jX8_isMade_j26 (N : Nat) (b0 : Bool)   (s : zq_S) : Option (Int32 × zq_S) :=
  jX8_isMade_j27 N b0 (0 : Int32) s
set_option maxRecDepth 20000 in
set_option maxHeartbeats 2000000 in
theorem xX8_isMade_j26_j (N : Nat) (b0 : Bool)   (s : zq_S) : zq_X yX8_isMade RX8 cX8_isMade 2 (some .boolean) ⟨0, 0, 0, 0⟩ zv_i 26 [.null, .null] [] s (jX8_isMade_j26 N b0 s) := by
  unfold jX8_isMade_j26
  refine zx_lift (pc' := 27) (fun _ => zq_iconst (v := 0) dX8_isMade_26 rfl rfl) ?_
  exact xX8_isMade_j27_j N b0 (0 : Int32) s
def mX8_isMade (N : Nat) (b0 : Bool) (p1 : Int32) (s : zq_S) : Option (Int32 × zq_S) :=
  if p1 < (0 : Int32) then
  jX8_isMade_j26 N b0 s
  else
  if (zgf s (zf b0) 0) ≤ p1 then
  jX8_isMade_j26 N b0 s
  else
  zq_ck p1 (zfS b0) (
  if (zga s (zf b0 + 2) p1) = (-1 : Int32) then
  jX8_isMade_j26 N b0 s
  else
  jX8_isMade_j27 N b0 (1 : Int32) s)
set_option maxRecDepth 20000 in
set_option maxHeartbeats 2000000 in
theorem xX8_isMade (N : Nat) (b0 : Bool) (p1 : Int32) (s : zq_S) : zq_X yX8_isMade RX8 cX8_isMade 2 (some .boolean) ⟨0, 0, 0, 0⟩ zv_i 0 [.ref (zf b0), .int p1] [] s (mX8_isMade N b0 p1 s) := by
  unfold mX8_isMade
  refine zx_lift (pc' := 1) (fun _ => zq_iload_n rfl rfl dX8_isMade_0 rfl) ?_
  refine zx_if_lt (pc' := 4) (tgt := 26) dX8_isMade_1 rfl rfl (fun hc => ?_) (fun hc => ?_)
  · refine zx_less [.null, .null] (zq_cz (zq_cz zq_cn)) ?_
    exact xX8_isMade_j26_j N b0 s
  · refine zx_lift (pc' := 5) (fun _ => zq_iload_n rfl rfl dX8_isMade_4 rfl) ?_
    refine zx_lift (pc' := 6) (fun _ => zq_aload_n rfl rfl dX8_isMade_5 rfl) ?_
    refine zx_lift (pc' := 9) (fun _ => zt_getI zfr_X8_15 (zfd_f_0 b0) dX8_isMade_6 rfl) ?_
    refine zx_icmp_ge (pc' := 12) (tgt := 26) dX8_isMade_9 rfl rfl (fun hc => ?_) (fun hc => ?_)
    · refine zx_less [.null, .null] (zq_cz (zq_cz zq_cn)) ?_
      exact xX8_isMade_j26_j N b0 s
    · refine zx_lift (pc' := 13) (fun _ => zq_aload_n rfl rfl dX8_isMade_12 rfl) ?_
      refine zx_lift (pc' := 16) (fun _ => zt_getR zfr_X8_25 (zfd_f_2 b0) dX8_isMade_13 rfl) ?_
      refine zx_lift (pc' := 17) (fun _ => zq_iload_n rfl rfl dX8_isMade_16 rfl) ?_
      refine zx_iaload (pc' := 18) (zsh_f2 b0) dX8_isMade_17 rfl ?_
      refine zx_lift (pc' := 19) (fun _ => zq_iconst (v := (-1)) dX8_isMade_18 rfl rfl) ?_
      refine zx_icmp_eq (pc' := 22) (tgt := 26) dX8_isMade_19 rfl rfl (fun hc => ?_) (fun hc => ?_)
      · refine zx_less [.null, .null] (zq_cz (zq_cz zq_cn)) ?_
        exact xX8_isMade_j26_j N b0 s
      · refine zx_lift (pc' := 23) (fun _ => zq_iconst (v := 1) dX8_isMade_22 rfl rfl) ?_
        refine zx_lift (pc' := 27) (fun _ => zq_goto dX8_isMade_23 rfl) ?_
        refine zx_less [.null, .null] (zq_cz (zq_cz zq_cn)) ?_
        exact xX8_isMade_j27_j N b0 (1 : Int32) s
theorem cX8_isMade_mc (N : Nat) (b0 : Bool) (p1 : Int32) (s : zq_S) (v : Int32 × zq_S) (h : mX8_isMade N b0 p1 s = some v) : zq_MC yX8_isMade cX8_isMade 2 (some .boolean) ⟨0, 0, 0, 0⟩ 0 0 [.ref (zf b0), .int p1] (zq_en s) (zv_i v.1, zq_en v.2) := zq_MC_x [.ref (zf b0), .int p1] (by decide +kernel) rfl rfl (Nat.le_of_ble_eq_true rfl) (xX8_isMade N b0 p1 s) h
def jX8_clear_j12 (N : Nat) (b0 : Bool)   (s : zq_S) : Option (Unit × zq_S) :=
  some ((), s)
set_option maxRecDepth 20000 in
set_option maxHeartbeats 2000000 in
theorem xX8_clear_j12_j (N : Nat) (b0 : Bool)   (s : zq_S) : zq_X yX8_clear RX8 cX8_clear 3 none ⟨0, 0, 0, 0⟩ zv_v 12 [.null, .null, .null] [] s (jX8_clear_j12 N b0 s) := by
  unfold jX8_clear_j12
  exact zx_vret rfl dX8_clear_12
def bX8_clear_15 (N : Nat) (b0 : Bool) (f1 : Int32)  (self : Int32 × zq_S → Option (Unit × zq_S)) (v : Int32 × zq_S) : Option (Unit × zq_S) :=
  if (5 : Int32) ≤ v.1 then
  zq_ck f1 (zfS b0) (
  zq_let (zpa v.2 (zf b0 + 2) f1 (0 : Int32)) (fun s1 =>
  some ((), s1)))
  else
  zq_ck ((f1 * (5 : Int32)) + v.1) (zfP b0) (
  zq_let (zpl v.2 (zf b0 + 1) ((f1 * (5 : Int32)) + v.1) (0 : Int64)) (fun s2 =>
  zq_let (v.1 + (1 : Int32)) (fun x3 =>
  self (x3, s2))))
set_option maxRecDepth 20000 in
set_option maxHeartbeats 2000000 in
theorem xX8_clear_15 (N : Nat) (b0 : Bool) (f1 : Int32)  (self : Int32 × zq_S → Option (Unit × zq_S)) (hself : ∀ v, zq_X yX8_clear RX8 cX8_clear 3 none ⟨0, 0, 0, 0⟩ zv_v 15 [.ref (zf b0), .int f1, .int v.1] [] v.2 (self v)) (v : Int32 × zq_S) : zq_X yX8_clear RX8 cX8_clear 3 none ⟨0, 0, 0, 0⟩ zv_v 15 [.ref (zf b0), .int f1, .int v.1] [] v.2 (bX8_clear_15 N b0 f1 self v) := by
  unfold bX8_clear_15
  refine zx_lift (pc' := 16) (fun _ => zq_iload_n rfl rfl dX8_clear_15 rfl) ?_
  refine zx_lift (pc' := 17) (fun _ => zq_iconst (v := 5) dX8_clear_16 rfl rfl) ?_
  refine zx_icmp_ge (pc' := 20) (tgt := 37) dX8_clear_17 rfl rfl (fun hc => ?_) (fun hc => ?_)
  · refine zx_lift (pc' := 38) (fun _ => zq_aload_n rfl rfl dX8_clear_37 rfl) ?_
    refine zx_lift (pc' := 41) (fun _ => zt_getR zfr_X8_25 (zfd_f_2 b0) dX8_clear_38 rfl) ?_
    refine zx_lift (pc' := 42) (fun _ => zq_iload_n rfl rfl dX8_clear_41 rfl) ?_
    refine zx_lift (pc' := 43) (fun _ => zq_iconst (v := 0) dX8_clear_42 rfl rfl) ?_
    refine zx_iastore (pc' := 44) (zsh_f2 b0) dX8_clear_43 rfl (fun s1 => ?_)
    exact zx_vret rfl dX8_clear_44
  · refine zx_lift (pc' := 21) (fun _ => zq_aload_n rfl rfl dX8_clear_20 rfl) ?_
    refine zx_lift (pc' := 24) (fun _ => zt_getR zfr_X8_21 (zfd_f_1 b0) dX8_clear_21 rfl) ?_
    refine zx_lift (pc' := 25) (fun _ => zq_iload_n rfl rfl dX8_clear_24 rfl) ?_
    refine zx_lift (pc' := 26) (fun _ => zq_iconst (v := 5) dX8_clear_25 rfl rfl) ?_
    refine zx_lift (pc' := 27) (fun _ => zq_imul dX8_clear_26 rfl) ?_
    refine zx_lift (pc' := 28) (fun _ => zq_iload_n rfl rfl dX8_clear_27 rfl) ?_
    refine zx_lift (pc' := 29) (fun _ => zq_iadd dX8_clear_28 rfl) ?_
    refine zx_lift (pc' := 30) (fun _ => zq_lconst (v := 0) dX8_clear_29 rfl rfl) ?_
    refine zx_lastore (pc' := 31) (zsh_f1 b0) dX8_clear_30 rfl (fun s2 => ?_)
    refine zx_iinc (pc' := 34) (ls' := fun x3 => [.ref (zf b0), .int f1, .int x3]) rfl rfl (by decide) rfl (fun _ => rfl) dX8_clear_31 rfl (fun x3 => ?_)
    refine zx_lift (pc' := 15) (fun _ => zq_goto dX8_clear_34 rfl) ?_
    exact hself (x3, s2)
theorem yX8_clear_15 (N : Nat) (b0 : Bool) (f1 : Int32)  (n : Nat) : ∀ v : Int32 × zq_S, zq_X yX8_clear RX8 cX8_clear 3 none ⟨0, 0, 0, 0⟩ zv_v 15 [.ref (zf b0), .int f1, .int v.1] [] v.2 (zq_loop (bX8_clear_15 N b0 f1 ) n v) := by
  induction n with
  | zero => exact fun v u hu => by cases hu
  | succ n ih =>
    intro v
    rw [zq_loop_s]
    exact xX8_clear_15 N b0 f1  (zq_loop (bX8_clear_15 N b0 f1 ) n) ih v
def mX8_clear (N : Nat) (b0 : Bool) (p1 : Int32) (s : zq_S) : Option (Unit × zq_S) :=
  if p1 < (0 : Int32) then
  jX8_clear_j12 N b0 s
  else
  if p1 < (zgf s (zf b0) 0) then
  zq_loop (bX8_clear_15 N b0 p1 ) N ((0 : Int32), s)
  else
  jX8_clear_j12 N b0 s
set_option maxRecDepth 20000 in
set_option maxHeartbeats 2000000 in
theorem xX8_clear (N : Nat) (b0 : Bool) (p1 : Int32) (s : zq_S) : zq_X yX8_clear RX8 cX8_clear 3 none ⟨0, 0, 0, 0⟩ zv_v 0 [.ref (zf b0), .int p1, .null] [] s (mX8_clear N b0 p1 s) := by
  unfold mX8_clear
  refine zx_lift (pc' := 1) (fun _ => zq_iload_n rfl rfl dX8_clear_0 rfl) ?_
  refine zx_if_lt (pc' := 4) (tgt := 12) dX8_clear_1 rfl rfl (fun hc => ?_) (fun hc => ?_)
  · refine zx_less [.null, .null, .null] (zq_cz (zq_cz (zq_cz zq_cn))) ?_
    exact xX8_clear_j12_j N b0 s
  · refine zx_lift (pc' := 5) (fun _ => zq_iload_n rfl rfl dX8_clear_4 rfl) ?_
    refine zx_lift (pc' := 6) (fun _ => zq_aload_n rfl rfl dX8_clear_5 rfl) ?_
    refine zx_lift (pc' := 9) (fun _ => zt_getI zfr_X8_15 (zfd_f_0 b0) dX8_clear_6 rfl) ?_
    refine zx_icmp_lt (pc' := 12) (tgt := 13) dX8_clear_9 rfl rfl (fun hc => ?_) (fun hc => ?_)
    · refine zx_lift (pc' := 14) (fun _ => zq_iconst (v := 0) dX8_clear_13 rfl rfl) ?_
      refine zx_lift (pc' := 15) (fun _ => zq_istore_n (ls' := [.ref (zf b0), .int p1, .int (0 : Int32)]) rfl (by decide) rfl rfl dX8_clear_14 rfl) ?_
      refine yX8_clear_15 N b0 p1  N ((0 : Int32), s)
    · refine zx_less [.null, .null, .null] (zq_cz (zq_cz (zq_cz zq_cn))) ?_
      exact xX8_clear_j12_j N b0 s
theorem cX8_clear_mc (N : Nat) (b0 : Bool) (p1 : Int32) (s : zq_S) (v : Unit × zq_S) (h : mX8_clear N b0 p1 s = some v) : zq_MC yX8_clear cX8_clear 3 none ⟨0, 0, 0, 0⟩ 0 0 [.ref (zf b0), .int p1] (zq_en s) (zv_v v.1, zq_en v.2) := zq_MC_x [.ref (zf b0), .int p1, .null] (by decide +kernel) rfl rfl (Nat.le_of_ble_eq_true rfl) (xX8_clear N b0 p1 s) h
def jX7_after_j17 (N : Nat) (b0 : Bool)  (w1 : Int32) (s : zq_S) : Option (Int32 × zq_S) :=
  some ((w1 + (1 : Int32)), s)
set_option maxRecDepth 20000 in
set_option maxHeartbeats 2000000 in
theorem xX7_after_j17_j (N : Nat) (b0 : Bool)  (w1 : Int32) (s : zq_S) : zq_X yX7_after RX7 cX7_after 6 (some .int) ⟨0, 0, 0, 0⟩ zv_i 17 [.null, .int w1, .null, .null, .null, .null] [] s (jX7_after_j17 N b0 w1 s) := by
  unfold jX7_after_j17
  refine zx_lift (pc' := 18) (fun _ => zq_iload_n rfl rfl dX7_after_17 rfl) ?_
  refine zx_lift (pc' := 19) (fun _ => zq_iconst (v := 1) dX7_after_18 rfl rfl) ?_
  refine zx_lift (pc' := 20) (fun _ => zq_iadd dX7_after_19 rfl) ?_
  exact zx_iret rfl dX7_after_20
def jX7_after_j204 (N : Nat) (b0 : Bool)  (t0 : Int32) (s : zq_S) : Option (Int32 × zq_S) :=
  some (t0, s)
set_option maxRecDepth 20000 in
set_option maxHeartbeats 2000000 in
theorem xX7_after_j204_j (N : Nat) (b0 : Bool)  (t0 : Int32) (s : zq_S) : zq_X yX7_after RX7 cX7_after 6 (some .int) ⟨0, 0, 0, 0⟩ zv_i 204 [.null, .null, .null, .null, .null, .null] [.int t0] s (jX7_after_j204 N b0 t0 s) := by
  unfold jX7_after_j204
  exact zx_iret rfl dX7_after_204
def jX7_after_j184 (N : Nat) (b0 : Bool)  (t0 : Int32) (s : zq_S) : Option (Int32 × zq_S) :=
  some (t0, s)
set_option maxRecDepth 20000 in
set_option maxHeartbeats 2000000 in
theorem xX7_after_j184_j (N : Nat) (b0 : Bool)  (t0 : Int32) (s : zq_S) : zq_X yX7_after RX7 cX7_after 6 (some .int) ⟨0, 0, 0, 0⟩ zv_i 184 [.null, .null, .null, .null, .null, .null] [.int t0] s (jX7_after_j184 N b0 t0 s) := by
  unfold jX7_after_j184
  exact zx_iret rfl dX7_after_184
def jX7_after_j224 (N : Nat) (b0 : Bool)  (t0 : Int32) (s : zq_S) : Option (Int32 × zq_S) :=
  some (t0, s)
set_option maxRecDepth 20000 in
set_option maxHeartbeats 2000000 in
theorem xX7_after_j224_j (N : Nat) (b0 : Bool)  (t0 : Int32) (s : zq_S) : zq_X yX7_after RX7 cX7_after 6 (some .int) ⟨0, 0, 0, 0⟩ zv_i 224 [.null, .null, .null, .null, .null, .null] [.int t0] s (jX7_after_j224 N b0 t0 s) := by
  unfold jX7_after_j224
  exact zx_iret rfl dX7_after_224
def jX7_after_j164 (N : Nat) (b0 : Bool)  (t0 : Int32) (s : zq_S) : Option (Int32 × zq_S) :=
  some (t0, s)
set_option maxRecDepth 20000 in
set_option maxHeartbeats 2000000 in
theorem xX7_after_j164_j (N : Nat) (b0 : Bool)  (t0 : Int32) (s : zq_S) : zq_X yX7_after RX7 cX7_after 6 (some .int) ⟨0, 0, 0, 0⟩ zv_i 164 [.null, .null, .null, .null, .null, .null] [.int t0] s (jX7_after_j164 N b0 t0 s) := by
  unfold jX7_after_j164
  exact zx_iret rfl dX7_after_164
def jX7_after_j161 (N : Nat) (b0 : Bool)  (w1 : Int32) (s : zq_S) : Option (Int32 × zq_S) :=
  jX7_after_j164 N b0 (w1 + (1 : Int32)) s
set_option maxRecDepth 20000 in
set_option maxHeartbeats 2000000 in
theorem xX7_after_j161_j (N : Nat) (b0 : Bool)  (w1 : Int32) (s : zq_S) : zq_X yX7_after RX7 cX7_after 6 (some .int) ⟨0, 0, 0, 0⟩ zv_i 161 [.null, .int w1, .null, .null, .null, .null] [] s (jX7_after_j161 N b0 w1 s) := by
  unfold jX7_after_j161
  refine zx_lift (pc' := 162) (fun _ => zq_iload_n rfl rfl dX7_after_161 rfl) ?_
  refine zx_lift (pc' := 163) (fun _ => zq_iconst (v := 1) dX7_after_162 rfl rfl) ?_
  refine zx_lift (pc' := 164) (fun _ => zq_iadd dX7_after_163 rfl) ?_
  refine zx_less [.null, .null, .null, .null, .null, .null] (zq_cz (zq_cz (zq_cz (zq_cz (zq_cz (zq_cz zq_cn)))))) ?_
  exact xX7_after_j164_j N b0 (w1 + (1 : Int32)) s
def jX7_after_j139 (N : Nat) (b0 : Bool)  (t0 : Int32) (s : zq_S) : Option (Int32 × zq_S) :=
  some (t0, s)
set_option maxRecDepth 20000 in
set_option maxHeartbeats 2000000 in
theorem xX7_after_j139_j (N : Nat) (b0 : Bool)  (t0 : Int32) (s : zq_S) : zq_X yX7_after RX7 cX7_after 6 (some .int) ⟨0, 0, 0, 0⟩ zv_i 139 [.null, .null, .null, .null, .null, .null] [.int t0] s (jX7_after_j139 N b0 t0 s) := by
  unfold jX7_after_j139
  exact zx_iret rfl dX7_after_139
def jX7_after_j63 (N : Nat) (b0 : Bool)  (w1 : Int32) (w3 : Int32) (w4 : Int32) (t0 : Int32) (s : zq_S) : Option (Int32 × zq_S) :=
  zq_ck w1 100 (
  if (zga s (zs b0 + 2) w1) = (42 : Int32) then
  if w4 = (0 : Int32) then
  jX7_after_j204 N b0 (w1 + (1 : Int32)) s
  else
  zq_ck w3 10 (
  jX7_after_j204 N b0 ((zga s (zs b0 + 9) w3) + (1 : Int32)) s)
  else if (zga s (zs b0 + 2) w1) = (60 : Int32) then
  if w4 = (0 : Int32) then
  jX7_after_j184 N b0 (w1 + (1 : Int32)) s
  else
  zq_ck w1 100 (
  jX7_after_j184 N b0 ((zga s (zs b0 + 4) w1) + (1 : Int32)) s)
  else if (zga s (zs b0 + 2) w1) = (62 : Int32) then
  if w4 = (0 : Int32) then
  jX7_after_j224 N b0 (w1 + (1 : Int32)) s
  else
  zq_ck w3 10 (
  jX7_after_j224 N b0 ((zga s (zs b0 + 10) w3) + (1 : Int32)) s)
  else if (zga s (zs b0 + 2) w1) = (91 : Int32) then
  if w4 = (0 : Int32) then
  jX7_after_j161 N b0 w1 s
  else
  if t0 = (0 : Int32) then
  zq_ck w1 100 (
  jX7_after_j164 N b0 ((zga s (zs b0 + 4) w1) + (1 : Int32)) s)
  else
  jX7_after_j161 N b0 w1 s
  else if (zga s (zs b0 + 2) w1) = (123 : Int32) then
  if w4 = (0 : Int32) then
  zq_ck w1 100 (
  jX7_after_j139 N b0 ((zga s (zs b0 + 4) w1) + (1 : Int32)) s)
  else
  jX7_after_j139 N b0 (w1 + (1 : Int32)) s
  else 
  some ((w1 + (1 : Int32)), s))
set_option maxRecDepth 20000 in
set_option maxHeartbeats 2000000 in
theorem xX7_after_j63_j (N : Nat) (b0 : Bool)  (w1 : Int32) (w3 : Int32) (w4 : Int32) (t0 : Int32) (s : zq_S) : zq_X yX7_after RX7 cX7_after 6 (some .int) ⟨0, 0, 0, 0⟩ zv_i 63 [.ref (zs b0), .int w1, .null, .int w3, .int w4, .null] [.int t0] s (jX7_after_j63 N b0 w1 w3 w4 t0 s) := by
  unfold jX7_after_j63
  refine zx_lift (pc' := 65) (fun _ => zq_istore (ls' := [.ref (zs b0), .int w1, .null, .int w3, .int w4, .int t0]) (by decide) rfl rfl dX7_after_63 rfl) ?_
  refine zx_lift (pc' := 66) (fun _ => zq_aload_n rfl rfl dX7_after_65 rfl) ?_
  refine zx_lift (pc' := 69) (fun _ => zt_getR zfr_X7_15 (zfd_s_3 b0) dX7_after_66 rfl) ?_
  refine zx_lift (pc' := 70) (fun _ => zq_iload_n rfl rfl dX7_after_69 rfl) ?_
  refine zx_iaload (pc' := 71) (zsh_s2 b0) dX7_after_70 rfl ?_
  refine zx_ite (fun hc => ?_) (fun hn3 => ?_)
  · refine zx_look (tgt := 185) hc dX7_after_71 (by decide) (by decide) trivial ?_
    refine zx_lift (pc' := 187) (fun _ => zq_iload rfl dX7_after_185 rfl) ?_
    refine zx_if_eq (pc' := 190) (tgt := 201) dX7_after_187 rfl rfl (fun hc => ?_) (fun hc => ?_)
    · refine zx_lift (pc' := 202) (fun _ => zq_iload_n rfl rfl dX7_after_201 rfl) ?_
      refine zx_lift (pc' := 203) (fun _ => zq_iconst (v := 1) dX7_after_202 rfl rfl) ?_
      refine zx_lift (pc' := 204) (fun _ => zq_iadd dX7_after_203 rfl) ?_
      refine zx_less [.null, .null, .null, .null, .null, .null] (zq_cz (zq_cz (zq_cz (zq_cz (zq_cz (zq_cz zq_cn)))))) ?_
      exact xX7_after_j204_j N b0 (w1 + (1 : Int32)) s
    · refine zx_lift (pc' := 191) (fun _ => zq_aload_n rfl rfl dX7_after_190 rfl) ?_
      refine zx_lift (pc' := 194) (fun _ => zt_getR zfr_X7_37 (zfd_s_13 b0) dX7_after_191 rfl) ?_
      refine zx_lift (pc' := 195) (fun _ => zq_iload_n rfl rfl dX7_after_194 rfl) ?_
      refine zx_iaload (pc' := 196) (zsh_s9 b0) dX7_after_195 rfl ?_
      refine zx_lift (pc' := 197) (fun _ => zq_iconst (v := 1) dX7_after_196 rfl rfl) ?_
      refine zx_lift (pc' := 198) (fun _ => zq_iadd dX7_after_197 rfl) ?_
      refine zx_lift (pc' := 204) (fun _ => zq_goto dX7_after_198 rfl) ?_
      refine zx_less [.null, .null, .null, .null, .null, .null] (zq_cz (zq_cz (zq_cz (zq_cz (zq_cz (zq_cz zq_cn)))))) ?_
      exact xX7_after_j204_j N b0 ((zga s (zs b0 + 9) w3) + (1 : Int32)) s
  refine zx_ite (fun hc => ?_) (fun hn4 => ?_)
  · refine zx_look (tgt := 165) hc dX7_after_71 (by decide) (by decide) trivial ?_
    refine zx_lift (pc' := 167) (fun _ => zq_iload rfl dX7_after_165 rfl) ?_
    refine zx_if_eq (pc' := 170) (tgt := 181) dX7_after_167 rfl rfl (fun hc => ?_) (fun hc => ?_)
    · refine zx_lift (pc' := 182) (fun _ => zq_iload_n rfl rfl dX7_after_181 rfl) ?_
      refine zx_lift (pc' := 183) (fun _ => zq_iconst (v := 1) dX7_after_182 rfl rfl) ?_
      refine zx_lift (pc' := 184) (fun _ => zq_iadd dX7_after_183 rfl) ?_
      refine zx_less [.null, .null, .null, .null, .null, .null] (zq_cz (zq_cz (zq_cz (zq_cz (zq_cz (zq_cz zq_cn)))))) ?_
      exact xX7_after_j184_j N b0 (w1 + (1 : Int32)) s
    · refine zx_lift (pc' := 171) (fun _ => zq_aload_n rfl rfl dX7_after_170 rfl) ?_
      refine zx_lift (pc' := 174) (fun _ => zt_getR zfr_X7_22 (zfd_s_5 b0) dX7_after_171 rfl) ?_
      refine zx_lift (pc' := 175) (fun _ => zq_iload_n rfl rfl dX7_after_174 rfl) ?_
      refine zx_iaload (pc' := 176) (zsh_s4 b0) dX7_after_175 rfl ?_
      refine zx_lift (pc' := 177) (fun _ => zq_iconst (v := 1) dX7_after_176 rfl rfl) ?_
      refine zx_lift (pc' := 178) (fun _ => zq_iadd dX7_after_177 rfl) ?_
      refine zx_lift (pc' := 184) (fun _ => zq_goto dX7_after_178 rfl) ?_
      refine zx_less [.null, .null, .null, .null, .null, .null] (zq_cz (zq_cz (zq_cz (zq_cz (zq_cz (zq_cz zq_cn)))))) ?_
      exact xX7_after_j184_j N b0 ((zga s (zs b0 + 4) w1) + (1 : Int32)) s
  refine zx_ite (fun hc => ?_) (fun hn5 => ?_)
  · refine zx_look (tgt := 205) hc dX7_after_71 (by decide) (by decide) trivial ?_
    refine zx_lift (pc' := 207) (fun _ => zq_iload rfl dX7_after_205 rfl) ?_
    refine zx_if_eq (pc' := 210) (tgt := 221) dX7_after_207 rfl rfl (fun hc => ?_) (fun hc => ?_)
    · refine zx_lift (pc' := 222) (fun _ => zq_iload_n rfl rfl dX7_after_221 rfl) ?_
      refine zx_lift (pc' := 223) (fun _ => zq_iconst (v := 1) dX7_after_222 rfl rfl) ?_
      refine zx_lift (pc' := 224) (fun _ => zq_iadd dX7_after_223 rfl) ?_
      refine zx_less [.null, .null, .null, .null, .null, .null] (zq_cz (zq_cz (zq_cz (zq_cz (zq_cz (zq_cz zq_cn)))))) ?_
      exact xX7_after_j224_j N b0 (w1 + (1 : Int32)) s
    · refine zx_lift (pc' := 211) (fun _ => zq_aload_n rfl rfl dX7_after_210 rfl) ?_
      refine zx_lift (pc' := 214) (fun _ => zt_getR zfr_X7_40 (zfd_s_14 b0) dX7_after_211 rfl) ?_
      refine zx_lift (pc' := 215) (fun _ => zq_iload_n rfl rfl dX7_after_214 rfl) ?_
      refine zx_iaload (pc' := 216) (zsh_s10 b0) dX7_after_215 rfl ?_
      refine zx_lift (pc' := 217) (fun _ => zq_iconst (v := 1) dX7_after_216 rfl rfl) ?_
      refine zx_lift (pc' := 218) (fun _ => zq_iadd dX7_after_217 rfl) ?_
      refine zx_lift (pc' := 224) (fun _ => zq_goto dX7_after_218 rfl) ?_
      refine zx_less [.null, .null, .null, .null, .null, .null] (zq_cz (zq_cz (zq_cz (zq_cz (zq_cz (zq_cz zq_cn)))))) ?_
      exact xX7_after_j224_j N b0 ((zga s (zs b0 + 10) w3) + (1 : Int32)) s
  refine zx_ite (fun hc => ?_) (fun hn6 => ?_)
  · refine zx_look (tgt := 140) hc dX7_after_71 (by decide) (by decide) trivial ?_
    refine zx_lift (pc' := 142) (fun _ => zq_iload rfl dX7_after_140 rfl) ?_
    refine zx_if_eq (pc' := 145) (tgt := 161) dX7_after_142 rfl rfl (fun hc => ?_) (fun hc => ?_)
    · refine zx_less [.null, .int w1, .null, .null, .null, .null] (zq_cz (zq_cr (zq_cz (zq_cz (zq_cz (zq_cz zq_cn)))))) ?_
      exact xX7_after_j161_j N b0 w1 s
    · refine zx_lift (pc' := 147) (fun _ => zq_iload rfl dX7_after_145 rfl) ?_
      refine zx_if_ne (pc' := 150) (tgt := 161) dX7_after_147 rfl rfl (fun hc => ?_) (fun hc => ?_)
      · refine zx_less [.null, .int w1, .null, .null, .null, .null] (zq_cz (zq_cr (zq_cz (zq_cz (zq_cz (zq_cz zq_cn)))))) ?_
        exact xX7_after_j161_j N b0 w1 s
      · refine zx_lift (pc' := 151) (fun _ => zq_aload_n rfl rfl dX7_after_150 rfl) ?_
        refine zx_lift (pc' := 154) (fun _ => zt_getR zfr_X7_22 (zfd_s_5 b0) dX7_after_151 rfl) ?_
        refine zx_lift (pc' := 155) (fun _ => zq_iload_n rfl rfl dX7_after_154 rfl) ?_
        refine zx_iaload (pc' := 156) (zsh_s4 b0) dX7_after_155 rfl ?_
        refine zx_lift (pc' := 157) (fun _ => zq_iconst (v := 1) dX7_after_156 rfl rfl) ?_
        refine zx_lift (pc' := 158) (fun _ => zq_iadd dX7_after_157 rfl) ?_
        refine zx_lift (pc' := 164) (fun _ => zq_goto dX7_after_158 rfl) ?_
        refine zx_less [.null, .null, .null, .null, .null, .null] (zq_cz (zq_cz (zq_cz (zq_cz (zq_cz (zq_cz zq_cn)))))) ?_
        exact xX7_after_j164_j N b0 ((zga s (zs b0 + 4) w1) + (1 : Int32)) s
  refine zx_ite (fun hc => ?_) (fun hn7 => ?_)
  · refine zx_look (tgt := 120) hc dX7_after_71 (by decide) (by decide) trivial ?_
    refine zx_lift (pc' := 122) (fun _ => zq_iload rfl dX7_after_120 rfl) ?_
    refine zx_if_eq (pc' := 125) (tgt := 131) dX7_after_122 rfl rfl (fun hc => ?_) (fun hc => ?_)
    · refine zx_lift (pc' := 132) (fun _ => zq_aload_n rfl rfl dX7_after_131 rfl) ?_
      refine zx_lift (pc' := 135) (fun _ => zt_getR zfr_X7_22 (zfd_s_5 b0) dX7_after_132 rfl) ?_
      refine zx_lift (pc' := 136) (fun _ => zq_iload_n rfl rfl dX7_after_135 rfl) ?_
      refine zx_iaload (pc' := 137) (zsh_s4 b0) dX7_after_136 rfl ?_
      refine zx_lift (pc' := 138) (fun _ => zq_iconst (v := 1) dX7_after_137 rfl rfl) ?_
      refine zx_lift (pc' := 139) (fun _ => zq_iadd dX7_after_138 rfl) ?_
      refine zx_less [.null, .null, .null, .null, .null, .null] (zq_cz (zq_cz (zq_cz (zq_cz (zq_cz (zq_cz zq_cn)))))) ?_
      exact xX7_after_j139_j N b0 ((zga s (zs b0 + 4) w1) + (1 : Int32)) s
    · refine zx_lift (pc' := 126) (fun _ => zq_iload_n rfl rfl dX7_after_125 rfl) ?_
      refine zx_lift (pc' := 127) (fun _ => zq_iconst (v := 1) dX7_after_126 rfl rfl) ?_
      refine zx_lift (pc' := 128) (fun _ => zq_iadd dX7_after_127 rfl) ?_
      refine zx_lift (pc' := 139) (fun _ => zq_goto dX7_after_128 rfl) ?_
      refine zx_less [.null, .null, .null, .null, .null, .null] (zq_cz (zq_cz (zq_cz (zq_cz (zq_cz (zq_cz zq_cn)))))) ?_
      exact xX7_after_j139_j N b0 (w1 + (1 : Int32)) s
  refine zx_lookD (tgt := 225) dX7_after_71 (by decide) (by have hn3 := zq_tks (k := 42) hn3 (by decide); have hn4 := zq_tks (k := 60) hn4 (by decide); have hn5 := zq_tks (k := 62) hn5 (by decide); have hn6 := zq_tks (k := 91) hn6 (by decide); have hn7 := zq_tks (k := 123) hn7 (by decide); simp [Op.lookupswitch.offset, hn3, hn4, hn5, hn6, hn7]) rfl ?_
  refine zx_lift (pc' := 226) (fun _ => zq_iload_n rfl rfl dX7_after_225 rfl) ?_
  refine zx_lift (pc' := 227) (fun _ => zq_iconst (v := 1) dX7_after_226 rfl rfl) ?_
  refine zx_lift (pc' := 228) (fun _ => zq_iadd dX7_after_227 rfl) ?_
  exact zx_iret rfl dX7_after_228
def jX7_after_j62 (N : Nat) (b0 : Bool)  (w1 : Int32) (w3 : Int32) (w4 : Int32) (s : zq_S) : Option (Int32 × zq_S) :=
  jX7_after_j63 N b0 w1 w3 w4 (0 : Int32) s
set_option maxRecDepth 20000 in
set_option maxHeartbeats 2000000 in
theorem xX7_after_j62_j (N : Nat) (b0 : Bool)  (w1 : Int32) (w3 : Int32) (w4 : Int32) (s : zq_S) : zq_X yX7_after RX7 cX7_after 6 (some .int) ⟨0, 0, 0, 0⟩ zv_i 62 [.ref (zs b0), .int w1, .null, .int w3, .int w4, .null] [] s (jX7_after_j62 N b0 w1 w3 w4 s) := by
  unfold jX7_after_j62
  refine zx_lift (pc' := 63) (fun _ => zq_iconst (v := 0) dX7_after_62 rfl rfl) ?_
  exact xX7_after_j63_j N b0 w1 w3 w4 (0 : Int32) s
def mX7_after (N : Nat) (b0 : Bool) (p1 : Int32) (p2 : Int32) (s : zq_S) : Option (Int32 × zq_S) :=
  zq_ck p1 100 (
  zq_let (zga s (zs b0 + 3) p1) (fun x1 =>
  if x1 < (0 : Int32) then
  jX7_after_j17 N b0 p1 s
  else
  if x1 < (10 : Int32) then
  zq_let (if ((p2 >>> (x1 &&& 31)) &&& (1 : Int32)) = (0 : Int32) then (0 : Int32) else (1 : Int32)) (fun x2 =>
  zq_ck x1 10 (
  if (zga s (zs b0 + 11) x1) < (0 : Int32) then
  jX7_after_j62 N b0 p1 x1 x2 s
  else
  zq_ck x1 10 (
  if ((p2 >>> ((zga s (zs b0 + 11) x1) &&& 31)) &&& (1 : Int32)) = (0 : Int32) then
  jX7_after_j62 N b0 p1 x1 x2 s
  else
  jX7_after_j63 N b0 p1 x1 x2 (1 : Int32) s)))
  else
  jX7_after_j17 N b0 p1 s))
set_option maxRecDepth 20000 in
set_option maxHeartbeats 2000000 in
theorem xX7_after (N : Nat) (b0 : Bool) (p1 : Int32) (p2 : Int32) (s : zq_S) : zq_X yX7_after RX7 cX7_after 6 (some .int) ⟨0, 0, 0, 0⟩ zv_i 0 [.ref (zs b0), .int p1, .int p2, .null, .null, .null] [] s (mX7_after N b0 p1 p2 s) := by
  unfold mX7_after
  refine zx_lift (pc' := 1) (fun _ => zq_aload_n rfl rfl dX7_after_0 rfl) ?_
  refine zx_lift (pc' := 4) (fun _ => zt_getR zfr_X7_19 (zfd_s_4 b0) dX7_after_1 rfl) ?_
  refine zx_lift (pc' := 5) (fun _ => zq_iload_n rfl rfl dX7_after_4 rfl) ?_
  refine zx_iaload (pc' := 6) (zsh_s3 b0) dX7_after_5 rfl ?_
  refine zx_istore_n (pc' := 7) (ls' := fun x1 => [.ref (zs b0), .int p1, .int p2, .int x1, .null, .null]) rfl (by decide) rfl (fun _ => rfl) dX7_after_6 rfl (fun x1 => ?_)
  refine zx_lift (pc' := 8) (fun _ => zq_iload_n rfl rfl dX7_after_7 rfl) ?_
  refine zx_if_lt (pc' := 11) (tgt := 17) dX7_after_8 rfl rfl (fun hc => ?_) (fun hc => ?_)
  · refine zx_less [.null, .int p1, .null, .null, .null, .null] (zq_cz (zq_cr (zq_cz (zq_cz (zq_cz (zq_cz zq_cn)))))) ?_
    exact xX7_after_j17_j N b0 p1 s
  · refine zx_lift (pc' := 12) (fun _ => zq_iload_n rfl rfl dX7_after_11 rfl) ?_
    refine zx_lift (pc' := 14) (fun _ => zq_bipush (v := 10) dX7_after_12 rfl rfl) ?_
    refine zx_icmp_lt (pc' := 17) (tgt := 21) dX7_after_14 rfl rfl (fun hc => ?_) (fun hc => ?_)
    · refine zx_lift (pc' := 22) (fun _ => zq_iload_n rfl rfl dX7_after_21 rfl) ?_
      refine zx_lift (pc' := 23) (fun _ => zq_iload_n rfl rfl dX7_after_22 rfl) ?_
      refine zx_lift (pc' := 24) (fun _ => zq_ishr dX7_after_23 rfl) ?_
      refine zx_lift (pc' := 25) (fun _ => zq_iconst (v := 1) dX7_after_24 rfl rfl) ?_
      refine zx_lift (pc' := 26) (fun _ => zq_iand dX7_after_25 rfl) ?_
      refine zx_tern (pcJ := 34) (lsJ := fun x2 => [.ref (zs b0), .int p1, .int p2, .int x1, .null, .null]) (stJ := fun x2 => [.int x2]) (fun x2 => ?_) (fun f hJ => ?_)
      rotate_left
      · refine zx_lif_eq (pc' := 29) (tgt := 33) dX7_after_26 rfl rfl (fun _ => ?_) (fun _ => ?_)
        · refine zx_lift (pc' := 34) (fun _ => zq_iconst (v := 0) dX7_after_33 rfl rfl) ?_
          exact zx_lessJ (zq_cr (zq_cr (zq_cr (zq_cr (zq_cz (zq_cz zq_cn)))))) (hJ _)
        · refine zx_lift (pc' := 30) (fun _ => zq_iconst (v := 1) dX7_after_29 rfl rfl) ?_
          refine zx_lift (pc' := 34) (fun _ => zq_goto dX7_after_30 rfl) ?_
          exact zx_lessJ (zq_cr (zq_cr (zq_cr (zq_cr (zq_cz (zq_cz zq_cn)))))) (hJ _)
      refine zx_lift (pc' := 36) (fun _ => zq_istore (ls' := [.ref (zs b0), .int p1, .int p2, .int x1, .int x2, .null]) (by decide) rfl rfl dX7_after_34 rfl) ?_
      refine zx_lift (pc' := 37) (fun _ => zq_aload_n rfl rfl dX7_after_36 rfl) ?_
      refine zx_lift (pc' := 40) (fun _ => zt_getR zfr_X7_43 (zfd_s_15 b0) dX7_after_37 rfl) ?_
      refine zx_lift (pc' := 41) (fun _ => zq_iload_n rfl rfl dX7_after_40 rfl) ?_
      refine zx_iaload (pc' := 42) (zsh_s11 b0) dX7_after_41 rfl ?_
      refine zx_if_lt (pc' := 45) (tgt := 62) dX7_after_42 rfl rfl (fun hc => ?_) (fun hc => ?_)
      · refine zx_less [.ref (zs b0), .int p1, .null, .int x1, .int x2, .null] (zq_cr (zq_cr (zq_cz (zq_cr (zq_cr (zq_cz zq_cn)))))) ?_
        exact xX7_after_j62_j N b0 p1 x1 x2 s
      · refine zx_lift (pc' := 46) (fun _ => zq_iload_n rfl rfl dX7_after_45 rfl) ?_
        refine zx_lift (pc' := 47) (fun _ => zq_aload_n rfl rfl dX7_after_46 rfl) ?_
        refine zx_lift (pc' := 50) (fun _ => zt_getR zfr_X7_43 (zfd_s_15 b0) dX7_after_47 rfl) ?_
        refine zx_lift (pc' := 51) (fun _ => zq_iload_n rfl rfl dX7_after_50 rfl) ?_
        refine zx_iaload (pc' := 52) (zsh_s11 b0) dX7_after_51 rfl ?_
        refine zx_lift (pc' := 53) (fun _ => zq_ishr dX7_after_52 rfl) ?_
        refine zx_lift (pc' := 54) (fun _ => zq_iconst (v := 1) dX7_after_53 rfl rfl) ?_
        refine zx_lift (pc' := 55) (fun _ => zq_iand dX7_after_54 rfl) ?_
        refine zx_if_eq (pc' := 58) (tgt := 62) dX7_after_55 rfl rfl (fun hc => ?_) (fun hc => ?_)
        · refine zx_less [.ref (zs b0), .int p1, .null, .int x1, .int x2, .null] (zq_cr (zq_cr (zq_cz (zq_cr (zq_cr (zq_cz zq_cn)))))) ?_
          exact xX7_after_j62_j N b0 p1 x1 x2 s
        · refine zx_lift (pc' := 59) (fun _ => zq_iconst (v := 1) dX7_after_58 rfl rfl) ?_
          refine zx_lift (pc' := 63) (fun _ => zq_goto dX7_after_59 rfl) ?_
          refine zx_less [.ref (zs b0), .int p1, .null, .int x1, .int x2, .null] (zq_cr (zq_cr (zq_cz (zq_cr (zq_cr (zq_cz zq_cn)))))) ?_
          exact xX7_after_j63_j N b0 p1 x1 x2 (1 : Int32) s
    · refine zx_less [.null, .int p1, .null, .null, .null, .null] (zq_cz (zq_cr (zq_cz (zq_cz (zq_cz (zq_cz zq_cn)))))) ?_
      exact xX7_after_j17_j N b0 p1 s
theorem cX7_after_mc (N : Nat) (b0 : Bool) (p1 : Int32) (p2 : Int32) (s : zq_S) (v : Int32 × zq_S) (h : mX7_after N b0 p1 p2 s = some v) : zq_MC yX7_after cX7_after 6 (some .int) ⟨0, 0, 0, 0⟩ 0 0 [.ref (zs b0), .int p1, .int p2] (zq_en s) (zv_i v.1, zq_en v.2) := zq_MC_x [.ref (zs b0), .int p1, .int p2, .null, .null, .null] (by decide +kernel) rfl rfl (Nat.le_of_ble_eq_true rfl) (xX7_after N b0 p1 p2 s) h
