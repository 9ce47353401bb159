def jX1_outermost_j79 (N : Nat)  (f2 : Int32)  (self : Int32 × Int32 × zq_S → Option (Int32 × zq_S)) (w3 : Int32) (w4 : Int32) (s : zq_S) : Option (Int32 × zq_S) :=
  zq_let (w4 + (1 : Int32)) (fun x9 =>
  self (w3, x9, s))
set_option maxRecDepth 20000 in
set_option maxHeartbeats 2000000 in
theorem xX1_outermost_j79_j (N : Nat)  (f2 : Int32)  (self : Int32 × Int32 × zq_S → Option (Int32 × zq_S)) (hself : ∀ v, zq_X yX1_outermost RX1 cX1_outermost 6 (some .int) ⟨5, 0, 0, 118⟩ zv_i 15 [.ref 56, .null, .int f2, .int v.1, .int v.2.1, .null] [] v.2.2 (self v)) (w3 : Int32) (w4 : Int32) (s : zq_S) : zq_X yX1_outermost RX1 cX1_outermost 6 (some .int) ⟨5, 0, 0, 118⟩ zv_i 79 [.ref 56, .null, .int f2, .int w3, .int w4, .null] [] s (jX1_outermost_j79 N f2 self w3 w4 s) := by
  unfold jX1_outermost_j79
  refine zx_iinc (pc' := 82) (ls' := fun x9 => [.ref 56, .null, .int f2, .int w3, .int x9, .null]) rfl rfl (by decide) rfl (fun _ => rfl) dX1_outermost_79 rfl (fun x9 => ?_)
  refine zx_lift (pc' := 15) (fun _ => zq_goto dX1_outermost_82 rfl) ?_
  exact hself (w3, x9, s)
def bX1_outermost_15 (N : Nat)  (f2 : Int32)  (self : Int32 × Int32 × zq_S → Option (Int32 × zq_S)) (v : Int32 × Int32 × zq_S) : Option (Int32 × zq_S) :=
  zq_b2 (mX3_goodCount N v.2.2) (fun r5 s6 =>
  if r5 ≤ v.2.1 then
  some (v.1, s6)
  else
  zq_b2 (mX3_goodAt N v.2.1 s6) (fun r7 s8 =>
  zq_ck r7 4096 (
  if (lg_cmp (zgl s8 1 r7) (0 : Int64)) ≤ (0 : Int32) then
  jX1_outermost_j79 N f2 self v.1 v.2.1 s8
  else
  zq_ck ((1024 : Int32) + r7) 4096 (
  if (lg_cmp (zgl s8 1 ((1024 : Int32) + r7)) (0 : Int64)) ≤ (0 : Int32) then
  jX1_outermost_j79 N f2 self v.1 v.2.1 s8
  else
  zq_b2 (mX1_isFurther N r7 v.1 f2 s8) (fun r10 s11 =>
  if r10 = (0 : Int32) then
  jX1_outermost_j79 N f2 self v.1 v.2.1 s11
  else
  jX1_outermost_j79 N f2 self r7 v.2.1 s11)))))
set_option maxRecDepth 20000 in
set_option maxHeartbeats 2000000 in
theorem xX1_outermost_15 (N : Nat)  (f2 : Int32)  (self : Int32 × Int32 × zq_S → Option (Int32 × zq_S)) (hself : ∀ v, zq_X yX1_outermost RX1 cX1_outermost 6 (some .int) ⟨5, 0, 0, 118⟩ zv_i 15 [.ref 56, .null, .int f2, .int v.1, .int v.2.1, .null] [] v.2.2 (self v)) (v : Int32 × Int32 × zq_S) : zq_X yX1_outermost RX1 cX1_outermost 6 (some .int) ⟨5, 0, 0, 118⟩ zv_i 15 [.ref 56, .null, .int f2, .int v.1, .int v.2.1, .null] [] v.2.2 (bX1_outermost_15 N f2 self v) := by
  unfold bX1_outermost_15
  refine zx_lift (pc' := 17) (fun _ => zq_iload rfl dX1_outermost_15 rfl) ?_
  refine zx_lift (pc' := 18) (fun _ => zq_aload_n rfl rfl dX1_outermost_17 rfl) ?_
  refine zx_lift (pc' := 21) (fun _ => zt_getR zfr_X1_9 zfd_56_0 dX1_outermost_18 rfl) ?_
  refine zx_cVi (pc' := 24) zcv_X1_47 (cX3_goodCount_mc N v.2.2) zob_31 rfl (by decide) (Nat.le_of_ble_eq_true rfl) dX1_outermost_21 rfl rfl (fun r5 s6 => ?_)
  refine zx_icmp_ge (pc' := 27) (tgt := 85) dX1_outermost_24 rfl rfl (fun hc => ?_) (fun hc => ?_)
  · refine zx_lift (pc' := 86) (fun _ => zq_iload_n rfl rfl dX1_outermost_85 rfl) ?_
    exact zx_iret rfl dX1_outermost_86
  · refine zx_lift (pc' := 28) (fun _ => zq_aload_n rfl rfl dX1_outermost_27 rfl) ?_
    refine zx_lift (pc' := 31) (fun _ => zt_getR zfr_X1_9 zfd_56_0 dX1_outermost_28 rfl) ?_
    refine zx_lift (pc' := 33) (fun _ => zq_iload rfl dX1_outermost_31 rfl) ?_
    refine zx_cVi (pc' := 36) zcv_X1_53 (cX3_goodAt_mc N v.2.1 s6) zob_31 rfl (by decide) (Nat.le_of_ble_eq_true rfl) dX1_outermost_33 rfl rfl (fun r7 s8 => ?_)
    refine zx_lift (pc' := 38) (fun _ => zq_istore (ls' := [.ref 56, .null, .int f2, .int v.1, .int v.2.1, .int r7]) (by decide) rfl rfl dX1_outermost_36 rfl) ?_
    refine zx_lift (pc' := 39) (fun _ => zq_aload_n rfl rfl dX1_outermost_38 rfl) ?_
    refine zx_lift (pc' := 42) (fun _ => zt_getR zfr_X1_27 zfd_56_4 dX1_outermost_39 rfl) ?_
    refine zx_lift (pc' := 44) (fun _ => zq_iload rfl dX1_outermost_42 rfl) ?_
    refine zx_laload (pc' := 45) zsh_1 dX1_outermost_44 rfl ?_
    refine zx_lift (pc' := 46) (fun _ => zq_lconst (v := 0) dX1_outermost_45 rfl rfl) ?_
    refine zx_lift (pc' := 47) (fun _ => zq_lcmp dX1_outermost_46 rfl) ?_
    refine zx_if_le (pc' := 50) (tgt := 79) dX1_outermost_47 rfl rfl (fun hc => ?_) (fun hc => ?_)
    · refine zx_less [.ref 56, .null, .int f2, .int v.1, .int v.2.1, .null] (zq_cr (zq_cz (zq_cr (zq_cr (zq_cr (zq_cz zq_cn)))))) ?_
      exact xX1_outermost_j79_j N f2 self hself v.1 v.2.1 s8
    · refine zx_lift (pc' := 51) (fun _ => zq_aload_n rfl rfl dX1_outermost_50 rfl) ?_
      refine zx_lift (pc' := 54) (fun _ => zt_getR zfr_X1_27 zfd_56_4 dX1_outermost_51 rfl) ?_
      refine zx_lift (pc' := 57) (fun _ => zq_sipush (v := 1024) dX1_outermost_54 rfl rfl) ?_
      refine zx_lift (pc' := 59) (fun _ => zq_iload rfl dX1_outermost_57 rfl) ?_
      refine zx_lift (pc' := 60) (fun _ => zq_iadd dX1_outermost_59 rfl) ?_
      refine zx_laload (pc' := 61) zsh_1 dX1_outermost_60 rfl ?_
      refine zx_lift (pc' := 62) (fun _ => zq_lconst (v := 0) dX1_outermost_61 rfl rfl) ?_
      refine zx_lift (pc' := 63) (fun _ => zq_lcmp dX1_outermost_62 rfl) ?_
      refine zx_if_le (pc' := 66) (tgt := 79) dX1_outermost_63 rfl rfl (fun hc => ?_) (fun hc => ?_)
      · refine zx_less [.ref 56, .null, .int f2, .int v.1, .int v.2.1, .null] (zq_cr (zq_cz (zq_cr (zq_cr (zq_cr (zq_cz zq_cn)))))) ?_
        exact xX1_outermost_j79_j N f2 self hself v.1 v.2.1 s8
      · refine zx_lift (pc' := 68) (fun _ => zq_iload rfl dX1_outermost_66 rfl) ?_
        refine zx_lift (pc' := 69) (fun _ => zq_iload_n rfl rfl dX1_outermost_68 rfl) ?_
        refine zx_lift (pc' := 70) (fun _ => zq_iload_n rfl rfl dX1_outermost_69 rfl) ?_
        refine zx_cSi (pc' := 73) zcs_X1_68 (cX1_isFurther_mc N r7 v.1 f2 s8) rfl (by decide) (Nat.le_of_ble_eq_true rfl) dX1_outermost_70 rfl rfl (fun r10 s11 => ?_)
        refine zx_if_eq (pc' := 76) (tgt := 79) dX1_outermost_73 rfl rfl (fun hc => ?_) (fun hc => ?_)
        · refine zx_less [.ref 56, .null, .int f2, .int v.1, .int v.2.1, .null] (zq_cr (zq_cz (zq_cr (zq_cr (zq_cr (zq_cz zq_cn)))))) ?_
          exact xX1_outermost_j79_j N f2 self hself v.1 v.2.1 s11
        · refine zx_lift (pc' := 78) (fun _ => zq_iload rfl dX1_outermost_76 rfl) ?_
          refine zx_lift (pc' := 79) (fun _ => zq_istore_n (ls' := [.ref 56, .null, .int f2, .int r7, .int v.2.1, .int r7]) rfl (by decide) rfl rfl dX1_outermost_78 rfl) ?_
          refine zx_less [.ref 56, .null, .int f2, .int r7, .int v.2.1, .null] (zq_cr (zq_cz (zq_cr (zq_cr (zq_cr (zq_cz zq_cn)))))) ?_
          exact xX1_outermost_j79_j N f2 self hself r7 v.2.1 s11
theorem yX1_outermost_15 (N : Nat)  (f2 : Int32)  (n : Nat) : ∀ v : Int32 × Int32 × zq_S, zq_X yX1_outermost RX1 cX1_outermost 6 (some .int) ⟨5, 0, 0, 118⟩ zv_i 15 [.ref 56, .null, .int f2, .int v.1, .int v.2.1, .null] [] v.2.2 (zq_loop (bX1_outermost_15 N f2 ) n v) := by
  induction n with
  | zero => exact fun v u hu => by cases hu
  | succ n ih =>
    intro v
    rw [zq_loop_s]
    exact xX1_outermost_15 N f2  (zq_loop (bX1_outermost_15 N f2 ) n) ih v
def mX1_outermost (N : Nat)  (p1 : Int32) (p2 : Int32) (s : zq_S) : Option (Int32 × zq_S) :=
  zq_b2 (mX1_countUpTo N p1 s) (fun r1 s2 =>
  zq_b2 (mX1_countFrom N p1 s2) (fun r3 s4 =>
  zq_loop (bX1_outermost_15 N p2 ) N ((-1 : Int32), (0 : Int32), s4)))
set_option maxRecDepth 20000 in
set_option maxHeartbeats 2000000 in
theorem xX1_outermost (N : Nat)  (p1 : Int32) (p2 : Int32) (s : zq_S) : zq_X yX1_outermost RX1 cX1_outermost 6 (some .int) ⟨5, 0, 0, 118⟩ zv_i 0 [.ref 56, .int p1, .int p2, .null, .null, .null] [] s (mX1_outermost N p1 p2 s) := by
  unfold mX1_outermost
  refine zx_lift (pc' := 1) (fun _ => zq_aload_n rfl rfl dX1_outermost_0 rfl) ?_
  refine zx_lift (pc' := 2) (fun _ => zq_iload_n rfl rfl dX1_outermost_1 rfl) ?_
  refine zx_cVv (pc' := 5) zcv_X1_61 (cX1_countUpTo_mc N p1 s) zob_56 rfl (by decide) (Nat.le_of_ble_eq_true rfl) dX1_outermost_2 rfl rfl (fun r1 s2 => ?_)
  refine zx_lift (pc' := 6) (fun _ => zq_aload_n rfl rfl dX1_outermost_5 rfl) ?_
  refine zx_lift (pc' := 7) (fun _ => zq_iload_n rfl rfl dX1_outermost_6 rfl) ?_
  refine zx_cVv (pc' := 10) zcv_X1_65 (cX1_countFrom_mc N p1 s2) zob_56 rfl (by decide) (Nat.le_of_ble_eq_true rfl) dX1_outermost_7 rfl rfl (fun r3 s4 => ?_)
  refine zx_lift (pc' := 11) (fun _ => zq_iconst (v := (-1)) dX1_outermost_10 rfl rfl) ?_
  refine zx_lift (pc' := 12) (fun _ => zq_istore_n (ls' := [.ref 56, .int p1, .int p2, .int (-1 : Int32), .null, .null]) rfl (by decide) rfl rfl dX1_outermost_11 rfl) ?_
  refine zx_lift (pc' := 13) (fun _ => zq_iconst (v := 0) dX1_outermost_12 rfl rfl) ?_
  refine zx_lift (pc' := 15) (fun _ => zq_istore (ls' := [.ref 56, .int p1, .int p2, .int (-1 : Int32), .int (0 : Int32), .null]) (by decide) rfl rfl dX1_outermost_13 rfl) ?_
  refine zx_less [.ref 56, .null, .int p2, .int (-1 : Int32), .int (0 : Int32), .null] (zq_cr (zq_cz (zq_cr (zq_cr (zq_cr (zq_cz zq_cn)))))) ?_
  refine yX1_outermost_15 N p2  N ((-1 : Int32), (0 : Int32), s4)
theorem cX1_outermost_mc (N : Nat)  (p1 : Int32) (p2 : Int32) (s : zq_S) (v : Int32 × zq_S) (h : mX1_outermost N p1 p2 s = some v) : zq_MC yX1_outermost cX1_outermost 6 (some .int) ⟨5, 0, 0, 118⟩ 0 0 [.ref 56, .int p1, .int p2] (zq_en s) (zv_i v.1, zq_en v.2) := zq_MC_x [.ref 56, .int p1, .int p2, .null, .null, .null] (by decide +kernel) rfl rfl (Nat.le_of_ble_eq_true rfl) (xX1_outermost N p1 p2 s) h
def jX11_when_j48 (N : Nat)   (t0 : Int32) (s : zq_S) : Option (Int32 × zq_S) :=
  some (t0, s)
set_option maxRecDepth 20000 in
set_option maxHeartbeats 2000000 in
theorem xX11_when_j48_j (N : Nat)   (t0 : Int32) (s : zq_S) : zq_X yX11_when RX11 cX11_when 3 (some .int) ⟨6, 0, 0, 143⟩ zv_i 48 [.null, .null, .null] [.int t0] s (jX11_when_j48 N t0 s) := by
  unfold jX11_when_j48
  exact zx_iret rfl dX11_when_48
def jX11_when_j24 (N : Nat)   (w1 : Int32) (w2 : Int32) (s : zq_S) : Option (Int32 × zq_S) :=
  zq_let (if w2 = (1 : Int32) then (1 : Int32) else (0 : Int32)) (fun x3 =>
  zq_b2 (mX1_outermost N w1 x3 s) (fun r4 s5 =>
  jX11_when_j48 N r4 s5))
set_option maxRecDepth 20000 in
set_option maxHeartbeats 2000000 in
theorem xX11_when_j24_j (N : Nat)   (w1 : Int32) (w2 : Int32) (s : zq_S) : zq_X yX11_when RX11 cX11_when 3 (some .int) ⟨6, 0, 0, 143⟩ zv_i 24 [.ref 0, .int w1, .int w2] [] s (jX11_when_j24 N w1 w2 s) := by
  unfold jX11_when_j24
  refine zx_lift (pc' := 25) (fun _ => zq_aload_n rfl rfl dX11_when_24 rfl) ?_
  refine zx_lift (pc' := 28) (fun _ => zt_getR zfr_X11_95 zfd_0_8 dX11_when_25 rfl) ?_
  refine zx_lift (pc' := 29) (fun _ => zq_iload_n rfl rfl dX11_when_28 rfl) ?_
  refine zx_lift (pc' := 30) (fun _ => zq_iload_n rfl rfl dX11_when_29 rfl) ?_
  refine zx_lift (pc' := 31) (fun _ => zq_iconst (v := 1) dX11_when_30 rfl rfl) ?_
  refine zx_tern (pcJ := 39) (lsJ := fun x3 => [.null, .null, .null]) (stJ := fun x3 => [.int x3, .int w1, .ref 56]) (fun x3 => ?_) (fun f hJ => ?_)
  rotate_left
  · refine zx_licmp_ne (pc' := 34) (tgt := 38) dX11_when_31 rfl rfl (fun _ => ?_) (fun _ => ?_)
    · refine zx_lift (pc' := 39) (fun _ => zq_iconst (v := 0) dX11_when_38 rfl rfl) ?_
      exact zx_lessJ (zq_cz (zq_cz (zq_cz zq_cn))) (hJ _)
    · refine zx_lift (pc' := 35) (fun _ => zq_iconst (v := 1) dX11_when_34 rfl rfl) ?_
      refine zx_lift (pc' := 39) (fun _ => zq_goto dX11_when_35 rfl) ?_
      exact zx_lessJ (zq_cz (zq_cz (zq_cz zq_cn))) (hJ _)
  refine zx_cVi (pc' := 42) zcv_X11_283 (cX1_outermost_mc N w1 x3 s) zob_56 rfl (by decide) (Nat.le_of_ble_eq_true rfl) dX11_when_39 rfl rfl (fun r4 s5 => ?_)
  refine zx_lift (pc' := 48) (fun _ => zq_goto dX11_when_42 rfl) ?_
  exact xX11_when_j48_j N r4 s5
def mX11_when (N : Nat)  (p1 : Int32) (p2 : Int32) (s : zq_S) : Option (Int32 × zq_S) :=
  zq_b2 (mX1_hasCopy N p1 s) (fun r1 s2 =>
  if r1 = (0 : Int32) then
  some ((-1001 : Int32), s2)
  else
  if p2 = (0 : Int32) then
  jX11_when_j24 N p1 p2 s2
  else
  if p2 = (1 : Int32) then
  jX11_when_j24 N p1 p2 s2
  else
  jX11_when_j48 N (-1002 : Int32) s2)
set_option maxRecDepth 20000 in
set_option maxHeartbeats 2000000 in
theorem xX11_when (N : Nat)  (p1 : Int32) (p2 : Int32) (s : zq_S) : zq_X yX11_when RX11 cX11_when 3 (some .int) ⟨6, 0, 0, 143⟩ zv_i 0 [.ref 0, .int p1, .int p2] [] s (mX11_when N p1 p2 s) := by
  unfold mX11_when
  refine zx_lift (pc' := 1) (fun _ => zq_aload_n rfl rfl dX11_when_0 rfl) ?_
  refine zx_lift (pc' := 4) (fun _ => zt_getR zfr_X11_95 zfd_0_8 dX11_when_1 rfl) ?_
  refine zx_lift (pc' := 5) (fun _ => zq_iload_n rfl rfl dX11_when_4 rfl) ?_
  refine zx_cVi (pc' := 8) zcv_X11_271 (cX1_hasCopy_mc N p1 s) zob_56 rfl (by decide) (Nat.le_of_ble_eq_true rfl) dX11_when_5 rfl rfl (fun r1 s2 => ?_)
  refine zx_if_ne (pc' := 11) (tgt := 15) dX11_when_8 rfl rfl (fun hc => ?_) (fun hc => ?_)
  · refine zx_lift (pc' := 16) (fun _ => zq_iload_n rfl rfl dX11_when_15 rfl) ?_
    refine zx_if_eq (pc' := 19) (tgt := 24) dX11_when_16 rfl rfl (fun hc => ?_) (fun hc => ?_)
    · exact xX11_when_j24_j N p1 p2 s2
    · refine zx_lift (pc' := 20) (fun _ => zq_iload_n rfl rfl dX11_when_19 rfl) ?_
      refine zx_lift (pc' := 21) (fun _ => zq_iconst (v := 1) dX11_when_20 rfl rfl) ?_
      refine zx_icmp_ne (pc' := 24) (tgt := 45) dX11_when_21 rfl rfl (fun hc => ?_) (fun hc => ?_)
      · refine zx_lift (pc' := 48) (fun _ => zq_sipush (v := (-1002)) dX11_when_45 rfl rfl) ?_
        refine zx_less [.null, .null, .null] (zq_cz (zq_cz (zq_cz zq_cn))) ?_
        exact xX11_when_j48_j N (-1002 : Int32) s2
      · exact xX11_when_j24_j N p1 p2 s2
  · refine zx_lift (pc' := 14) (fun _ => zq_sipush (v := (-1001)) dX11_when_11 rfl rfl) ?_
    exact zx_iret rfl dX11_when_14
theorem cX11_when_mc (N : Nat)  (p1 : Int32) (p2 : Int32) (s : zq_S) (v : Int32 × zq_S) (h : mX11_when N p1 p2 s = some v) : zq_MC yX11_when cX11_when 3 (some .int) ⟨6, 0, 0, 143⟩ 0 0 [.ref 0, .int p1, .int p2] (zq_en s) (zv_i v.1, zq_en v.2) := zq_MC_x [.ref 0, .int p1, .int p2] (by decide +kernel) rfl rfl (Nat.le_of_ble_eq_true rfl) (xX11_when N p1 p2 s) h
def mX11_without (N : Nat)  (p1 : Int32) (p2 : Int32) (s : zq_S) : Option (Int32 × zq_S) :=
  zq_b2 (mX3_hasMark N p1 s) (fun r1 s2 =>
  if r1 = (0 : Int32) then
  some ((-1001 : Int32), s2)
  else
  zq_b2 (mX3_full N s2) (fun r3 s4 =>
  zq_ck p1 10 (
  zq_b2 (mX11_wordOrSize N (r3 &&& (((zga s4 35 p1) ||| ((1 : Int32) <<< (p1 &&& 31))) ^^^ (-1 : Int32))) p2 s4) (fun r5 s6 =>
  some (r5, s6)))))
set_option maxRecDepth 20000 in
set_option maxHeartbeats 2000000 in
theorem xX11_without (N : Nat)  (p1 : Int32) (p2 : Int32) (s : zq_S) : zq_X yX11_without RX11 cX11_without 3 (some .int) ⟨4, 0, 0, 94⟩ zv_i 0 [.ref 0, .int p1, .int p2] [] s (mX11_without N p1 p2 s) := by
  unfold mX11_without
  refine zx_lift (pc' := 1) (fun _ => zq_aload_n rfl rfl dX11_without_0 rfl) ?_
  refine zx_lift (pc' := 4) (fun _ => zt_getR zfr_X11_31 zfd_0_1 dX11_without_1 rfl) ?_
  refine zx_lift (pc' := 5) (fun _ => zq_iload_n rfl rfl dX11_without_4 rfl) ?_
  refine zx_cVi (pc' := 8) zcv_X11_130 (cX3_hasMark_mc N p1 s) zob_31 rfl (by decide) (Nat.le_of_ble_eq_true rfl) dX11_without_5 rfl rfl (fun r1 s2 => ?_)
  refine zx_if_ne (pc' := 11) (tgt := 15) dX11_without_8 rfl rfl (fun hc => ?_) (fun hc => ?_)
  · refine zx_lift (pc' := 16) (fun _ => zq_aload_n rfl rfl dX11_without_15 rfl) ?_
    refine zx_lift (pc' := 17) (fun _ => zq_aload_n rfl rfl dX11_without_16 rfl) ?_
    refine zx_lift (pc' := 20) (fun _ => zt_getR zfr_X11_31 zfd_0_1 dX11_without_17 rfl) ?_
    refine zx_cVi (pc' := 23) zcv_X11_231 (cX3_full_mc N s2) zob_31 rfl (by decide) (Nat.le_of_ble_eq_true rfl) dX11_without_20 rfl rfl (fun r3 s4 => ?_)
    refine zx_lift (pc' := 24) (fun _ => zq_aload_n rfl rfl dX11_without_23 rfl) ?_
    refine zx_lift (pc' := 27) (fun _ => zt_getR zfr_X11_31 zfd_0_1 dX11_without_24 rfl) ?_
    refine zx_lift (pc' := 30) (fun _ => zt_getR zfr_X11_144 zfd_31_4 dX11_without_27 rfl) ?_
    refine zx_lift (pc' := 31) (fun _ => zq_iload_n rfl rfl dX11_without_30 rfl) ?_
    refine zx_iaload (pc' := 32) zsh_35 dX11_without_31 rfl ?_
    refine zx_lift (pc' := 33) (fun _ => zq_iconst (v := 1) dX11_without_32 rfl rfl) ?_
    refine zx_lift (pc' := 34) (fun _ => zq_iload_n rfl rfl dX11_without_33 rfl) ?_
    refine zx_lift (pc' := 35) (fun _ => zq_ishl dX11_without_34 rfl) ?_
    refine zx_lift (pc' := 36) (fun _ => zq_ior dX11_without_35 rfl) ?_
    refine zx_lift (pc' := 37) (fun _ => zq_iconst (v := (-1)) dX11_without_36 rfl rfl) ?_
    refine zx_lift (pc' := 38) (fun _ => zq_ixor dX11_without_37 rfl) ?_
    refine zx_lift (pc' := 39) (fun _ => zq_iand dX11_without_38 rfl) ?_
    refine zx_lift (pc' := 40) (fun _ => zq_iload_n rfl rfl dX11_without_39 rfl) ?_
    refine zx_cVi (pc' := 43) zcv_X11_215 (cX11_wordOrSize_mc N (r3 &&& (((zga s4 35 p1) ||| ((1 : Int32) <<< (p1 &&& 31))) ^^^ (-1 : Int32))) p2 s4) zob_0 rfl (by decide) (Nat.le_of_ble_eq_true rfl) dX11_without_40 rfl rfl (fun r5 s6 => ?_)
    exact zx_iret rfl dX11_without_43
  · refine zx_lift (pc' := 14) (fun _ => zq_sipush (v := (-1001)) dX11_without_11 rfl rfl) ?_
    exact zx_iret rfl dX11_without_14
theorem cX11_without_mc (N : Nat)  (p1 : Int32) (p2 : Int32) (s : zq_S) (v : Int32 × zq_S) (h : mX11_without N p1 p2 s = some v) : zq_MC yX11_without cX11_without 3 (some .int) ⟨4, 0, 0, 94⟩ 0 0 [.ref 0, .int p1, .int p2] (zq_en s) (zv_i v.1, zq_en v.2) := zq_MC_x [.ref 0, .int p1, .int p2] (by decide +kernel) rfl rfl (Nat.le_of_ble_eq_true rfl) (xX11_without N p1 p2 s) h
def bX9_stands_13 (N : Nat)  (f1 : Int32) (f2 : Int32) (f3 : Int32)  (self : Int32 × zq_S → Option (Int32 × zq_S)) (v : Int32 × zq_S) : Option (Int32 × zq_S) :=
  if f3 ≤ v.1 then
  some ((0 : Int32), v.2)
  else
  zq_b2 (mX8_wordAt N false f2 v.1 v.2) (fun r5 s6 =>
  if r5 = f1 then
  some ((1 : Int32), s6)
  else
  zq_let (v.1 + (1 : Int32)) (fun x7 =>
  self (x7, s6)))
set_option maxRecDepth 20000 in
set_option maxHeartbeats 2000000 in
theorem xX9_stands_13 (N : Nat)  (f1 : Int32) (f2 : Int32) (f3 : Int32)  (self : Int32 × zq_S → Option (Int32 × zq_S)) (hself : ∀ v, zq_X yX9_stands RX9 cX9_stands 5 (some .boolean) ⟨3, 0, 0, 71⟩ zv_i 13 [.ref 38, .int f1, .int f2, .int f3, .int v.1] [] v.2 (self v)) (v : Int32 × zq_S) : zq_X yX9_stands RX9 cX9_stands 5 (some .boolean) ⟨3, 0, 0, 71⟩ zv_i 13 [.ref 38, .int f1, .int f2, .int f3, .int v.1] [] v.2 (bX9_stands_13 N f1 f2 f3 self v) := by
  unfold bX9_stands_13
  refine zx_lift (pc' := 15) (fun _ => zq_iload rfl dX9_stands_13 rfl) ?_
  refine zx_lift (pc' := 16) (fun _ => zq_iload_n rfl rfl dX9_stands_15 rfl) ?_
  refine zx_icmp_ge (pc' := 19) (tgt := 41) dX9_stands_16 rfl rfl (fun hc => ?_) (fun hc => ?_)
  · refine zx_lift (pc' := 42) (fun _ => zq_iconst (v := 0) dX9_stands_41 rfl rfl) ?_
    exact zx_zret rfl (by decide) dX9_stands_42
  · refine zx_lift (pc' := 20) (fun _ => zq_aload_n rfl rfl dX9_stands_19 rfl) ?_
    refine zx_lift (pc' := 23) (fun _ => zt_getR zfr_X9_14 zfd_38_0 dX9_stands_20 rfl) ?_
    refine zx_lift (pc' := 24) (fun _ => zq_iload_n rfl rfl dX9_stands_23 rfl) ?_
    refine zx_lift (pc' := 26) (fun _ => zq_iload rfl dX9_stands_24 rfl) ?_
    refine zx_cVi (pc' := 29) zcv_X9_49 (cX8_wordAt_mc N false f2 v.1 v.2) (zob_f false) rfl (by decide) (Nat.le_of_ble_eq_true rfl) dX9_stands_26 rfl rfl (fun r5 s6 => ?_)
    refine zx_lift (pc' := 30) (fun _ => zq_iload_n rfl rfl dX9_stands_29 rfl) ?_
    refine zx_icmp_ne (pc' := 33) (tgt := 35) dX9_stands_30 rfl rfl (fun hc => ?_) (fun hc => ?_)
    · refine zx_iinc (pc' := 38) (ls' := fun x7 => [.ref 38, .int f1, .int f2, .int f3, .int x7]) rfl rfl (by decide) rfl (fun _ => rfl) dX9_stands_35 rfl (fun x7 => ?_)
      refine zx_lift (pc' := 13) (fun _ => zq_goto dX9_stands_38 rfl) ?_
      exact hself (x7, s6)
    · refine zx_lift (pc' := 34) (fun _ => zq_iconst (v := 1) dX9_stands_33 rfl rfl) ?_
      exact zx_zret rfl (by decide) dX9_stands_34
theorem yX9_stands_13 (N : Nat)  (f1 : Int32) (f2 : Int32) (f3 : Int32)  (n : Nat) : ∀ v : Int32 × zq_S, zq_X yX9_stands RX9 cX9_stands 5 (some .boolean) ⟨3, 0, 0, 71⟩ zv_i 13 [.ref 38, .int f1, .int f2, .int f3, .int v.1] [] v.2 (zq_loop (bX9_stands_13 N f1 f2 f3 ) n v) := by
  induction n with
  | zero => exact fun v u hu => by cases hu
  | succ n ih =>
    intro v
    rw [zq_loop_s]
    exact xX9_stands_13 N f1 f2 f3  (zq_loop (bX9_stands_13 N f1 f2 f3 ) n) ih v
def mX9_stands (N : Nat)  (p1 : Int32) (p2 : Int32) (s : zq_S) : Option (Int32 × zq_S) :=
  zq_b2 (mX9_with N p2 s) (fun r1 s2 =>
  zq_b2 (mX8_sizeOf N false p2 s2) (fun r3 s4 =>
  zq_loop (bX9_stands_13 N p1 p2 r3 ) N ((0 : Int32), s4)))
set_option maxRecDepth 20000 in
set_option maxHeartbeats 2000000 in
theorem xX9_stands (N : Nat)  (p1 : Int32) (p2 : Int32) (s : zq_S) : zq_X yX9_stands RX9 cX9_stands 5 (some .boolean) ⟨3, 0, 0, 71⟩ zv_i 0 [.ref 38, .int p1, .int p2, .null, .null] [] s (mX9_stands N p1 p2 s) := by
  unfold mX9_stands
  refine zx_lift (pc' := 1) (fun _ => zq_aload_n rfl rfl dX9_stands_0 rfl) ?_
  refine zx_lift (pc' := 2) (fun _ => zq_iload_n rfl rfl dX9_stands_1 rfl) ?_
  refine zx_cVw (pc' := 5) zcv_X9_37 (cX9_with_mc N p2 s) zob_38 rfl (by decide) (Nat.le_of_ble_eq_true rfl) dX9_stands_2 rfl rfl (fun r1 s2 => ?_)
  refine zx_lift (pc' := 6) (fun _ => zq_iload_n rfl rfl dX9_stands_5 rfl) ?_
  refine zx_cVi (pc' := 9) zcv_X9_45 (cX8_sizeOf_mc N false p2 s2) (zob_f false) rfl (by decide) (Nat.le_of_ble_eq_true rfl) dX9_stands_6 rfl rfl (fun r3 s4 => ?_)
  refine zx_lift (pc' := 10) (fun _ => zq_istore_n (ls' := [.ref 38, .int p1, .int p2, .int r3, .null]) rfl (by decide) rfl rfl dX9_stands_9 rfl) ?_
  refine zx_lift (pc' := 11) (fun _ => zq_iconst (v := 0) dX9_stands_10 rfl rfl) ?_
  refine zx_lift (pc' := 13) (fun _ => zq_istore (ls' := [.ref 38, .int p1, .int p2, .int r3, .int (0 : Int32)]) (by decide) rfl rfl dX9_stands_11 rfl) ?_
  refine yX9_stands_13 N p1 p2 r3  N ((0 : Int32), s4)
theorem cX9_stands_mc (N : Nat)  (p1 : Int32) (p2 : Int32) (s : zq_S) (v : Int32 × zq_S) (h : mX9_stands N p1 p2 s = some v) : zq_MC yX9_stands cX9_stands 5 (some .boolean) ⟨3, 0, 0, 71⟩ 0 0 [.ref 38, .int p1, .int p2] (zq_en s) (zv_i v.1, zq_en v.2) := zq_MC_x [.ref 38, .int p1, .int p2, .null, .null] (by decide +kernel) rfl rfl (Nat.le_of_ble_eq_true rfl) (xX9_stands N p1 p2 s) h
def jX11_fewestMarks_j54 (N : Nat)  (f1 : Int32)  (self : Int32 × Int32 × zq_S → Option (Int32 × zq_S)) (w2 : Int32) (w3 : Int32) (s : zq_S) : Option (Int32 × zq_S) :=
  zq_let (w3 + (1 : Int32)) (fun x8 =>
  self (w2, x8, s))
set_option maxRecDepth 20000 in
set_option maxHeartbeats 2000000 in
theorem xX11_fewestMarks_j54_j (N : Nat)  (f1 : Int32)  (self : Int32 × Int32 × zq_S → Option (Int32 × zq_S)) (hself : ∀ v, zq_X yX11_fewestMarks RX11 cX11_fewestMarks 5 (some .int) ⟨4, 0, 0, 95⟩ zv_i 5 [.ref 0, .int f1, .int v.1, .int v.2.1, .null] [] v.2.2 (self v)) (w2 : Int32) (w3 : Int32) (s : zq_S) : zq_X yX11_fewestMarks RX11 cX11_fewestMarks 5 (some .int) ⟨4, 0, 0, 95⟩ zv_i 54 [.ref 0, .int f1, .int w2, .int w3, .null] [] s (jX11_fewestMarks_j54 N f1 self w2 w3 s) := by
  unfold jX11_fewestMarks_j54
  refine zx_iinc (pc' := 57) (ls' := fun x8 => [.ref 0, .int f1, .int w2, .int x8, .null]) rfl rfl (by decide) rfl (fun _ => rfl) dX11_fewestMarks_54 rfl (fun x8 => ?_)
  refine zx_lift (pc' := 5) (fun _ => zq_goto dX11_fewestMarks_57 rfl) ?_
  exact hself (w2, x8, s)
def bX11_fewestMarks_5 (N : Nat)  (f1 : Int32)  (self : Int32 × Int32 × zq_S → Option (Int32 × zq_S)) (v : Int32 × Int32 × zq_S) : Option (Int32 × zq_S) :=
  zq_b2 (mX3_goodCount N v.2.2) (fun r1 s2 =>
  if r1 ≤ v.2.1 then
  zq_let (if v.1 ≤ (10 : Int32) then v.1 else (-1 : Int32)) (fun x3 =>
  some (x3, s2))
  else
  zq_b2 (mX3_goodAt N v.2.1 s2) (fun r4 s5 =>
  zq_b2 (mJ6_bitCount_0f7a4 N r4 s5) (fun r6 s7 =>
  if v.1 ≤ r6 then
  jX11_fewestMarks_j54 N f1 self v.1 v.2.1 s7
  else
  zq_b2 (mX9_stands N f1 r4 s7) (fun r9 s10 =>
  if r9 = (0 : Int32) then
  jX11_fewestMarks_j54 N f1 self v.1 v.2.1 s10
  else
  zq_b2 (mJ6_bitCount_0f7a4 N r4 s10) (fun r11 s12 =>
  jX11_fewestMarks_j54 N f1 self r11 v.2.1 s12)))))
set_option maxRecDepth 20000 in
set_option maxHeartbeats 2000000 in
theorem xX11_fewestMarks_5 (N : Nat)  (f1 : Int32)  (self : Int32 × Int32 × zq_S → Option (Int32 × zq_S)) (hself : ∀ v, zq_X yX11_fewestMarks RX11 cX11_fewestMarks 5 (some .int) ⟨4, 0, 0, 95⟩ zv_i 5 [.ref 0, .int f1, .int v.1, .int v.2.1, .null] [] v.2.2 (self v)) (v : Int32 × Int32 × zq_S) : zq_X yX11_fewestMarks RX11 cX11_fewestMarks 5 (some .int) ⟨4, 0, 0, 95⟩ zv_i 5 [.ref 0, .int f1, .int v.1, .int v.2.1, .null] [] v.2.2 (bX11_fewestMarks_5 N f1 self v) := by
  unfold bX11_fewestMarks_5
  refine zx_lift (pc' := 6) (fun _ => zq_iload_n rfl rfl dX11_fewestMarks_5 rfl) ?_
  refine zx_lift (pc' := 7) (fun _ => zq_aload_n rfl rfl dX11_fewestMarks_6 rfl) ?_
  refine zx_lift (pc' := 10) (fun _ => zt_getR zfr_X11_31 zfd_0_1 dX11_fewestMarks_7 rfl) ?_
  refine zx_cVi (pc' := 13) zcv_X11_183 (cX3_goodCount_mc N v.2.2) zob_31 rfl (by decide) (Nat.le_of_ble_eq_true rfl) dX11_fewestMarks_10 rfl rfl (fun r1 s2 => ?_)
  refine zx_icmp_ge (pc' := 16) (tgt := 60) dX11_fewestMarks_13 rfl rfl (fun hc => ?_) (fun hc => ?_)
  · refine zx_lift (pc' := 61) (fun _ => zq_iload_n rfl rfl dX11_fewestMarks_60 rfl) ?_
    refine zx_lift (pc' := 63) (fun _ => zq_bipush (v := 10) dX11_fewestMarks_61 rfl rfl) ?_
    refine zx_tern (pcJ := 71) (lsJ := fun x3 => [.null, .null, .null, .null, .null]) (stJ := fun x3 => [.int x3]) (fun x3 => ?_) (fun f hJ => ?_)
    rotate_left
    · refine zx_licmp_le (pc' := 66) (tgt := 70) dX11_fewestMarks_63 rfl rfl (fun _ => ?_) (fun _ => ?_)
      · refine zx_lift (pc' := 71) (fun _ => zq_iload_n rfl rfl dX11_fewestMarks_70 rfl) ?_
        exact zx_lessJ (zq_cz (zq_cz (zq_cz (zq_cz (zq_cz zq_cn))))) (hJ _)
      · refine zx_lift (pc' := 67) (fun _ => zq_iconst (v := (-1)) dX11_fewestMarks_66 rfl rfl) ?_
        refine zx_lift (pc' := 71) (fun _ => zq_goto dX11_fewestMarks_67 rfl) ?_
        exact zx_lessJ (zq_cz (zq_cz (zq_cz (zq_cz (zq_cz zq_cn))))) (hJ _)
    exact zx_iret rfl dX11_fewestMarks_71
  · refine zx_lift (pc' := 17) (fun _ => zq_aload_n rfl rfl dX11_fewestMarks_16 rfl) ?_
    refine zx_lift (pc' := 20) (fun _ => zt_getR zfr_X11_31 zfd_0_1 dX11_fewestMarks_17 rfl) ?_
    refine zx_lift (pc' := 21) (fun _ => zq_iload_n rfl rfl dX11_fewestMarks_20 rfl) ?_
    refine zx_cVi (pc' := 24) zcv_X11_186 (cX3_goodAt_mc N v.2.1 s2) zob_31 rfl (by decide) (Nat.le_of_ble_eq_true rfl) dX11_fewestMarks_21 rfl rfl (fun r4 s5 => ?_)
    refine zx_lift (pc' := 26) (fun _ => zq_istore (ls' := [.ref 0, .int f1, .int v.1, .int v.2.1, .int r4]) (by decide) rfl rfl dX11_fewestMarks_24 rfl) ?_
    refine zx_lift (pc' := 28) (fun _ => zq_iload rfl dX11_fewestMarks_26 rfl) ?_
    refine zx_cSi (pc' := 31) zcs_X11_208 (cJ6_bitCount_0f7a4_mc N r4 s5) rfl (by decide) (Nat.le_of_ble_eq_true rfl) dX11_fewestMarks_28 rfl rfl (fun r6 s7 => ?_)
    refine zx_lift (pc' := 32) (fun _ => zq_iload_n rfl rfl dX11_fewestMarks_31 rfl) ?_
    refine zx_icmp_ge (pc' := 35) (tgt := 54) dX11_fewestMarks_32 rfl rfl (fun hc => ?_) (fun hc => ?_)
    · refine zx_less [.ref 0, .int f1, .int v.1, .int v.2.1, .null] (zq_cr (zq_cr (zq_cr (zq_cr (zq_cz zq_cn))))) ?_
      exact xX11_fewestMarks_j54_j N f1 self hself v.1 v.2.1 s7
    · refine zx_lift (pc' := 36) (fun _ => zq_aload_n rfl rfl dX11_fewestMarks_35 rfl) ?_
      refine zx_lift (pc' := 39) (fun _ => zt_getR zfr_X11_38 zfd_0_2 dX11_fewestMarks_36 rfl) ?_
      refine zx_lift (pc' := 40) (fun _ => zq_iload_n rfl rfl dX11_fewestMarks_39 rfl) ?_
      refine zx_lift (pc' := 42) (fun _ => zq_iload rfl dX11_fewestMarks_40 rfl) ?_
      refine zx_cVi (pc' := 45) zcv_X11_227 (cX9_stands_mc N f1 r4 s7) zob_38 rfl (by decide) (Nat.le_of_ble_eq_true rfl) dX11_fewestMarks_42 rfl rfl (fun r9 s10 => ?_)
      refine zx_if_eq (pc' := 48) (tgt := 54) dX11_fewestMarks_45 rfl rfl (fun hc => ?_) (fun hc => ?_)
      · refine zx_less [.ref 0, .int f1, .int v.1, .int v.2.1, .null] (zq_cr (zq_cr (zq_cr (zq_cr (zq_cz zq_cn))))) ?_
        exact xX11_fewestMarks_j54_j N f1 self hself v.1 v.2.1 s10
      · refine zx_lift (pc' := 50) (fun _ => zq_iload rfl dX11_fewestMarks_48 rfl) ?_
        refine zx_cSi (pc' := 53) zcs_X11_208 (cJ6_bitCount_0f7a4_mc N r4 s10) rfl (by decide) (Nat.le_of_ble_eq_true rfl) dX11_fewestMarks_50 rfl rfl (fun r11 s12 => ?_)
        refine zx_lift (pc' := 54) (fun _ => zq_istore_n (ls' := [.ref 0, .int f1, .int r11, .int v.2.1, .int r4]) rfl (by decide) rfl rfl dX11_fewestMarks_53 rfl) ?_
        refine zx_less [.ref 0, .int f1, .int r11, .int v.2.1, .null] (zq_cr (zq_cr (zq_cr (zq_cr (zq_cz zq_cn))))) ?_
        exact xX11_fewestMarks_j54_j N f1 self hself r11 v.2.1 s12
theorem yX11_fewestMarks_5 (N : Nat)  (f1 : Int32)  (n : Nat) : ∀ v : Int32 × Int32 × zq_S, zq_X yX11_fewestMarks RX11 cX11_fewestMarks 5 (some .int) ⟨4, 0, 0, 95⟩ zv_i 5 [.ref 0, .int f1, .int v.1, .int v.2.1, .null] [] v.2.2 (zq_loop (bX11_fewestMarks_5 N f1 ) n v) := by
  induction n with
  | zero => exact fun v u hu => by cases hu
  | succ n ih =>
    intro v
    rw [zq_loop_s]
    exact xX11_fewestMarks_5 N f1  (zq_loop (bX11_fewestMarks_5 N f1 ) n) ih v
def mX11_fewestMarks (N : Nat)  (p1 : Int32) (s : zq_S) : Option (Int32 × zq_S) :=
  zq_loop (bX11_fewestMarks_5 N p1 ) N ((11 : Int32), (0 : Int32), s)
set_option maxRecDepth 20000 in
set_option maxHeartbeats 2000000 in
theorem xX11_fewestMarks (N : Nat)  (p1 : Int32) (s : zq_S) : zq_X yX11_fewestMarks RX11 cX11_fewestMarks 5 (some .int) ⟨4, 0, 0, 95⟩ zv_i 0 [.ref 0, .int p1, .null, .null, .null] [] s (mX11_fewestMarks N p1 s) := by
  unfold mX11_fewestMarks
  refine zx_lift (pc' := 2) (fun _ => zq_bipush (v := 11) dX11_fewestMarks_0 rfl rfl) ?_
  refine zx_lift (pc' := 3) (fun _ => zq_istore_n (ls' := [.ref 0, .int p1, .int (11 : Int32), .null, .null]) rfl (by decide) rfl rfl dX11_fewestMarks_2 rfl) ?_
  refine zx_lift (pc' := 4) (fun _ => zq_iconst (v := 0) dX11_fewestMarks_3 rfl rfl) ?_
  refine zx_lift (pc' := 5) (fun _ => zq_istore_n (ls' := [.ref 0, .int p1, .int (11 : Int32), .int (0 : Int32), .null]) rfl (by decide) rfl rfl dX11_fewestMarks_4 rfl) ?_
  refine yX11_fewestMarks_5 N p1  N ((11 : Int32), (0 : Int32), s)
theorem cX11_fewestMarks_mc (N : Nat)  (p1 : Int32) (s : zq_S) (v : Int32 × zq_S) (h : mX11_fewestMarks N p1 s = some v) : zq_MC yX11_fewestMarks cX11_fewestMarks 5 (some .int) ⟨4, 0, 0, 95⟩ 0 0 [.ref 0, .int p1] (zq_en s) (zv_i v.1, zq_en v.2) := zq_MC_x [.ref 0, .int p1, .null, .null, .null] (by decide +kernel) rfl rfl (Nat.le_of_ble_eq_true rfl) (xX11_fewestMarks N p1 s) h
def jX11_mostMarks_j53 (N : Nat)  (f1 : Int32)  (self : Int32 × Int32 × zq_S → Option (Int32 × zq_S)) (w2 : Int32) (w3 : Int32) (s : zq_S) : Option (Int32 × zq_S) :=
  zq_let (w3 + (1 : Int32)) (fun x7 =>
  self (w2, x7, s))
set_option maxRecDepth 20000 in
set_option maxHeartbeats 2000000 in
theorem xX11_mostMarks_j53_j (N : Nat)  (f1 : Int32)  (self : Int32 × Int32 × zq_S → Option (Int32 × zq_S)) (hself : ∀ v, zq_X yX11_mostMarks RX11 cX11_mostMarks 5 (some .int) ⟨4, 0, 0, 95⟩ zv_i 4 [.ref 0, .int f1, .int v.1, .int v.2.1, .null] [] v.2.2 (self v)) (w2 : Int32) (w3 : Int32) (s : zq_S) : zq_X yX11_mostMarks RX11 cX11_mostMarks 5 (some .int) ⟨4, 0, 0, 95⟩ zv_i 53 [.ref 0, .int f1, .int w2, .int w3, .null] [] s (jX11_mostMarks_j53 N f1 self w2 w3 s) := by
  unfold jX11_mostMarks_j53
  refine zx_iinc (pc' := 56) (ls' := fun x7 => [.ref 0, .int f1, .int w2, .int x7, .null]) rfl rfl (by decide) rfl (fun _ => rfl) dX11_mostMarks_53 rfl (fun x7 => ?_)
  refine zx_lift (pc' := 4) (fun _ => zq_goto dX11_mostMarks_56 rfl) ?_
  exact hself (w2, x7, s)
def bX11_mostMarks_4 (N : Nat)  (f1 : Int32)  (self : Int32 × Int32 × zq_S → Option (Int32 × zq_S)) (v : Int32 × Int32 × zq_S) : Option (Int32 × zq_S) :=
  zq_b2 (mX3_goodCount N v.2.2) (fun r1 s2 =>
  if r1 ≤ v.2.1 then
  some (v.1, s2)
  else
  zq_b2 (mX3_goodAt N v.2.1 s2) (fun r3 s4 =>
  zq_b2 (mJ6_bitCount_0f7a4 N r3 s4) (fun r5 s6 =>
  if r5 ≤ v.1 then
  jX11_mostMarks_j53 N f1 self v.1 v.2.1 s6
  else
  zq_b2 (mX9_stands N f1 r3 s6) (fun r8 s9 =>
  if r8 = (0 : Int32) then
  jX11_mostMarks_j53 N f1 self v.1 v.2.1 s9
  else
  zq_b2 (mJ6_bitCount_0f7a4 N r3 s9) (fun r10 s11 =>
  jX11_mostMarks_j53 N f1 self r10 v.2.1 s11)))))
set_option maxRecDepth 20000 in
set_option maxHeartbeats 2000000 in
theorem xX11_mostMarks_4 (N : Nat)  (f1 : Int32)  (self : Int32 × Int32 × zq_S → Option (Int32 × zq_S)) (hself : ∀ v, zq_X yX11_mostMarks RX11 cX11_mostMarks 5 (some .int) ⟨4, 0, 0, 95⟩ zv_i 4 [.ref 0, .int f1, .int v.1, .int v.2.1, .null] [] v.2.2 (self v)) (v : Int32 × Int32 × zq_S) : zq_X yX11_mostMarks RX11 cX11_mostMarks 5 (some .int) ⟨4, 0, 0, 95⟩ zv_i 4 [.ref 0, .int f1, .int v.1, .int v.2.1, .null] [] v.2.2 (bX11_mostMarks_4 N f1 self v) := by
  unfold bX11_mostMarks_4
  refine zx_lift (pc' := 5) (fun _ => zq_iload_n rfl rfl dX11_mostMarks_4 rfl) ?_
  refine zx_lift (pc' := 6) (fun _ => zq_aload_n rfl rfl dX11_mostMarks_5 rfl) ?_
  refine zx_lift (pc' := 9) (fun _ => zt_getR zfr_X11_31 zfd_0_1 dX11_mostMarks_6 rfl) ?_
  refine zx_cVi (pc' := 12) zcv_X11_183 (cX3_goodCount_mc N v.2.2) zob_31 rfl (by decide) (Nat.le_of_ble_eq_true rfl) dX11_mostMarks_9 rfl rfl (fun r1 s2 => ?_)
  refine zx_icmp_ge (pc' := 15) (tgt := 59) dX11_mostMarks_12 rfl rfl (fun hc => ?_) (fun hc => ?_)
  · refine zx_lift (pc' := 60) (fun _ => zq_iload_n rfl rfl dX11_mostMarks_59 rfl) ?_
    exact zx_iret rfl dX11_mostMarks_60
  · refine zx_lift (pc' := 16) (fun _ => zq_aload_n rfl rfl dX11_mostMarks_15 rfl) ?_
    refine zx_lift (pc' := 19) (fun _ => zt_getR zfr_X11_31 zfd_0_1 dX11_mostMarks_16 rfl) ?_
    refine zx_lift (pc' := 20) (fun _ => zq_iload_n rfl rfl dX11_mostMarks_19 rfl) ?_
    refine zx_cVi (pc' := 23) zcv_X11_186 (cX3_goodAt_mc N v.2.1 s2) zob_31 rfl (by decide) (Nat.le_of_ble_eq_true rfl) dX11_mostMarks_20 rfl rfl (fun r3 s4 => ?_)
    refine zx_lift (pc' := 25) (fun _ => zq_istore (ls' := [.ref 0, .int f1, .int v.1, .int v.2.1, .int r3]) (by decide) rfl rfl dX11_mostMarks_23 rfl) ?_
    refine zx_lift (pc' := 27) (fun _ => zq_iload rfl dX11_mostMarks_25 rfl) ?_
    refine zx_cSi (pc' := 30) zcs_X11_208 (cJ6_bitCount_0f7a4_mc N r3 s4) rfl (by decide) (Nat.le_of_ble_eq_true rfl) dX11_mostMarks_27 rfl rfl (fun r5 s6 => ?_)
    refine zx_lift (pc' := 31) (fun _ => zq_iload_n rfl rfl dX11_mostMarks_30 rfl) ?_
    refine zx_icmp_le (pc' := 34) (tgt := 53) dX11_mostMarks_31 rfl rfl (fun hc => ?_) (fun hc => ?_)
    · refine zx_less [.ref 0, .int f1, .int v.1, .int v.2.1, .null] (zq_cr (zq_cr (zq_cr (zq_cr (zq_cz zq_cn))))) ?_
      exact xX11_mostMarks_j53_j N f1 self hself v.1 v.2.1 s6
    · refine zx_lift (pc' := 35) (fun _ => zq_aload_n rfl rfl dX11_mostMarks_34 rfl) ?_
      refine zx_lift (pc' := 38) (fun _ => zt_getR zfr_X11_38 zfd_0_2 dX11_mostMarks_35 rfl) ?_
      refine zx_lift (pc' := 39) (fun _ => zq_iload_n rfl rfl dX11_mostMarks_38 rfl) ?_
      refine zx_lift (pc' := 41) (fun _ => zq_iload rfl dX11_mostMarks_39 rfl) ?_
      refine zx_cVi (pc' := 44) zcv_X11_227 (cX9_stands_mc N f1 r3 s6) zob_38 rfl (by decide) (Nat.le_of_ble_eq_true rfl) dX11_mostMarks_41 rfl rfl (fun r8 s9 => ?_)
      refine zx_if_eq (pc' := 47) (tgt := 53) dX11_mostMarks_44 rfl rfl (fun hc => ?_) (fun hc => ?_)
      · refine zx_less [.ref 0, .int f1, .int v.1, .int v.2.1, .null] (zq_cr (zq_cr (zq_cr (zq_cr (zq_cz zq_cn))))) ?_
        exact xX11_mostMarks_j53_j N f1 self hself v.1 v.2.1 s9
      · refine zx_lift (pc' := 49) (fun _ => zq_iload rfl dX11_mostMarks_47 rfl) ?_
        refine zx_cSi (pc' := 52) zcs_X11_208 (cJ6_bitCount_0f7a4_mc N r3 s9) rfl (by decide) (Nat.le_of_ble_eq_true rfl) dX11_mostMarks_49 rfl rfl (fun r10 s11 => ?_)
        refine zx_lift (pc' := 53) (fun _ => zq_istore_n (ls' := [.ref 0, .int f1, .int r10, .int v.2.1, .int r3]) rfl (by decide) rfl rfl dX11_mostMarks_52 rfl) ?_
        refine zx_less [.ref 0, .int f1, .int r10, .int v.2.1, .null] (zq_cr (zq_cr (zq_cr (zq_cr (zq_cz zq_cn))))) ?_
        exact xX11_mostMarks_j53_j N f1 self hself r10 v.2.1 s11
theorem yX11_mostMarks_4 (N : Nat)  (f1 : Int32)  (n : Nat) : ∀ v : Int32 × Int32 × zq_S, zq_X yX11_mostMarks RX11 cX11_mostMarks 5 (some .int) ⟨4, 0, 0, 95⟩ zv_i 4 [.ref 0, .int f1, .int v.1, .int v.2.1, .null] [] v.2.2 (zq_loop (bX11_mostMarks_4 N f1 ) n v) := by
  induction n with
  | zero => exact fun v u hu => by cases hu
  | succ n ih =>
    intro v
    rw [zq_loop_s]
    exact xX11_mostMarks_4 N f1  (zq_loop (bX11_mostMarks_4 N f1 ) n) ih v
def mX11_mostMarks (N : Nat)  (p1 : Int32) (s : zq_S) : Option (Int32 × zq_S) :=
  zq_loop (bX11_mostMarks_4 N p1 ) N ((-1 : Int32), (0 : Int32), s)
set_option maxRecDepth 20000 in
set_option maxHeartbeats 2000000 in
theorem xX11_mostMarks (N : Nat)  (p1 : Int32) (s : zq_S) : zq_X yX11_mostMarks RX11 cX11_mostMarks 5 (some .int) ⟨4, 0, 0, 95⟩ zv_i 0 [.ref 0, .int p1, .null, .null, .null] [] s (mX11_mostMarks N p1 s) := by
  unfold mX11_mostMarks
  refine zx_lift (pc' := 1) (fun _ => zq_iconst (v := (-1)) dX11_mostMarks_0 rfl rfl) ?_
  refine zx_lift (pc' := 2) (fun _ => zq_istore_n (ls' := [.ref 0, .int p1, .int (-1 : Int32), .null, .null]) rfl (by decide) rfl rfl dX11_mostMarks_1 rfl) ?_
  refine zx_lift (pc' := 3) (fun _ => zq_iconst (v := 0) dX11_mostMarks_2 rfl rfl) ?_
  refine zx_lift (pc' := 4) (fun _ => zq_istore_n (ls' := [.ref 0, .int p1, .int (-1 : Int32), .int (0 : Int32), .null]) rfl (by decide) rfl rfl dX11_mostMarks_3 rfl) ?_
  refine yX11_mostMarks_4 N p1  N ((-1 : Int32), (0 : Int32), s)
theorem cX11_mostMarks_mc (N : Nat)  (p1 : Int32) (s : zq_S) (v : Int32 × zq_S) (h : mX11_mostMarks N p1 s = some v) : zq_MC yX11_mostMarks cX11_mostMarks 5 (some .int) ⟨4, 0, 0, 95⟩ 0 0 [.ref 0, .int p1] (zq_en s) (zv_i v.1, zq_en v.2) := zq_MC_x [.ref 0, .int p1, .null, .null, .null] (by decide +kernel) rfl rfl (Nat.le_of_ble_eq_true rfl) (xX11_mostMarks N p1 s) h
def jX11_goodSetsWith_j37 (N : Nat)  (f1 : Int32)  (self : Int32 × Int32 × zq_S → Option (Int32 × zq_S)) (w2 : Int32) (w3 : Int32) (s : zq_S) : Option (Int32 × zq_S) :=
  zq_let (w3 + (1 : Int32)) (fun x7 =>
  self (w2, x7, s))
set_option maxRecDepth 20000 in
set_option maxHeartbeats 2000000 in
theorem xX11_goodSetsWith_j37_j (N : Nat)  (f1 : Int32)  (self : Int32 × Int32 × zq_S → Option (Int32 × zq_S)) (hself : ∀ v, zq_X yX11_goodSetsWith RX11 cX11_goodSetsWith 4 (some .int) ⟨4, 0, 0, 95⟩ zv_i 4 [.ref 0, .int f1, .int v.1, .int v.2.1] [] v.2.2 (self v)) (w2 : Int32) (w3 : Int32) (s : zq_S) : zq_X yX11_goodSetsWith RX11 cX11_goodSetsWith 4 (some .int) ⟨4, 0, 0, 95⟩ zv_i 37 [.ref 0, .int f1, .int w2, .int w3] [] s (jX11_goodSetsWith_j37 N f1 self w2 w3 s) := by
  unfold jX11_goodSetsWith_j37
  refine zx_iinc (pc' := 40) (ls' := fun x7 => [.ref 0, .int f1, .int w2, .int x7]) rfl rfl (by decide) rfl (fun _ => rfl) dX11_goodSetsWith_37 rfl (fun x7 => ?_)
  refine zx_lift (pc' := 4) (fun _ => zq_goto dX11_goodSetsWith_40 rfl) ?_
  exact hself (w2, x7, s)
def bX11_goodSetsWith_4 (N : Nat)  (f1 : Int32)  (self : Int32 × Int32 × zq_S → Option (Int32 × zq_S)) (v : Int32 × Int32 × zq_S) : Option (Int32 × zq_S) :=
  zq_b2 (mX3_goodCount N v.2.2) (fun r1 s2 =>
  if r1 ≤ v.2.1 then
  some (v.1, s2)
  else
  zq_b2 (mX3_goodAt N v.2.1 s2) (fun r3 s4 =>
  zq_b2 (mX9_stands N f1 r3 s4) (fun r5 s6 =>
  if r5 = (0 : Int32) then
  jX11_goodSetsWith_j37 N f1 self v.1 v.2.1 s6
  else
  zq_let (v.1 + (1 : Int32)) (fun x8 =>
  jX11_goodSetsWith_j37 N f1 self x8 v.2.1 s6))))
set_option maxRecDepth 20000 in
set_option maxHeartbeats 2000000 in
theorem xX11_goodSetsWith_4 (N : Nat)  (f1 : Int32)  (self : Int32 × Int32 × zq_S → Option (Int32 × zq_S)) (hself : ∀ v, zq_X yX11_goodSetsWith RX11 cX11_goodSetsWith 4 (some .int) ⟨4, 0, 0, 95⟩ zv_i 4 [.ref 0, .int f1, .int v.1, .int v.2.1] [] v.2.2 (self v)) (v : Int32 × Int32 × zq_S) : zq_X yX11_goodSetsWith RX11 cX11_goodSetsWith 4 (some .int) ⟨4, 0, 0, 95⟩ zv_i 4 [.ref 0, .int f1, .int v.1, .int v.2.1] [] v.2.2 (bX11_goodSetsWith_4 N f1 self v) := by
  unfold bX11_goodSetsWith_4
  refine zx_lift (pc' := 5) (fun _ => zq_iload_n rfl rfl dX11_goodSetsWith_4 rfl) ?_
  refine zx_lift (pc' := 6) (fun _ => zq_aload_n rfl rfl dX11_goodSetsWith_5 rfl) ?_
  refine zx_lift (pc' := 9) (fun _ => zt_getR zfr_X11_31 zfd_0_1 dX11_goodSetsWith_6 rfl) ?_
  refine zx_cVi (pc' := 12) zcv_X11_183 (cX3_goodCount_mc N v.2.2) zob_31 rfl (by decide) (Nat.le_of_ble_eq_true rfl) dX11_goodSetsWith_9 rfl rfl (fun r1 s2 => ?_)
  refine zx_icmp_ge (pc' := 15) (tgt := 43) dX11_goodSetsWith_12 rfl rfl (fun hc => ?_) (fun hc => ?_)
  · refine zx_lift (pc' := 44) (fun _ => zq_iload_n rfl rfl dX11_goodSetsWith_43 rfl) ?_
    exact zx_iret rfl dX11_goodSetsWith_44
  · refine zx_lift (pc' := 16) (fun _ => zq_aload_n rfl rfl dX11_goodSetsWith_15 rfl) ?_
    refine zx_lift (pc' := 19) (fun _ => zt_getR zfr_X11_38 zfd_0_2 dX11_goodSetsWith_16 rfl) ?_
    refine zx_lift (pc' := 20) (fun _ => zq_iload_n rfl rfl dX11_goodSetsWith_19 rfl) ?_
    refine zx_lift (pc' := 21) (fun _ => zq_aload_n rfl rfl dX11_goodSetsWith_20 rfl) ?_
    refine zx_lift (pc' := 24) (fun _ => zt_getR zfr_X11_31 zfd_0_1 dX11_goodSetsWith_21 rfl) ?_
    refine zx_lift (pc' := 25) (fun _ => zq_iload_n rfl rfl dX11_goodSetsWith_24 rfl) ?_
    refine zx_cVi (pc' := 28) zcv_X11_186 (cX3_goodAt_mc N v.2.1 s2) zob_31 rfl (by decide) (Nat.le_of_ble_eq_true rfl) dX11_goodSetsWith_25 rfl rfl (fun r3 s4 => ?_)
    refine zx_cVi (pc' := 31) zcv_X11_227 (cX9_stands_mc N f1 r3 s4) zob_38 rfl (by decide) (Nat.le_of_ble_eq_true rfl) dX11_goodSetsWith_28 rfl rfl (fun r5 s6 => ?_)
    refine zx_if_eq (pc' := 34) (tgt := 37) dX11_goodSetsWith_31 rfl rfl (fun hc => ?_) (fun hc => ?_)
    · exact xX11_goodSetsWith_j37_j N f1 self hself v.1 v.2.1 s6
    · refine zx_iinc (pc' := 37) (ls' := fun x8 => [.ref 0, .int f1, .int x8, .int v.2.1]) rfl rfl (by decide) rfl (fun _ => rfl) dX11_goodSetsWith_34 rfl (fun x8 => ?_)
      exact xX11_goodSetsWith_j37_j N f1 self hself x8 v.2.1 s6
theorem yX11_goodSetsWith_4 (N : Nat)  (f1 : Int32)  (n : Nat) : ∀ v : Int32 × Int32 × zq_S, zq_X yX11_goodSetsWith RX11 cX11_goodSetsWith 4 (some .int) ⟨4, 0, 0, 95⟩ zv_i 4 [.ref 0, .int f1, .int v.1, .int v.2.1] [] v.2.2 (zq_loop (bX11_goodSetsWith_4 N f1 ) n v) := by
  induction n with
  | zero => exact fun v u hu => by cases hu
  | succ n ih =>
    intro v
    rw [zq_loop_s]
    exact xX11_goodSetsWith_4 N f1  (zq_loop (bX11_goodSetsWith_4 N f1 ) n) ih v
def mX11_goodSetsWith (N : Nat)  (p1 : Int32) (s : zq_S) : Option (Int32 × zq_S) :=
  zq_loop (bX11_goodSetsWith_4 N p1 ) N ((0 : Int32), (0 : Int32), s)
set_option maxRecDepth 20000 in
set_option maxHeartbeats 2000000 in
theorem xX11_goodSetsWith (N : Nat)  (p1 : Int32) (s : zq_S) : zq_X yX11_goodSetsWith RX11 cX11_goodSetsWith 4 (some .int) ⟨4, 0, 0, 95⟩ zv_i 0 [.ref 0, .int p1, .null, .null] [] s (mX11_goodSetsWith N p1 s) := by
  unfold mX11_goodSetsWith
  refine zx_lift (pc' := 1) (fun _ => zq_iconst (v := 0) dX11_goodSetsWith_0 rfl rfl) ?_
  refine zx_lift (pc' := 2) (fun _ => zq_istore_n (ls' := [.ref 0, .int p1, .int (0 : Int32), .null]) rfl (by decide) rfl rfl dX11_goodSetsWith_1 rfl) ?_
  refine zx_lift (pc' := 3) (fun _ => zq_iconst (v := 0) dX11_goodSetsWith_2 rfl rfl) ?_
  refine zx_lift (pc' := 4) (fun _ => zq_istore_n (ls' := [.ref 0, .int p1, .int (0 : Int32), .int (0 : Int32)]) rfl (by decide) rfl rfl dX11_goodSetsWith_3 rfl) ?_
  refine yX11_goodSetsWith_4 N p1  N ((0 : Int32), (0 : Int32), s)
theorem cX11_goodSetsWith_mc (N : Nat)  (p1 : Int32) (s : zq_S) (v : Int32 × zq_S) (h : mX11_goodSetsWith N p1 s = some v) : zq_MC yX11_goodSetsWith cX11_goodSetsWith 4 (some .int) ⟨4, 0, 0, 95⟩ 0 0 [.ref 0, .int p1] (zq_en s) (zv_i v.1, zq_en v.2) := zq_MC_x [.ref 0, .int p1, .null, .null] (by decide +kernel) rfl rfl (Nat.le_of_ble_eq_true rfl) (xX11_goodSetsWith N p1 s) h
def mX11_word (N : Nat)  (p1 : Int32) (p2 : Int32) (s : zq_S) : Option (Int32 × zq_S) :=
  zq_b2 (mX11_isWord N p1 s) (fun r1 s2 =>
  if r1 = (0 : Int32) then
  some ((-1002 : Int32), s2)
  else
  if p2 = (0 : Int32) then
  zq_b2 (mX9_stands N p1 (0 : Int32) s2) (fun r3 s4 =>
  zq_let (if r3 = (0 : Int32) then (0 : Int32) else (1 : Int32)) (fun x5 =>
  some (x5, s4)))
  else if p2 = (1 : Int32) then
  zq_b2 (mX3_full N s2) (fun r7 s8 =>
  zq_b2 (mX9_stands N p1 r7 s8) (fun r9 s10 =>
  zq_let (if r9 = (0 : Int32) then (0 : Int32) else (1 : Int32)) (fun x11 =>
  some (x11, s10))))
  else if p2 = (2 : Int32) then
  zq_b2 (mX11_fewestMarks N p1 s2) (fun r13 s14 =>
  some (r13, s14))
  else if p2 = (3 : Int32) then
  zq_b2 (mX11_mostMarks N p1 s2) (fun r16 s17 =>
  some (r16, s17))
  else if p2 = (4 : Int32) then
  zq_b2 (mX11_goodSetsWith N p1 s2) (fun r19 s20 =>
  some (r19, s20))
  else 
  some ((-1002 : Int32), s2))
set_option maxRecDepth 20000 in
set_option maxHeartbeats 2000000 in
theorem xX11_word (N : Nat)  (p1 : Int32) (p2 : Int32) (s : zq_S) : zq_X yX11_word RX11 cX11_word 3 (some .int) ⟨5, 0, 0, 119⟩ zv_i 0 [.ref 0, .int p1, .int p2] [] s (mX11_word N p1 p2 s) := by
  unfold mX11_word
  refine zx_lift (pc' := 1) (fun _ => zq_iload_n rfl rfl dX11_word_0 rfl) ?_
  refine zx_cSi (pc' := 4) zcs_X11_224 (cX11_isWord_mc N p1 s) rfl (by decide) (Nat.le_of_ble_eq_true rfl) dX11_word_1 rfl rfl (fun r1 s2 => ?_)
  refine zx_if_ne (pc' := 7) (tgt := 11) dX11_word_4 rfl rfl (fun hc => ?_) (fun hc => ?_)
  · refine zx_lift (pc' := 12) (fun _ => zq_iload_n rfl rfl dX11_word_11 rfl) ?_
    refine zx_ite (fun hc => ?_) (fun hn6 => ?_)
    · refine zx_tabIn (tgt := 48) hc dX11_word_12 (by decide) (by decide) rfl rfl ?_
      refine zx_lift (pc' := 49) (fun _ => zq_aload_n rfl rfl dX11_word_48 rfl) ?_
      refine zx_lift (pc' := 52) (fun _ => zt_getR zfr_X11_38 zfd_0_2 dX11_word_49 rfl) ?_
      refine zx_lift (pc' := 53) (fun _ => zq_iload_n rfl rfl dX11_word_52 rfl) ?_
      refine zx_lift (pc' := 54) (fun _ => zq_iconst (v := 0) dX11_word_53 rfl rfl) ?_
      refine zx_cVi (pc' := 57) zcv_X11_227 (cX9_stands_mc N p1 (0 : Int32) s2) zob_38 rfl (by decide) (Nat.le_of_ble_eq_true rfl) dX11_word_54 rfl rfl (fun r3 s4 => ?_)
      refine zx_tern (pcJ := 65) (lsJ := fun x5 => [.null, .null, .null]) (stJ := fun x5 => [.int x5]) (fun x5 => ?_) (fun f hJ => ?_)
      rotate_left
      · refine zx_lif_eq (pc' := 60) (tgt := 64) dX11_word_57 rfl rfl (fun _ => ?_) (fun _ => ?_)
        · refine zx_lift (pc' := 65) (fun _ => zq_iconst (v := 0) dX11_word_64 rfl rfl) ?_
          exact zx_lessJ (zq_cz (zq_cz (zq_cz zq_cn))) (hJ _)
        · refine zx_lift (pc' := 61) (fun _ => zq_iconst (v := 1) dX11_word_60 rfl rfl) ?_
          refine zx_lift (pc' := 65) (fun _ => zq_goto dX11_word_61 rfl) ?_
          exact zx_lessJ (zq_cz (zq_cz (zq_cz zq_cn))) (hJ _)
      exact zx_iret rfl dX11_word_65
    refine zx_ite (fun hc => ?_) (fun hn12 => ?_)
    · refine zx_tabIn (tgt := 66) hc dX11_word_12 (by decide) (by decide) rfl rfl ?_
      refine zx_lift (pc' := 67) (fun _ => zq_aload_n rfl rfl dX11_word_66 rfl) ?_
      refine zx_lift (pc' := 70) (fun _ => zt_getR zfr_X11_38 zfd_0_2 dX11_word_67 rfl) ?_
      refine zx_lift (pc' := 71) (fun _ => zq_iload_n rfl rfl dX11_word_70 rfl) ?_
      refine zx_lift (pc' := 72) (fun _ => zq_aload_n rfl rfl dX11_word_71 rfl) ?_
      refine zx_lift (pc' := 75) (fun _ => zt_getR zfr_X11_31 zfd_0_1 dX11_word_72 rfl) ?_
      refine zx_cVi (pc' := 78) zcv_X11_231 (cX3_full_mc N s2) zob_31 rfl (by decide) (Nat.le_of_ble_eq_true rfl) dX11_word_75 rfl rfl (fun r7 s8 => ?_)
      refine zx_cVi (pc' := 81) zcv_X11_227 (cX9_stands_mc N p1 r7 s8) zob_38 rfl (by decide) (Nat.le_of_ble_eq_true rfl) dX11_word_78 rfl rfl (fun r9 s10 => ?_)
      refine zx_tern (pcJ := 89) (lsJ := fun x11 => [.null, .null, .null]) (stJ := fun x11 => [.int x11]) (fun x11 => ?_) (fun f hJ => ?_)
      rotate_left
      · refine zx_lif_eq (pc' := 84) (tgt := 88) dX11_word_81 rfl rfl (fun _ => ?_) (fun _ => ?_)
        · refine zx_lift (pc' := 89) (fun _ => zq_iconst (v := 0) dX11_word_88 rfl rfl) ?_
          exact zx_lessJ (zq_cz (zq_cz (zq_cz zq_cn))) (hJ _)
        · refine zx_lift (pc' := 85) (fun _ => zq_iconst (v := 1) dX11_word_84 rfl rfl) ?_
          refine zx_lift (pc' := 89) (fun _ => zq_goto dX11_word_85 rfl) ?_
          exact zx_lessJ (zq_cz (zq_cz (zq_cz zq_cn))) (hJ _)
      exact zx_iret rfl dX11_word_89
    refine zx_ite (fun hc => ?_) (fun hn15 => ?_)
    · refine zx_tabIn (tgt := 90) hc dX11_word_12 (by decide) (by decide) rfl rfl ?_
      refine zx_lift (pc' := 91) (fun _ => zq_aload_n rfl rfl dX11_word_90 rfl) ?_
      refine zx_lift (pc' := 92) (fun _ => zq_iload_n rfl rfl dX11_word_91 rfl) ?_
      refine zx_cVi (pc' := 95) zcv_X11_234 (cX11_fewestMarks_mc N p1 s2) zob_0 rfl (by decide) (Nat.le_of_ble_eq_true rfl) dX11_word_92 rfl rfl (fun r13 s14 => ?_)
      exact zx_iret rfl dX11_word_95
    refine zx_ite (fun hc => ?_) (fun hn18 => ?_)
    · refine zx_tabIn (tgt := 96) hc dX11_word_12 (by decide) (by decide) rfl rfl ?_
      refine zx_lift (pc' := 97) (fun _ => zq_aload_n rfl rfl dX11_word_96 rfl) ?_
      refine zx_lift (pc' := 98) (fun _ => zq_iload_n rfl rfl dX11_word_97 rfl) ?_
      refine zx_cVi (pc' := 101) zcv_X11_237 (cX11_mostMarks_mc N p1 s2) zob_0 rfl (by decide) (Nat.le_of_ble_eq_true rfl) dX11_word_98 rfl rfl (fun r16 s17 => ?_)
      exact zx_iret rfl dX11_word_101
    refine zx_ite (fun hc => ?_) (fun hn21 => ?_)
    · refine zx_tabIn (tgt := 102) hc dX11_word_12 (by decide) (by decide) rfl rfl ?_
      refine zx_lift (pc' := 103) (fun _ => zq_aload_n rfl rfl dX11_word_102 rfl) ?_
      refine zx_lift (pc' := 104) (fun _ => zq_iload_n rfl rfl dX11_word_103 rfl) ?_
      refine zx_cVi (pc' := 107) zcv_X11_240 (cX11_goodSetsWith_mc N p1 s2) zob_0 rfl (by decide) (Nat.le_of_ble_eq_true rfl) dX11_word_104 rfl rfl (fun r19 s20 => ?_)
      exact zx_iret rfl dX11_word_107
    refine zx_tabOut (tgt := 108) dX11_word_12 (by have := zq_tk (k := 0) hn6 (by decide); have := zq_tk (k := 1) hn12 (by decide); have := zq_tk (k := 2) hn15 (by decide); have := zq_tk (k := 3) hn18 (by decide); have := zq_tk (k := 4) hn21 (by decide); omega) rfl ?_
    refine zx_lift (pc' := 111) (fun _ => zq_sipush (v := (-1002)) dX11_word_108 rfl rfl) ?_
    exact zx_iret rfl dX11_word_111
  · refine zx_lift (pc' := 10) (fun _ => zq_sipush (v := (-1002)) dX11_word_7 rfl rfl) ?_
    exact zx_iret rfl dX11_word_10
theorem cX11_word_mc (N : Nat)  (p1 : Int32) (p2 : Int32) (s : zq_S) (v : Int32 × zq_S) (h : mX11_word N p1 p2 s = some v) : zq_MC yX11_word cX11_word 3 (some .int) ⟨5, 0, 0, 119⟩ 0 0 [.ref 0, .int p1, .int p2] (zq_en s) (zv_i v.1, zq_en v.2) := zq_MC_x [.ref 0, .int p1, .int p2] (by decide +kernel) rfl rfl (Nat.le_of_ble_eq_true rfl) (xX11_word N p1 p2 s) h
def mX11_write (N : Nat)  (p1 : Int32) (s : zq_S) : Option (Int32 × zq_S) :=
  zq_b2 (mX11_isWord N p1 s) (fun r1 s2 =>
  if r1 = (0 : Int32) then
  some ((-1002 : Int32), s2)
  else
  zq_b2 (mX8_sizeOf N true (4 : Int32) s2) (fun r3 s4 =>
  if r3 < (40 : Int32) then
  zq_b2 (mX8_put N true (4 : Int32) p1 s4) (fun r5 s6 =>
  zq_b2 (mX8_sizeOf N true (4 : Int32) s6) (fun r7 s8 =>
  some (r7, s8)))
  else
  some ((-1004 : Int32), s4)))
set_option maxRecDepth 20000 in
set_option maxHeartbeats 2000000 in
theorem xX11_write (N : Nat)  (p1 : Int32) (s : zq_S) : zq_X yX11_write RX11 cX11_write 2 (some .int) ⟨2, 0, 0, 42⟩ zv_i 0 [.ref 0, .int p1] [] s (mX11_write N p1 s) := by
  unfold mX11_write
  refine zx_lift (pc' := 1) (fun _ => zq_iload_n rfl rfl dX11_write_0 rfl) ?_
  refine zx_cSi (pc' := 4) zcs_X11_224 (cX11_isWord_mc N p1 s) rfl (by decide) (Nat.le_of_ble_eq_true rfl) dX11_write_1 rfl rfl (fun r1 s2 => ?_)
  refine zx_if_ne (pc' := 7) (tgt := 11) dX11_write_4 rfl rfl (fun hc => ?_) (fun hc => ?_)
  · refine zx_lift (pc' := 12) (fun _ => zq_aload_n rfl rfl dX11_write_11 rfl) ?_
    refine zx_lift (pc' := 15) (fun _ => zt_getR zfr_X11_79 zfd_0_7 dX11_write_12 rfl) ?_
    refine zx_lift (pc' := 16) (fun _ => zq_iconst (v := 4) dX11_write_15 rfl rfl) ?_
    refine zx_cVi (pc' := 19) zcv_X11_166 (cX8_sizeOf_mc N true (4 : Int32) s2) (zob_f true) rfl (by decide) (Nat.le_of_ble_eq_true rfl) dX11_write_16 rfl rfl (fun r3 s4 => ?_)
    refine zx_lift (pc' := 21) (fun _ => zq_bipush (v := 40) dX11_write_19 rfl rfl) ?_
    refine zx_icmp_lt (pc' := 24) (tgt := 28) dX11_write_21 rfl rfl (fun hc => ?_) (fun hc => ?_)
    · refine zx_lift (pc' := 29) (fun _ => zq_aload_n rfl rfl dX11_write_28 rfl) ?_
      refine zx_lift (pc' := 32) (fun _ => zt_getR zfr_X11_79 zfd_0_7 dX11_write_29 rfl) ?_
      refine zx_lift (pc' := 33) (fun _ => zq_iconst (v := 4) dX11_write_32 rfl rfl) ?_
      refine zx_lift (pc' := 34) (fun _ => zq_iload_n rfl rfl dX11_write_33 rfl) ?_
      refine zx_cVv (pc' := 37) zcv_X11_260 (cX8_put_mc N true (4 : Int32) p1 s4) (zob_f true) rfl (by decide) (Nat.le_of_ble_eq_true rfl) dX11_write_34 rfl rfl (fun r5 s6 => ?_)
      refine zx_lift (pc' := 38) (fun _ => zq_aload_n rfl rfl dX11_write_37 rfl) ?_
      refine zx_lift (pc' := 41) (fun _ => zt_getR zfr_X11_79 zfd_0_7 dX11_write_38 rfl) ?_
      refine zx_lift (pc' := 42) (fun _ => zq_iconst (v := 4) dX11_write_41 rfl rfl) ?_
      refine zx_cVi (pc' := 45) zcv_X11_166 (cX8_sizeOf_mc N true (4 : Int32) s6) (zob_f true) rfl (by decide) (Nat.le_of_ble_eq_true rfl) dX11_write_42 rfl rfl (fun r7 s8 => ?_)
      exact zx_iret rfl dX11_write_45
    · refine zx_lift (pc' := 27) (fun _ => zq_sipush (v := (-1004)) dX11_write_24 rfl rfl) ?_
      exact zx_iret rfl dX11_write_27
  · refine zx_lift (pc' := 10) (fun _ => zq_sipush (v := (-1002)) dX11_write_7 rfl rfl) ?_
    exact zx_iret rfl dX11_write_10
theorem cX11_write_mc (N : Nat)  (p1 : Int32) (s : zq_S) (v : Int32 × zq_S) (h : mX11_write N p1 s = some v) : zq_MC yX11_write cX11_write 2 (some .int) ⟨2, 0, 0, 42⟩ 0 0 [.ref 0, .int p1] (zq_en s) (zv_i v.1, zq_en v.2) := zq_MC_x [.ref 0, .int p1] (by decide +kernel) rfl rfl (Nat.le_of_ble_eq_true rfl) (xX11_write N p1 s) h
def mX12_in (N : Nat)  (p0 : Int64) (p2 : Int64) (p4 : Int64) (s : zq_S) : Option (Int32 × zq_S) :=
  zq_let (if (lg_cmp p0 p2) < (0 : Int32) then (0 : Int32) else (if (0 : Int32) < (lg_cmp p0 p4) then (0 : Int32) else (1 : Int32))) (fun x1 =>
  zq_bz x1 (some (x1, s)))
set_option maxRecDepth 20000 in
set_option maxHeartbeats 2000000 in
theorem xX12_in (N : Nat)  (p0 : Int64) (p2 : Int64) (p4 : Int64) (s : zq_S) : zq_X yX12_in RX12 cX12_in 6 (some .boolean) ⟨0, 0, 0, 0⟩ zv_i 0 [.long p0, .null, .long p2, .null, .long p4, .null] [] s (mX12_in N p0 p2 p4 s) := by
  unfold mX12_in
  refine zx_lift (pc' := 1) (fun _ => zq_lload_n rfl rfl dX12_in_0 rfl) ?_
  refine zx_lift (pc' := 2) (fun _ => zq_lload_n rfl rfl dX12_in_1 rfl) ?_
  refine zx_lift (pc' := 3) (fun _ => zq_lcmp dX12_in_2 rfl) ?_
  refine zx_tern (pcJ := 18) (lsJ := fun x1 => [.null, .null, .null, .null, .null, .null]) (stJ := fun x1 => [.int x1]) (fun x1 => ?_) (fun f hJ => ?_)
  rotate_left
  · refine zx_lif_lt (pc' := 6) (tgt := 17) dX12_in_3 rfl rfl (fun _ => ?_) (fun _ => ?_)
    · refine zx_lift (pc' := 18) (fun _ => zq_iconst (v := 0) dX12_in_17 rfl rfl) ?_
      exact zx_lessJ (zq_cz (zq_cz (zq_cz (zq_cz (zq_cz (zq_cz zq_cn)))))) (hJ _)
    · refine zx_lift (pc' := 7) (fun _ => zq_lload_n rfl rfl dX12_in_6 rfl) ?_
      refine zx_lift (pc' := 9) (fun _ => zq_lload rfl dX12_in_7 rfl) ?_
      refine zx_lift (pc' := 10) (fun _ => zq_lcmp dX12_in_9 rfl) ?_
      refine zx_lif_gt (pc' := 13) (tgt := 17) dX12_in_10 rfl rfl (fun _ => ?_) (fun _ => ?_)
      · refine zx_lift (pc' := 18) (fun _ => zq_iconst (v := 0) dX12_in_17 rfl rfl) ?_
        exact zx_lessJ (zq_cz (zq_cz (zq_cz (zq_cz (zq_cz (zq_cz zq_cn)))))) (hJ _)
      · refine zx_lift (pc' := 14) (fun _ => zq_iconst (v := 1) dX12_in_13 rfl rfl) ?_
        refine zx_lift (pc' := 18) (fun _ => zq_goto dX12_in_14 rfl) ?_
        exact zx_lessJ (zq_cz (zq_cz (zq_cz (zq_cz (zq_cz (zq_cz zq_cn)))))) (hJ _)
  exact zx_zretg rfl dX12_in_18
theorem cX12_in_mc (N : Nat)  (p0 : Int64) (p2 : Int64) (p4 : Int64) (s : zq_S) (v : Int32 × zq_S) (h : mX12_in N p0 p2 p4 s = some v) : zq_MC yX12_in cX12_in 6 (some .boolean) ⟨0, 0, 0, 0⟩ 0 0 [.long p0, .long p2, .long p4] (zq_en s) (zv_i v.1, zq_en v.2) := zq_MC_x [.long p0, .null, .long p2, .null, .long p4, .null] (by decide +kernel) rfl rfl (Nat.le_of_ble_eq_true rfl) (xX12_in N p0 p2 p4 s) h
def mX12_isMark (N : Nat)  (p1 : Int32) (s : zq_S) : Option (Int32 × zq_S) :=
  zq_b2 (mX12_in N (Int32.toInt64 p1) (0 : Int64) (Int32.toInt64 ((zgf s 57 6) - (1 : Int32))) s) (fun r1 s2 =>
  zq_bz r1 (some (r1, s2)))
set_option maxRecDepth 20000 in
set_option maxHeartbeats 2000000 in
theorem xX12_isMark (N : Nat)  (p1 : Int32) (s : zq_S) : zq_X yX12_isMark RX12 cX12_isMark 2 (some .boolean) ⟨1, 0, 0, 25⟩ zv_i 0 [.ref 57, .int p1] [] s (mX12_isMark N p1 s) := by
  unfold mX12_isMark
  refine zx_lift (pc' := 1) (fun _ => zq_iload_n rfl rfl dX12_isMark_0 rfl) ?_
  refine zx_lift (pc' := 2) (fun _ => zq_i2l dX12_isMark_1 rfl) ?_
  refine zx_lift (pc' := 3) (fun _ => zq_lconst (v := 0) dX12_isMark_2 rfl rfl) ?_
  refine zx_lift (pc' := 4) (fun _ => zq_aload_n rfl rfl dX12_isMark_3 rfl) ?_
  refine zx_lift (pc' := 7) (fun _ => zt_getI zfr_X12_141 zfd_57_6 dX12_isMark_4 rfl) ?_
  refine zx_lift (pc' := 8) (fun _ => zq_iconst (v := 1) dX12_isMark_7 rfl rfl) ?_
  refine zx_lift (pc' := 9) (fun _ => zq_isub dX12_isMark_8 rfl) ?_
  refine zx_lift (pc' := 10) (fun _ => zq_i2l dX12_isMark_9 rfl) ?_
  refine zx_cSi (pc' := 13) zcs_X12_144 (cX12_in_mc N (Int32.toInt64 p1) (0 : Int64) (Int32.toInt64 ((zgf s 57 6) - (1 : Int32))) s) rfl (by decide) (Nat.le_of_ble_eq_true rfl) dX12_isMark_10 rfl rfl (fun r1 s2 => ?_)
  exact zx_zretg rfl dX12_isMark_13
theorem cX12_isMark_mc (N : Nat)  (p1 : Int32) (s : zq_S) (v : Int32 × zq_S) (h : mX12_isMark N p1 s = some v) : zq_MC yX12_isMark cX12_isMark 2 (some .boolean) ⟨1, 0, 0, 25⟩ 0 0 [.ref 57, .int p1] (zq_en s) (zv_i v.1, zq_en v.2) := zq_MC_x [.ref 57, .int p1] (by decide +kernel) rfl rfl (Nat.le_of_ble_eq_true rfl) (xX12_isMark N p1 s) h
def mX12_all (N : Nat)   (s : zq_S) : Option (Int32 × zq_S) :=
  some ((((1 : Int32) <<< ((zgf s 57 6) &&& 31)) - (1 : Int32)), s)
set_option maxRecDepth 20000 in
set_option maxHeartbeats 2000000 in
theorem xX12_all (N : Nat)   (s : zq_S) : zq_X yX12_all RX12 cX12_all 1 (some .int) ⟨0, 0, 0, 0⟩ zv_i 0 [.ref 57] [] s (mX12_all N s) := by
  unfold mX12_all
  refine zx_lift (pc' := 1) (fun _ => zq_iconst (v := 1) dX12_all_0 rfl rfl) ?_
  refine zx_lift (pc' := 2) (fun _ => zq_aload_n rfl rfl dX12_all_1 rfl) ?_
  refine zx_lift (pc' := 5) (fun _ => zt_getI zfr_X12_141 zfd_57_6 dX12_all_2 rfl) ?_
  refine zx_lift (pc' := 6) (fun _ => zq_ishl dX12_all_5 rfl) ?_
  refine zx_lift (pc' := 7) (fun _ => zq_iconst (v := 1) dX12_all_6 rfl rfl) ?_
  refine zx_lift (pc' := 8) (fun _ => zq_isub dX12_all_7 rfl) ?_
  exact zx_iret rfl dX12_all_8
theorem cX12_all_mc (N : Nat)   (s : zq_S) (v : Int32 × zq_S) (h : mX12_all N s = some v) : zq_MC yX12_all cX12_all 1 (some .int) ⟨0, 0, 0, 0⟩ 0 0 [.ref 57] (zq_en s) (zv_i v.1, zq_en v.2) := zq_MC_x [.ref 57] (by decide +kernel) rfl rfl (Nat.le_of_ble_eq_true rfl) (xX12_all N s) h
def mX12_has (N : Nat)  (p0 : Int32) (p1 : Int32) (s : zq_S) : Option (Int32 × zq_S) :=
  zq_let (if ((p0 >>> (p1 &&& 31)) &&& (1 : Int32)) = (1 : Int32) then (1 : Int32) else (0 : Int32)) (fun x1 =>
  zq_bz x1 (some (x1, s)))
set_option maxRecDepth 20000 in
set_option maxHeartbeats 2000000 in
theorem xX12_has (N : Nat)  (p0 : Int32) (p1 : Int32) (s : zq_S) : zq_X yX12_has RX12 cX12_has 2 (some .boolean) ⟨0, 0, 0, 0⟩ zv_i 0 [.int p0, .int p1] [] s (mX12_has N p0 p1 s) := by
  unfold mX12_has
  refine zx_lift (pc' := 1) (fun _ => zq_iload_n rfl rfl dX12_has_0 rfl) ?_
  refine zx_lift (pc' := 2) (fun _ => zq_iload_n rfl rfl dX12_has_1 rfl) ?_
  refine zx_lift (pc' := 3) (fun _ => zq_ishr dX12_has_2 rfl) ?_
  refine zx_lift (pc' := 4) (fun _ => zq_iconst (v := 1) dX12_has_3 rfl rfl) ?_
  refine zx_lift (pc' := 5) (fun _ => zq_iand dX12_has_4 rfl) ?_
  refine zx_lift (pc' := 6) (fun _ => zq_iconst (v := 1) dX12_has_5 rfl rfl) ?_
  refine zx_tern (pcJ := 14) (lsJ := fun x1 => [.null, .null]) (stJ := fun x1 => [.int x1]) (fun x1 => ?_) (fun f hJ => ?_)
  rotate_left
  · refine zx_licmp_ne (pc' := 9) (tgt := 13) dX12_has_6 rfl rfl (fun _ => ?_) (fun _ => ?_)
    · refine zx_lift (pc' := 14) (fun _ => zq_iconst (v := 0) dX12_has_13 rfl rfl) ?_
      exact zx_lessJ (zq_cz (zq_cz zq_cn)) (hJ _)
    · refine zx_lift (pc' := 10) (fun _ => zq_iconst (v := 1) dX12_has_9 rfl rfl) ?_
      refine zx_lift (pc' := 14) (fun _ => zq_goto dX12_has_10 rfl) ?_
      exact zx_lessJ (zq_cz (zq_cz zq_cn)) (hJ _)
  exact zx_zretg rfl dX12_has_14
theorem cX12_has_mc (N : Nat)  (p0 : Int32) (p1 : Int32) (s : zq_S) (v : Int32 × zq_S) (h : mX12_has N p0 p1 s = some v) : zq_MC yX12_has cX12_has 2 (some .boolean) ⟨0, 0, 0, 0⟩ 0 0 [.int p0, .int p1] (zq_en s) (zv_i v.1, zq_en v.2) := zq_MC_x [.int p0, .int p1] (by decide +kernel) rfl rfl (Nat.le_of_ble_eq_true rfl) (xX12_has N p0 p1 s) h
