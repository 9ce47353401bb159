def mX3_refuse (N : Nat)  (p1 : Int32) (s : zq_S) : Option (Int32 × zq_S) :=
  zq_b2 (mX3_hasBits N p1 s) (fun r1 s2 =>
  if r1 = (0 : Int32) then
  some ((-1001 : Int32), s2)
  else
  zq_b2 (mX3_isGood N p1 s2) (fun r3 s4 =>
  zq_let (if r3 = (0 : Int32) then (-1003 : Int32) else (0 : Int32)) (fun x5 =>
  some (x5, s4))))
set_option maxRecDepth 20000 in
set_option maxHeartbeats 2000000 in
theorem xX3_refuse (N : Nat)  (p1 : Int32) (s : zq_S) : zq_X yX3_refuse RX3 cX3_refuse 2 (some .int) ⟨2, 0, 0, 41⟩ zv_i 0 [.ref 31, .int p1] [] s (mX3_refuse N p1 s) := by
  unfold mX3_refuse
  refine zx_lift (pc' := 1) (fun _ => zq_aload_n rfl rfl dX3_refuse_0 rfl) ?_
  refine zx_lift (pc' := 2) (fun _ => zq_iload_n rfl rfl dX3_refuse_1 rfl) ?_
  refine zx_cVi (pc' := 5) zcv_X3_74 (cX3_hasBits_mc N p1 s) zob_31 rfl (by decide) (Nat.le_of_ble_eq_true rfl) dX3_refuse_2 rfl rfl (fun r1 s2 => ?_)
  refine zx_if_ne (pc' := 8) (tgt := 12) dX3_refuse_5 rfl rfl (fun hc => ?_) (fun hc => ?_)
  · refine zx_lift (pc' := 13) (fun _ => zq_aload_n rfl rfl dX3_refuse_12 rfl) ?_
    refine zx_lift (pc' := 14) (fun _ => zq_iload_n rfl rfl dX3_refuse_13 rfl) ?_
    refine zx_cVi (pc' := 17) zcv_X3_78 (cX3_isGood_mc N p1 s2) zob_31 rfl (by decide) (Nat.le_of_ble_eq_true rfl) dX3_refuse_14 rfl rfl (fun r3 s4 => ?_)
    refine zx_tern (pcJ := 27) (lsJ := fun x5 => [.null, .null]) (stJ := fun x5 => [.int x5]) (fun x5 => ?_) (fun f hJ => ?_)
    rotate_left
    · refine zx_lif_eq (pc' := 20) (tgt := 24) dX3_refuse_17 rfl rfl (fun _ => ?_) (fun _ => ?_)
      · refine zx_lift (pc' := 27) (fun _ => zq_sipush (v := (-1003)) dX3_refuse_24 rfl rfl) ?_
        exact zx_lessJ (zq_cz (zq_cz zq_cn)) (hJ _)
      · refine zx_lift (pc' := 21) (fun _ => zq_iconst (v := 0) dX3_refuse_20 rfl rfl) ?_
        refine zx_lift (pc' := 27) (fun _ => zq_goto dX3_refuse_21 rfl) ?_
        exact zx_lessJ (zq_cz (zq_cz zq_cn)) (hJ _)
    exact zx_iret rfl dX3_refuse_27
  · refine zx_lift (pc' := 11) (fun _ => zq_sipush (v := (-1001)) dX3_refuse_8 rfl rfl) ?_
    exact zx_iret rfl dX3_refuse_11
theorem cX3_refuse_mc (N : Nat)  (p1 : Int32) (s : zq_S) (v : Int32 × zq_S) (h : mX3_refuse N p1 s = some v) : zq_MC yX3_refuse cX3_refuse 2 (some .int) ⟨2, 0, 0, 41⟩ 0 0 [.ref 31, .int p1] (zq_en s) (zv_i v.1, zq_en v.2) := zq_MC_x [.ref 31, .int p1] (by decide +kernel) rfl rfl (Nat.le_of_ble_eq_true rfl) (xX3_refuse N p1 s) h
def jX0_breaksIn_j52 (N : Nat) (b1 : Bool) (f2 : Int32) (f4 : Int32) (k58 : Int32 × zq_S → Option (Int32 × zq_S)) (self : Int32 × Int32 × zq_S → Option (Int32 × zq_S)) (w3 : Int32) (w5 : Int32) (s : zq_S) : Option (Int32 × zq_S) :=
  zq_let (w5 + (1 : Int32)) (fun x9 =>
  self (w3, x9, s))
set_option maxRecDepth 20000 in
set_option maxHeartbeats 2000000 in
theorem xX0_breaksIn_j52_j (N : Nat) (b1 : Bool) (f2 : Int32) (f4 : Int32) (k58 : Int32 × zq_S → Option (Int32 × zq_S)) (hk58 : ∀ e, zq_X yX0_breaksIn RX0 cX0_breaksIn 6 (some .int) ⟨2, 0, 0, 43⟩ zv_i 58 [.null, .null, .null, .int e.1, .null, .null] [] e.2 (k58 e)) (self : Int32 × Int32 × zq_S → Option (Int32 × zq_S)) (hself : ∀ v, zq_X yX0_breaksIn RX0 cX0_breaksIn 6 (some .int) ⟨2, 0, 0, 43⟩ zv_i 12 [.ref 42, .ref (zf b1), .int f2, .int v.1, .int f4, .int v.2.1] [] v.2.2 (self v)) (w3 : Int32) (w5 : Int32) (s : zq_S) : zq_X yX0_breaksIn RX0 cX0_breaksIn 6 (some .int) ⟨2, 0, 0, 43⟩ zv_i 52 [.ref 42, .ref (zf b1), .int f2, .int w3, .int f4, .int w5] [] s (jX0_breaksIn_j52 N b1 f2 f4 k58 self w3 w5 s) := by
  unfold jX0_breaksIn_j52
  refine zx_iinc (pc' := 55) (ls' := fun x9 => [.ref 42, .ref (zf b1), .int f2, .int w3, .int f4, .int x9]) rfl rfl (by decide) rfl (fun _ => rfl) dX0_breaksIn_52 rfl (fun x9 => ?_)
  refine zx_lift (pc' := 12) (fun _ => zq_goto dX0_breaksIn_55 rfl) ?_
  exact hself (w3, x9, s)
def bX0_breaksIn_12 (N : Nat) (b1 : Bool) (f2 : Int32) (f4 : Int32) (k58 : Int32 × zq_S → Option (Int32 × zq_S)) (self : Int32 × Int32 × zq_S → Option (Int32 × zq_S)) (v : Int32 × Int32 × zq_S) : Option (Int32 × zq_S) :=
  if f4 ≤ v.2.1 then
  k58 (v.1, v.2.2)
  else
  if (zgf v.2.2 42 1) ≤ (0 : Int32) then
  k58 (v.1, v.2.2)
  else
  zq_b2 (mX8_wordAt N b1 f2 (v.2.1 - (1 : Int32)) v.2.2) (fun r3 s4 =>
  zq_b2 (mX8_wordAt N b1 f2 v.2.1 s4) (fun r5 s6 =>
  zq_b2 (mX0_isBarred N r3 r5 s6) (fun r7 s8 =>
  if r7 = (0 : Int32) then
  jX0_breaksIn_j52 N b1 f2 f4 k58 self v.1 v.2.1 s8
  else
  zq_let (v.1 + (1 : Int32)) (fun x10 =>
  jX0_breaksIn_j52 N b1 f2 f4 k58 self x10 v.2.1 s8))))
set_option maxRecDepth 20000 in
set_option maxHeartbeats 2000000 in
theorem xX0_breaksIn_12 (N : Nat) (b1 : Bool) (f2 : Int32) (f4 : Int32) (k58 : Int32 × zq_S → Option (Int32 × zq_S)) (hk58 : ∀ e, zq_X yX0_breaksIn RX0 cX0_breaksIn 6 (some .int) ⟨2, 0, 0, 43⟩ zv_i 58 [.null, .null, .null, .int e.1, .null, .null] [] e.2 (k58 e)) (self : Int32 × Int32 × zq_S → Option (Int32 × zq_S)) (hself : ∀ v, zq_X yX0_breaksIn RX0 cX0_breaksIn 6 (some .int) ⟨2, 0, 0, 43⟩ zv_i 12 [.ref 42, .ref (zf b1), .int f2, .int v.1, .int f4, .int v.2.1] [] v.2.2 (self v)) (v : Int32 × Int32 × zq_S) : zq_X yX0_breaksIn RX0 cX0_breaksIn 6 (some .int) ⟨2, 0, 0, 43⟩ zv_i 12 [.ref 42, .ref (zf b1), .int f2, .int v.1, .int f4, .int v.2.1] [] v.2.2 (bX0_breaksIn_12 N b1 f2 f4 k58 self v) := by
  unfold bX0_breaksIn_12
  refine zx_lift (pc' := 14) (fun _ => zq_iload rfl dX0_breaksIn_12 rfl) ?_
  refine zx_lift (pc' := 16) (fun _ => zq_iload rfl dX0_breaksIn_14 rfl) ?_
  refine zx_icmp_ge (pc' := 19) (tgt := 58) dX0_breaksIn_16 rfl rfl (fun hc => ?_) (fun hc => ?_)
  · refine zx_less [.null, .null, .null, .int v.1, .null, .null] (zq_cz (zq_cz (zq_cz (zq_cr (zq_cz (zq_cz zq_cn)))))) ?_
    exact hk58 (v.1, v.2.2)
  · refine zx_lift (pc' := 20) (fun _ => zq_aload_n rfl rfl dX0_breaksIn_19 rfl) ?_
    refine zx_lift (pc' := 23) (fun _ => zt_getI zfr_X0_19 zfd_42_1 dX0_breaksIn_20 rfl) ?_
    refine zx_if_le (pc' := 26) (tgt := 58) dX0_breaksIn_23 rfl rfl (fun hc => ?_) (fun hc => ?_)
    · refine zx_less [.null, .null, .null, .int v.1, .null, .null] (zq_cz (zq_cz (zq_cz (zq_cr (zq_cz (zq_cz zq_cn)))))) ?_
      exact hk58 (v.1, v.2.2)
    · refine zx_lift (pc' := 27) (fun _ => zq_aload_n rfl rfl dX0_breaksIn_26 rfl) ?_
      refine zx_lift (pc' := 28) (fun _ => zq_aload_n rfl rfl dX0_breaksIn_27 rfl) ?_
      refine zx_lift (pc' := 29) (fun _ => zq_iload_n rfl rfl dX0_breaksIn_28 rfl) ?_
      refine zx_lift (pc' := 31) (fun _ => zq_iload rfl dX0_breaksIn_29 rfl) ?_
      refine zx_lift (pc' := 32) (fun _ => zq_iconst (v := 1) dX0_breaksIn_31 rfl rfl) ?_
      refine zx_lift (pc' := 33) (fun _ => zq_isub dX0_breaksIn_32 rfl) ?_
      refine zx_cVi (pc' := 36) zcv_X0_33 (cX8_wordAt_mc N b1 f2 (v.2.1 - (1 : Int32)) v.2.2) (zob_f b1) rfl (by decide) (Nat.le_of_ble_eq_true rfl) dX0_breaksIn_33 rfl rfl (fun r3 s4 => ?_)
      refine zx_lift (pc' := 37) (fun _ => zq_aload_n rfl rfl dX0_breaksIn_36 rfl) ?_
      refine zx_lift (pc' := 38) (fun _ => zq_iload_n rfl rfl dX0_breaksIn_37 rfl) ?_
      refine zx_lift (pc' := 40) (fun _ => zq_iload rfl dX0_breaksIn_38 rfl) ?_
      refine zx_cVi (pc' := 43) zcv_X0_33 (cX8_wordAt_mc N b1 f2 v.2.1 s4) (zob_f b1) rfl (by decide) (Nat.le_of_ble_eq_true rfl) dX0_breaksIn_40 rfl rfl (fun r5 s6 => ?_)
      refine zx_cVi (pc' := 46) zcv_X0_23 (cX0_isBarred_mc N r3 r5 s6) zob_42 rfl (by decide) (Nat.le_of_ble_eq_true rfl) dX0_breaksIn_43 rfl rfl (fun r7 s8 => ?_)
      refine zx_if_eq (pc' := 49) (tgt := 52) dX0_breaksIn_46 rfl rfl (fun hc => ?_) (fun hc => ?_)
      · exact xX0_breaksIn_j52_j N b1 f2 f4 k58 hk58 self hself v.1 v.2.1 s8
      · refine zx_iinc (pc' := 52) (ls' := fun x10 => [.ref 42, .ref (zf b1), .int f2, .int x10, .int f4, .int v.2.1]) rfl rfl (by decide) rfl (fun _ => rfl) dX0_breaksIn_49 rfl (fun x10 => ?_)
        exact xX0_breaksIn_j52_j N b1 f2 f4 k58 hk58 self hself x10 v.2.1 s8
theorem yX0_breaksIn_12 (N : Nat) (b1 : Bool) (f2 : Int32) (f4 : Int32) (k58 : Int32 × zq_S → Option (Int32 × zq_S)) (hk58 : ∀ e, zq_X yX0_breaksIn RX0 cX0_breaksIn 6 (some .int) ⟨2, 0, 0, 43⟩ zv_i 58 [.null, .null, .null, .int e.1, .null, .null] [] e.2 (k58 e)) (n : Nat) : ∀ v : Int32 × Int32 × zq_S, zq_X yX0_breaksIn RX0 cX0_breaksIn 6 (some .int) ⟨2, 0, 0, 43⟩ zv_i 12 [.ref 42, .ref (zf b1), .int f2, .int v.1, .int f4, .int v.2.1] [] v.2.2 (zq_loop (bX0_breaksIn_12 N b1 f2 f4 k58) n v) := by
  induction n with
  | zero => exact fun v u hu => by cases hu
  | succ n ih =>
    intro v
    rw [zq_loop_s]
    exact xX0_breaksIn_12 N b1 f2 f4 k58 hk58 (zq_loop (bX0_breaksIn_12 N b1 f2 f4 k58) n) ih v
def jX0_breaksIn_j58 (N : Nat) (b1 : Bool)  (w3 : Int32) (s : zq_S) : Option (Int32 × zq_S) :=
  some (w3, s)
set_option maxRecDepth 20000 in
set_option maxHeartbeats 2000000 in
theorem xX0_breaksIn_j58_j (N : Nat) (b1 : Bool)  (w3 : Int32) (s : zq_S) : zq_X yX0_breaksIn RX0 cX0_breaksIn 6 (some .int) ⟨2, 0, 0, 43⟩ zv_i 58 [.null, .null, .null, .int w3, .null, .null] [] s (jX0_breaksIn_j58 N b1 w3 s) := by
  unfold jX0_breaksIn_j58
  refine zx_lift (pc' := 59) (fun _ => zq_iload_n rfl rfl dX0_breaksIn_58 rfl) ?_
  exact zx_iret rfl dX0_breaksIn_59
def mX0_breaksIn (N : Nat) (b1 : Bool) (p2 : Int32) (s : zq_S) : Option (Int32 × zq_S) :=
  zq_b2 (mX8_sizeOf N b1 p2 s) (fun r1 s2 =>
  zq_loop (bX0_breaksIn_12 N b1 p2 r1 (fun e11 =>
  jX0_breaksIn_j58 N b1 e11.1 e11.2)) N ((0 : Int32), (1 : Int32), s2))
set_option maxRecDepth 20000 in
set_option maxHeartbeats 2000000 in
theorem xX0_breaksIn (N : Nat) (b1 : Bool) (p2 : Int32) (s : zq_S) : zq_X yX0_breaksIn RX0 cX0_breaksIn 6 (some .int) ⟨2, 0, 0, 43⟩ zv_i 0 [.ref 42, .ref (zf b1), .int p2, .null, .null, .null] [] s (mX0_breaksIn N b1 p2 s) := by
  unfold mX0_breaksIn
  refine zx_lift (pc' := 1) (fun _ => zq_iconst (v := 0) dX0_breaksIn_0 rfl rfl) ?_
  refine zx_lift (pc' := 2) (fun _ => zq_istore_n (ls' := [.ref 42, .ref (zf b1), .int p2, .int (0 : Int32), .null, .null]) rfl (by decide) rfl rfl dX0_breaksIn_1 rfl) ?_
  refine zx_lift (pc' := 3) (fun _ => zq_aload_n rfl rfl dX0_breaksIn_2 rfl) ?_
  refine zx_lift (pc' := 4) (fun _ => zq_iload_n rfl rfl dX0_breaksIn_3 rfl) ?_
  refine zx_cVi (pc' := 7) zcv_X0_27 (cX8_sizeOf_mc N b1 p2 s) (zob_f b1) rfl (by decide) (Nat.le_of_ble_eq_true rfl) dX0_breaksIn_4 rfl rfl (fun r1 s2 => ?_)
  refine zx_lift (pc' := 9) (fun _ => zq_istore (ls' := [.ref 42, .ref (zf b1), .int p2, .int (0 : Int32), .int r1, .null]) (by decide) rfl rfl dX0_breaksIn_7 rfl) ?_
  refine zx_lift (pc' := 10) (fun _ => zq_iconst (v := 1) dX0_breaksIn_9 rfl rfl) ?_
  refine zx_lift (pc' := 12) (fun _ => zq_istore (ls' := [.ref 42, .ref (zf b1), .int p2, .int (0 : Int32), .int r1, .int (1 : Int32)]) (by decide) rfl rfl dX0_breaksIn_10 rfl) ?_
  refine yX0_breaksIn_12 N b1 p2 r1 _ (fun e11 => ?_) N ((0 : Int32), (1 : Int32), s2)
  exact xX0_breaksIn_j58_j N b1 e11.1 e11.2
theorem cX0_breaksIn_mc (N : Nat) (b1 : Bool) (p2 : Int32) (s : zq_S) (v : Int32 × zq_S) (h : mX0_breaksIn N b1 p2 s = some v) : zq_MC yX0_breaksIn cX0_breaksIn 6 (some .int) ⟨2, 0, 0, 43⟩ 0 0 [.ref 42, .ref (zf b1), .int p2] (zq_en s) (zv_i v.1, zq_en v.2) := zq_MC_x [.ref 42, .ref (zf b1), .int p2, .null, .null, .null] (by decide +kernel) rfl rfl (Nat.le_of_ble_eq_true rfl) (xX0_breaksIn N b1 p2 s) h
def jX11_breaks_j33 (N : Nat)   (t0 : Int32) (s : zq_S) : Option (Int32 × zq_S) :=
  some (t0, s)
set_option maxRecDepth 20000 in
set_option maxHeartbeats 2000000 in
theorem xX11_breaks_j33_j (N : Nat)   (t0 : Int32) (s : zq_S) : zq_X yX11_breaks RX11 cX11_breaks 3 (some .int) ⟨3, 0, 0, 71⟩ zv_i 33 [.null, .null, .null] [.int t0] s (jX11_breaks_j33 N t0 s) := by
  unfold jX11_breaks_j33
  exact zx_iret rfl dX11_breaks_33
def mX11_breaks (N : Nat)  (p1 : Int32) (s : zq_S) : Option (Int32 × zq_S) :=
  zq_b2 (mX3_refuse N p1 s) (fun r1 s2 =>
  if r1 = (0 : Int32) then
  zq_b2 (mX9_with N p1 s2) (fun r3 s4 =>
  zq_b2 (mX0_breaksIn N false p1 s4) (fun r5 s6 =>
  jX11_breaks_j33 N r5 s6))
  else
  jX11_breaks_j33 N r1 s2)
set_option maxRecDepth 20000 in
set_option maxHeartbeats 2000000 in
theorem xX11_breaks (N : Nat)  (p1 : Int32) (s : zq_S) : zq_X yX11_breaks RX11 cX11_breaks 3 (some .int) ⟨3, 0, 0, 71⟩ zv_i 0 [.ref 0, .int p1, .null] [] s (mX11_breaks N p1 s) := by
  unfold mX11_breaks
  refine zx_lift (pc' := 1) (fun _ => zq_aload_n rfl rfl dX11_breaks_0 rfl) ?_
  refine zx_lift (pc' := 4) (fun _ => zt_getR zfr_X11_31 zfd_0_1 dX11_breaks_1 rfl) ?_
  refine zx_lift (pc' := 5) (fun _ => zq_iload_n rfl rfl dX11_breaks_4 rfl) ?_
  refine zx_cVi (pc' := 8) zcv_X11_189 (cX3_refuse_mc N p1 s) zob_31 rfl (by decide) (Nat.le_of_ble_eq_true rfl) dX11_breaks_5 rfl rfl (fun r1 s2 => ?_)
  refine zx_lift (pc' := 9) (fun _ => zq_istore_n (ls' := [.ref 0, .int p1, .int r1]) rfl (by decide) rfl rfl dX11_breaks_8 rfl) ?_
  refine zx_lift (pc' := 10) (fun _ => zq_iload_n rfl rfl dX11_breaks_9 rfl) ?_
  refine zx_if_eq (pc' := 13) (tgt := 17) dX11_breaks_10 rfl rfl (fun hc => ?_) (fun hc => ?_)
  · refine zx_lift (pc' := 18) (fun _ => zq_aload_n rfl rfl dX11_breaks_17 rfl) ?_
    refine zx_lift (pc' := 21) (fun _ => zt_getR zfr_X11_45 zfd_0_3 dX11_breaks_18 rfl) ?_
    refine zx_lift (pc' := 22) (fun _ => zq_aload_n rfl rfl dX11_breaks_21 rfl) ?_
    refine zx_lift (pc' := 25) (fun _ => zt_getR zfr_X11_38 zfd_0_2 dX11_breaks_22 rfl) ?_
    refine zx_lift (pc' := 26) (fun _ => zq_iload_n rfl rfl dX11_breaks_25 rfl) ?_
    refine zx_cVw (pc' := 29) zcv_X11_252 (cX9_with_mc N p1 s2) zob_38 rfl (by decide) (Nat.le_of_ble_eq_true rfl) dX11_breaks_26 rfl rfl (fun r3 s4 => ?_)
    refine zx_lift (pc' := 30) (fun _ => zq_iload_n rfl rfl dX11_breaks_29 rfl) ?_
    refine zx_cVi (pc' := 33) zcv_X11_296 (cX0_breaksIn_mc N false p1 s4) zob_42 rfl (by decide) (Nat.le_of_ble_eq_true rfl) dX11_breaks_30 rfl rfl (fun r5 s6 => ?_)
    refine zx_less [.null, .null, .null] (zq_cz (zq_cz (zq_cz zq_cn))) ?_
    exact xX11_breaks_j33_j N r5 s6
  · refine zx_lift (pc' := 14) (fun _ => zq_iload_n rfl rfl dX11_breaks_13 rfl) ?_
    refine zx_lift (pc' := 33) (fun _ => zq_goto dX11_breaks_14 rfl) ?_
    refine zx_less [.null, .null, .null] (zq_cz (zq_cz (zq_cz zq_cn))) ?_
    exact xX11_breaks_j33_j N r1 s2
theorem cX11_breaks_mc (N : Nat)  (p1 : Int32) (s : zq_S) (v : Int32 × zq_S) (h : mX11_breaks N p1 s = some v) : zq_MC yX11_breaks cX11_breaks 3 (some .int) ⟨3, 0, 0, 71⟩ 0 0 [.ref 0, .int p1] (zq_en s) (zv_i v.1, zq_en v.2) := zq_MC_x [.ref 0, .int p1, .null] (by decide +kernel) rfl rfl (Nat.le_of_ble_eq_true rfl) (xX11_breaks N p1 s) h
def bX4_numberClean_2 (N : Nat)    (self : Int32 × zq_S → Option (Int64 × zq_S)) (v : Int32 × zq_S) : Option (Int64 × zq_S) :=
  zq_b2 (mX3_goodCount N v.2) (fun r1 s2 =>
  if r1 ≤ v.1 then
  zq_b2 (mX4_countWays_a1 N s2) (fun r3 s4 =>
  zq_ck (0 : Int32) 4096 (
  some ((zgl s4 1 (0 : Int32)), s4)))
  else
  zq_b2 (mX3_goodAt N v.1 s2) (fun r5 s6 =>
  zq_b2 (mX9_with N r5 s6) (fun r7 s8 =>
  zq_b2 (mX0_breaksIn N false r5 s8) (fun r9 s10 =>
  zq_let (if r9 ≤ (0 : Int32) then (1 : Int64) else (0 : Int64)) (fun x11 =>
  zq_ck r5 4096 (
  zq_let (zpl s10 1 r5 x11) (fun s12 =>
  zq_let (v.1 + (1 : Int32)) (fun x13 =>
  self (x13, s12)))))))))
set_option maxRecDepth 20000 in
set_option maxHeartbeats 2000000 in
theorem xX4_numberClean_2 (N : Nat)    (self : Int32 × zq_S → Option (Int64 × zq_S)) (hself : ∀ v, zq_X yX4_numberClean RX4 cX4_numberClean 3 (some .long) ⟨4, 0, 0, 87⟩ zv_l 2 [.ref 44, .int v.1, .null] [] v.2 (self v)) (v : Int32 × zq_S) : zq_X yX4_numberClean RX4 cX4_numberClean 3 (some .long) ⟨4, 0, 0, 87⟩ zv_l 2 [.ref 44, .int v.1, .null] [] v.2 (bX4_numberClean_2 N self v) := by
  unfold bX4_numberClean_2
  refine zx_lift (pc' := 3) (fun _ => zq_iload_n rfl rfl dX4_numberClean_2 rfl) ?_
  refine zx_lift (pc' := 4) (fun _ => zq_aload_n rfl rfl dX4_numberClean_3 rfl) ?_
  refine zx_lift (pc' := 7) (fun _ => zt_getR zfr_X4_19 zfd_44_0 dX4_numberClean_4 rfl) ?_
  refine zx_cVi (pc' := 10) zcv_X4_61 (cX3_goodCount_mc N v.2) zob_31 rfl (by decide) (Nat.le_of_ble_eq_true rfl) dX4_numberClean_7 rfl rfl (fun r1 s2 => ?_)
  refine zx_icmp_ge (pc' := 13) (tgt := 58) dX4_numberClean_10 rfl rfl (fun hc => ?_) (fun hc => ?_)
  · refine zx_lift (pc' := 59) (fun _ => zq_aload_n rfl rfl dX4_numberClean_58 rfl) ?_
    refine zx_lift (pc' := 60) (fun _ => zq_aload_n rfl rfl dX4_numberClean_59 rfl) ?_
    refine zx_lift (pc' := 63) (fun _ => zt_getR zfr_X4_31 zfd_44_3 dX4_numberClean_60 rfl) ?_
    refine zx_cVv (pc' := 66) zcv_X4_45 (cX4_countWays_a1_mc N s2) zob_44 rfl (by decide) (Nat.le_of_ble_eq_true rfl) dX4_numberClean_63 rfl rfl (fun r3 s4 => ?_)
    refine zx_lift (pc' := 67) (fun _ => zq_aload_n rfl rfl dX4_numberClean_66 rfl) ?_
    refine zx_lift (pc' := 70) (fun _ => zt_getR zfr_X4_31 zfd_44_3 dX4_numberClean_67 rfl) ?_
    refine zx_lift (pc' := 71) (fun _ => zq_iconst (v := 0) dX4_numberClean_70 rfl rfl) ?_
    refine zx_laload (pc' := 72) zsh_1 dX4_numberClean_71 rfl ?_
    exact zx_lret rfl dX4_numberClean_72
  · refine zx_lift (pc' := 14) (fun _ => zq_aload_n rfl rfl dX4_numberClean_13 rfl) ?_
    refine zx_lift (pc' := 17) (fun _ => zt_getR zfr_X4_19 zfd_44_0 dX4_numberClean_14 rfl) ?_
    refine zx_lift (pc' := 18) (fun _ => zq_iload_n rfl rfl dX4_numberClean_17 rfl) ?_
    refine zx_cVi (pc' := 21) zcv_X4_65 (cX3_goodAt_mc N v.1 s2) zob_31 rfl (by decide) (Nat.le_of_ble_eq_true rfl) dX4_numberClean_18 rfl rfl (fun r5 s6 => ?_)
    refine zx_lift (pc' := 22) (fun _ => zq_istore_n (ls' := [.ref 44, .int v.1, .int r5]) rfl (by decide) rfl rfl dX4_numberClean_21 rfl) ?_
    refine zx_lift (pc' := 23) (fun _ => zq_aload_n rfl rfl dX4_numberClean_22 rfl) ?_
    refine zx_lift (pc' := 26) (fun _ => zt_getR zfr_X4_31 zfd_44_3 dX4_numberClean_23 rfl) ?_
    refine zx_lift (pc' := 27) (fun _ => zq_iload_n rfl rfl dX4_numberClean_26 rfl) ?_
    refine zx_lift (pc' := 28) (fun _ => zq_aload_n rfl rfl dX4_numberClean_27 rfl) ?_
    refine zx_lift (pc' := 31) (fun _ => zt_getR zfr_X4_27 zfd_44_2 dX4_numberClean_28 rfl) ?_
    refine zx_lift (pc' := 32) (fun _ => zq_aload_n rfl rfl dX4_numberClean_31 rfl) ?_
    refine zx_lift (pc' := 35) (fun _ => zt_getR zfr_X4_23 zfd_44_1 dX4_numberClean_32 rfl) ?_
    refine zx_lift (pc' := 36) (fun _ => zq_iload_n rfl rfl dX4_numberClean_35 rfl) ?_
    refine zx_cVw (pc' := 39) zcv_X4_68 (cX9_with_mc N r5 s6) zob_38 rfl (by decide) (Nat.le_of_ble_eq_true rfl) dX4_numberClean_36 rfl rfl (fun r7 s8 => ?_)
    refine zx_lift (pc' := 40) (fun _ => zq_iload_n rfl rfl dX4_numberClean_39 rfl) ?_
    refine zx_cVi (pc' := 43) zcv_X4_74 (cX0_breaksIn_mc N false r5 s8) zob_42 rfl (by decide) (Nat.le_of_ble_eq_true rfl) dX4_numberClean_40 rfl rfl (fun r9 s10 => ?_)
    refine zx_tern (pcJ := 51) (lsJ := fun x11 => [.ref 44, .int v.1, .null]) (stJ := fun x11 => [.long x11, .int r5, .ref 1]) (fun x11 => ?_) (fun f hJ => ?_)
    rotate_left
    · refine zx_lif_le (pc' := 46) (tgt := 50) dX4_numberClean_43 rfl rfl (fun _ => ?_) (fun _ => ?_)
      · refine zx_lift (pc' := 51) (fun _ => zq_lconst (v := 1) dX4_numberClean_50 rfl rfl) ?_
        exact zx_lessJ (zq_cr (zq_cr (zq_cz zq_cn))) (hJ _)
      · refine zx_lift (pc' := 47) (fun _ => zq_lconst (v := 0) dX4_numberClean_46 rfl rfl) ?_
        refine zx_lift (pc' := 51) (fun _ => zq_goto dX4_numberClean_47 rfl) ?_
        exact zx_lessJ (zq_cr (zq_cr (zq_cz zq_cn))) (hJ _)
    refine zx_lastore (pc' := 52) zsh_1 dX4_numberClean_51 rfl (fun s12 => ?_)
    refine zx_iinc (pc' := 55) (ls' := fun x13 => [.ref 44, .int x13, .null]) rfl rfl (by decide) rfl (fun _ => rfl) dX4_numberClean_52 rfl (fun x13 => ?_)
    refine zx_lift (pc' := 2) (fun _ => zq_goto dX4_numberClean_55 rfl) ?_
    exact hself (x13, s12)
theorem yX4_numberClean_2 (N : Nat)    (n : Nat) : ∀ v : Int32 × zq_S, zq_X yX4_numberClean RX4 cX4_numberClean 3 (some .long) ⟨4, 0, 0, 87⟩ zv_l 2 [.ref 44, .int v.1, .null] [] v.2 (zq_loop (bX4_numberClean_2 N ) n v) := by
  induction n with
  | zero => exact fun v u hu => by cases hu
  | succ n ih =>
    intro v
    rw [zq_loop_s]
    exact xX4_numberClean_2 N  (zq_loop (bX4_numberClean_2 N ) n) ih v
def mX4_numberClean (N : Nat)   (s : zq_S) : Option (Int64 × zq_S) :=
  zq_loop (bX4_numberClean_2 N ) N ((0 : Int32), s)
set_option maxRecDepth 20000 in
set_option maxHeartbeats 2000000 in
theorem xX4_numberClean (N : Nat)   (s : zq_S) : zq_X yX4_numberClean RX4 cX4_numberClean 3 (some .long) ⟨4, 0, 0, 87⟩ zv_l 0 [.ref 44, .null, .null] [] s (mX4_numberClean N s) := by
  unfold mX4_numberClean
  refine zx_lift (pc' := 1) (fun _ => zq_iconst (v := 0) dX4_numberClean_0 rfl rfl) ?_
  refine zx_lift (pc' := 2) (fun _ => zq_istore_n (ls' := [.ref 44, .int (0 : Int32), .null]) rfl (by decide) rfl rfl dX4_numberClean_1 rfl) ?_
  refine yX4_numberClean_2 N  N ((0 : Int32), s)
theorem cX4_numberClean_mc (N : Nat)   (s : zq_S) (v : Int64 × zq_S) (h : mX4_numberClean N s = some v) : zq_MC yX4_numberClean cX4_numberClean 3 (some .long) ⟨4, 0, 0, 87⟩ 0 0 [.ref 44] (zq_en s) (zv_l v.1, zq_en v.2) := zq_MC_x [.ref 44, .null, .null] (by decide +kernel) rfl rfl (Nat.le_of_ble_eq_true rfl) (xX4_numberClean N s) h
def mX11_clean (N : Nat)   (s : zq_S) : Option (Int64 × zq_S) :=
  zq_b2 (mX4_numberClean N s) (fun r1 s2 =>
  some (r1, s2))
set_option maxRecDepth 20000 in
set_option maxHeartbeats 2000000 in
theorem xX11_clean (N : Nat)   (s : zq_S) : zq_X yX11_clean RX11 cX11_clean 1 (some .long) ⟨5, 0, 0, 109⟩ zv_l 0 [.ref 0] [] s (mX11_clean N s) := by
  unfold mX11_clean
  refine zx_lift (pc' := 1) (fun _ => zq_aload_n rfl rfl dX11_clean_0 rfl) ?_
  refine zx_lift (pc' := 4) (fun _ => zt_getR zfr_X11_54 zfd_0_4 dX11_clean_1 rfl) ?_
  refine zx_cVl (pc' := 7) zcv_X11_300 (cX4_numberClean_mc N s) zob_44 rfl (by decide) (Nat.le_of_ble_eq_true rfl) dX11_clean_4 rfl rfl (fun r1 s2 => ?_)
  exact zx_lret rfl dX11_clean_7
theorem cX11_clean_mc (N : Nat)   (s : zq_S) (v : Int64 × zq_S) (h : mX11_clean N s = some v) : zq_MC yX11_clean cX11_clean 1 (some .long) ⟨5, 0, 0, 109⟩ 0 0 [.ref 0] (zq_en s) (zv_l v.1, zq_en v.2) := zq_MC_x [.ref 0] (by decide +kernel) rfl rfl (Nat.le_of_ble_eq_true rfl) (xX11_clean N s) h
def jX8_take_j50 (N : Nat) (b0 : Bool) (b2 : Bool)   (s : zq_S) : Option (Unit × zq_S) :=
  some ((), s)
set_option maxRecDepth 20000 in
set_option maxHeartbeats 2000000 in
theorem xX8_take_j50_j (N : Nat) (b0 : Bool) (b2 : Bool)   (s : zq_S) : zq_X yX8_take RX8 cX8_take 4 none ⟨1, 0, 0, 44⟩ zv_v 50 [.null, .null, .null, .null] [] s (jX8_take_j50 N b0 b2 s) := by
  unfold jX8_take_j50
  exact zx_vret rfl dX8_take_50
def mX8_take (N : Nat) (b0 : Bool) (b2 : Bool) (p1 : Int32) (p3 : Int32) (s : zq_S) : Option (Unit × zq_S) :=
  if p1 < (0 : Int32) then
  jX8_take_j50 N b0 b2 s
  else
  if (zgf s (zf b0) 0) ≤ p1 then
  jX8_take_j50 N b0 b2 s
  else
  zq_b2 (mX8_isMade N b2 p3 s) (fun r1 s2 =>
  if r1 = (0 : Int32) then
  jX8_take_j50 N b0 b2 s2
  else
  zq_cc (p3 * (5 : Int32)) (zfP b2) (p1 * (5 : Int32)) (zfP b0) (5 : Int32) (
  zq_let (zpcl s2 (zf b2 + 1) (p3 * (5 : Int32)) (zf b0 + 1) (p1 * (5 : Int32)) (5 : Int32)) (fun s3 =>
  zq_ck p3 (zfS b2) (
  zq_ck p1 (zfS b0) (
  zq_let (zpa s3 (zf b0 + 2) p1 (zga s3 (zf b2 + 2) p3)) (fun s4 =>
  jX8_take_j50 N b0 b2 s4))))))
set_option maxRecDepth 20000 in
set_option maxHeartbeats 2000000 in
theorem xX8_take (N : Nat) (b0 : Bool) (b2 : Bool) (p1 : Int32) (p3 : Int32) (s : zq_S) : zq_X yX8_take RX8 cX8_take 4 none ⟨1, 0, 0, 44⟩ zv_v 0 [.ref (zf b0), .int p1, .ref (zf b2), .int p3] [] s (mX8_take N b0 b2 p1 p3 s) := by
  unfold mX8_take
  refine zx_lift (pc' := 1) (fun _ => zq_iload_n rfl rfl dX8_take_0 rfl) ?_
  refine zx_if_lt (pc' := 4) (tgt := 50) dX8_take_1 rfl rfl (fun hc => ?_) (fun hc => ?_)
  · refine zx_less [.null, .null, .null, .null] (zq_cz (zq_cz (zq_cz (zq_cz zq_cn)))) ?_
    exact xX8_take_j50_j N b0 b2 s
  · refine zx_lift (pc' := 5) (fun _ => zq_iload_n rfl rfl dX8_take_4 rfl) ?_
    refine zx_lift (pc' := 6) (fun _ => zq_aload_n rfl rfl dX8_take_5 rfl) ?_
    refine zx_lift (pc' := 9) (fun _ => zt_getI zfr_X8_15 (zfd_f_0 b0) dX8_take_6 rfl) ?_
    refine zx_icmp_ge (pc' := 12) (tgt := 50) dX8_take_9 rfl rfl (fun hc => ?_) (fun hc => ?_)
    · refine zx_less [.null, .null, .null, .null] (zq_cz (zq_cz (zq_cz (zq_cz zq_cn)))) ?_
      exact xX8_take_j50_j N b0 b2 s
    · refine zx_lift (pc' := 13) (fun _ => zq_aload_n rfl rfl dX8_take_12 rfl) ?_
      refine zx_lift (pc' := 14) (fun _ => zq_iload_n rfl rfl dX8_take_13 rfl) ?_
      refine zx_cVi (pc' := 17) zcv_X8_35 (cX8_isMade_mc N b2 p3 s) (zob_f b2) rfl (by decide) (Nat.le_of_ble_eq_true rfl) dX8_take_14 rfl rfl (fun r1 s2 => ?_)
      refine zx_if_eq (pc' := 20) (tgt := 50) dX8_take_17 rfl rfl (fun hc => ?_) (fun hc => ?_)
      · refine zx_less [.null, .null, .null, .null] (zq_cz (zq_cz (zq_cz (zq_cz zq_cn)))) ?_
        exact xX8_take_j50_j N b0 b2 s2
      · refine zx_lift (pc' := 21) (fun _ => zq_aload_n rfl rfl dX8_take_20 rfl) ?_
        refine zx_lift (pc' := 24) (fun _ => zt_getR zfr_X8_21 (zfd_f_1 b2) dX8_take_21 rfl) ?_
        refine zx_lift (pc' := 25) (fun _ => zq_iload_n rfl rfl dX8_take_24 rfl) ?_
        refine zx_lift (pc' := 26) (fun _ => zq_iconst (v := 5) dX8_take_25 rfl rfl) ?_
        refine zx_lift (pc' := 27) (fun _ => zq_imul dX8_take_26 rfl) ?_
        refine zx_lift (pc' := 28) (fun _ => zq_aload_n rfl rfl dX8_take_27 rfl) ?_
        refine zx_lift (pc' := 31) (fun _ => zt_getR zfr_X8_21 (zfd_f_1 b0) dX8_take_28 rfl) ?_
        refine zx_lift (pc' := 32) (fun _ => zq_iload_n rfl rfl dX8_take_31 rfl) ?_
        refine zx_lift (pc' := 33) (fun _ => zq_iconst (v := 5) dX8_take_32 rfl rfl) ?_
        refine zx_lift (pc' := 34) (fun _ => zq_imul dX8_take_33 rfl) ?_
        refine zx_lift (pc' := 35) (fun _ => zq_iconst (v := 5) dX8_take_34 rfl rfl) ?_
        refine zx_copy (pc' := 38) zcc_X8_39 (zsh_f1 b2) (zsh_f1 b0) (by decide) (Nat.le_of_ble_eq_true rfl) dX8_take_35 rfl (fun s3 => ?_)
        refine zx_lift (pc' := 39) (fun _ => zq_aload_n rfl rfl dX8_take_38 rfl) ?_
        refine zx_lift (pc' := 42) (fun _ => zt_getR zfr_X8_25 (zfd_f_2 b0) dX8_take_39 rfl) ?_
        refine zx_lift (pc' := 43) (fun _ => zq_iload_n rfl rfl dX8_take_42 rfl) ?_
        refine zx_lift (pc' := 44) (fun _ => zq_aload_n rfl rfl dX8_take_43 rfl) ?_
        refine zx_lift (pc' := 47) (fun _ => zt_getR zfr_X8_25 (zfd_f_2 b2) dX8_take_44 rfl) ?_
        refine zx_lift (pc' := 48) (fun _ => zq_iload_n rfl rfl dX8_take_47 rfl) ?_
        refine zx_iaload (pc' := 49) (zsh_f2 b2) dX8_take_48 rfl ?_
        refine zx_iastore (pc' := 50) (zsh_f2 b0) dX8_take_49 rfl (fun s4 => ?_)
        refine zx_less [.null, .null, .null, .null] (zq_cz (zq_cz (zq_cz (zq_cz zq_cn)))) ?_
        exact xX8_take_j50_j N b0 b2 s4
theorem cX8_take_mc (N : Nat) (b0 : Bool) (b2 : Bool) (p1 : Int32) (p3 : Int32) (s : zq_S) (v : Unit × zq_S) (h : mX8_take N b0 b2 p1 p3 s = some v) : zq_MC yX8_take cX8_take 4 none ⟨1, 0, 0, 44⟩ 0 0 [.ref (zf b0), .int p1, .ref (zf b2), .int p3] (zq_en s) (zv_v v.1, zq_en v.2) := zq_MC_x [.ref (zf b0), .int p1, .ref (zf b2), .int p3] (by decide +kernel) rfl rfl (Nat.le_of_ble_eq_true rfl) (xX8_take N b0 b2 p1 p3 s) h
def mX11_copy (N : Nat)   (s : zq_S) : Option (Int32 × zq_S) :=
  if (zgf s 56 5) < (4 : Int32) then
  zq_b2 (mX8_take N true true (zgf s 56 5) (4 : Int32) s) (fun r1 s2 =>
  zq_b2 (mX8_clear N true (4 : Int32) s2) (fun r3 s4 =>
  zq_let (zpf s4 56 5 ((zgf s4 56 5) + (1 : Int32))) (fun s5 =>
  some (((zgf s5 56 5) - (1 : Int32)), s5))))
  else
  some ((-1004 : Int32), s)
set_option maxRecDepth 20000 in
set_option maxHeartbeats 2000000 in
theorem xX11_copy (N : Nat)   (s : zq_S) : zq_X yX11_copy RX11 cX11_copy 1 (some .int) ⟨2, 0, 0, 67⟩ zv_i 0 [.ref 0] [] s (mX11_copy N s) := by
  unfold mX11_copy
  refine zx_lift (pc' := 1) (fun _ => zq_aload_n rfl rfl dX11_copy_0 rfl) ?_
  refine zx_lift (pc' := 4) (fun _ => zt_getR zfr_X11_95 zfd_0_8 dX11_copy_1 rfl) ?_
  refine zx_lift (pc' := 7) (fun _ => zt_getI zfr_X11_170 zfd_56_5 dX11_copy_4 rfl) ?_
  refine zx_lift (pc' := 8) (fun _ => zq_iconst (v := 4) dX11_copy_7 rfl rfl) ?_
  refine zx_icmp_lt (pc' := 11) (tgt := 15) dX11_copy_8 rfl rfl (fun hc => ?_) (fun hc => ?_)
  · refine zx_lift (pc' := 16) (fun _ => zq_aload_n rfl rfl dX11_copy_15 rfl) ?_
    refine zx_lift (pc' := 19) (fun _ => zt_getR zfr_X11_79 zfd_0_7 dX11_copy_16 rfl) ?_
    refine zx_lift (pc' := 20) (fun _ => zq_aload_n rfl rfl dX11_copy_19 rfl) ?_
    refine zx_lift (pc' := 23) (fun _ => zt_getR zfr_X11_95 zfd_0_8 dX11_copy_20 rfl) ?_
    refine zx_lift (pc' := 26) (fun _ => zt_getI zfr_X11_170 zfd_56_5 dX11_copy_23 rfl) ?_
    refine zx_lift (pc' := 27) (fun _ => zq_aload_n rfl rfl dX11_copy_26 rfl) ?_
    refine zx_lift (pc' := 30) (fun _ => zt_getR zfr_X11_79 zfd_0_7 dX11_copy_27 rfl) ?_
    refine zx_lift (pc' := 31) (fun _ => zq_iconst (v := 4) dX11_copy_30 rfl rfl) ?_
    refine zx_cVv (pc' := 34) zcv_X11_264 (cX8_take_mc N true true (zgf s 56 5) (4 : Int32) s) (zob_f true) rfl (by decide) (Nat.le_of_ble_eq_true rfl) dX11_copy_31 rfl rfl (fun r1 s2 => ?_)
    refine zx_lift (pc' := 35) (fun _ => zq_aload_n rfl rfl dX11_copy_34 rfl) ?_
    refine zx_lift (pc' := 38) (fun _ => zt_getR zfr_X11_79 zfd_0_7 dX11_copy_35 rfl) ?_
    refine zx_lift (pc' := 39) (fun _ => zq_iconst (v := 4) dX11_copy_38 rfl rfl) ?_
    refine zx_cVv (pc' := 42) zcv_X11_268 (cX8_clear_mc N true (4 : Int32) s2) (zob_f true) rfl (by decide) (Nat.le_of_ble_eq_true rfl) dX11_copy_39 rfl rfl (fun r3 s4 => ?_)
    refine zx_lift (pc' := 43) (fun _ => zq_aload_n rfl rfl dX11_copy_42 rfl) ?_
    refine zx_lift (pc' := 46) (fun _ => zt_getR zfr_X11_95 zfd_0_8 dX11_copy_43 rfl) ?_
    refine zx_lift (pc' := 47) (fun _ => zq_dup rfl dX11_copy_46 rfl) ?_
    refine zx_lift (pc' := 50) (fun _ => zt_getI zfr_X11_170 zfd_56_5 dX11_copy_47 rfl) ?_
    refine zx_lift (pc' := 51) (fun _ => zq_iconst (v := 1) dX11_copy_50 rfl rfl) ?_
    refine zx_lift (pc' := 52) (fun _ => zq_iadd dX11_copy_51 rfl) ?_
    refine zx_putI (pc' := 55) zfr_X11_170 (fun _ => ⟨rfl, rfl⟩) zfd_56_5 dX11_copy_52 rfl (fun s5 => ?_)
    refine zx_lift (pc' := 56) (fun _ => zq_aload_n rfl rfl dX11_copy_55 rfl) ?_
    refine zx_lift (pc' := 59) (fun _ => zt_getR zfr_X11_95 zfd_0_8 dX11_copy_56 rfl) ?_
    refine zx_lift (pc' := 62) (fun _ => zt_getI zfr_X11_170 zfd_56_5 dX11_copy_59 rfl) ?_
    refine zx_lift (pc' := 63) (fun _ => zq_iconst (v := 1) dX11_copy_62 rfl rfl) ?_
    refine zx_lift (pc' := 64) (fun _ => zq_isub dX11_copy_63 rfl) ?_
    exact zx_iret rfl dX11_copy_64
  · refine zx_lift (pc' := 14) (fun _ => zq_sipush (v := (-1004)) dX11_copy_11 rfl rfl) ?_
    exact zx_iret rfl dX11_copy_14
theorem cX11_copy_mc (N : Nat)   (s : zq_S) (v : Int32 × zq_S) (h : mX11_copy N s = some v) : zq_MC yX11_copy cX11_copy 1 (some .int) ⟨2, 0, 0, 67⟩ 0 0 [.ref 0] (zq_en s) (zv_i v.1, zq_en v.2) := zq_MC_x [.ref 0] (by decide +kernel) rfl rfl (Nat.le_of_ble_eq_true rfl) (xX11_copy N s) h
def mJ6_bitCount_0f7a4 (N : Nat)  (p0 : Int32) (s : zq_S) : Option (Int32 × zq_S) :=
  zq_let (p0 - (((Int32.toUInt32 p0 >>> (Int32.toUInt32 (1 : Int32) &&& Int32.toUInt32 31)).toInt32) &&& (1431655765 : Int32))) (fun x1 =>
  zq_let ((x1 &&& (858993459 : Int32)) + (((Int32.toUInt32 x1 >>> (Int32.toUInt32 (2 : Int32) &&& Int32.toUInt32 31)).toInt32) &&& (858993459 : Int32))) (fun x2 =>
  zq_let ((x2 + ((Int32.toUInt32 x2 >>> (Int32.toUInt32 (4 : Int32) &&& Int32.toUInt32 31)).toInt32)) &&& (252645135 : Int32)) (fun x3 =>
  zq_let (x3 + ((Int32.toUInt32 x3 >>> (Int32.toUInt32 (8 : Int32) &&& Int32.toUInt32 31)).toInt32)) (fun x4 =>
  zq_let (x4 + ((Int32.toUInt32 x4 >>> (Int32.toUInt32 (16 : Int32) &&& Int32.toUInt32 31)).toInt32)) (fun x5 =>
  some ((x5 &&& (63 : Int32)), s))))))
set_option maxRecDepth 20000 in
set_option maxHeartbeats 2000000 in
theorem xJ6_bitCount_0f7a4 (N : Nat)  (p0 : Int32) (s : zq_S) : zq_X yJ6_bitCount_0f7a4 RJ6 cJ6_bitCount_0f7a4 1 (some .int) ⟨0, 0, 0, 0⟩ zv_i 0 [.int p0] [] s (mJ6_bitCount_0f7a4 N p0 s) := by
  unfold mJ6_bitCount_0f7a4
  refine zx_lift (pc' := 1) (fun _ => zq_iload_n rfl rfl dJ6_bitCount_0f7a4_0 rfl) ?_
  refine zx_lift (pc' := 2) (fun _ => zq_iload_n rfl rfl dJ6_bitCount_0f7a4_1 rfl) ?_
  refine zx_lift (pc' := 3) (fun _ => zq_iconst (v := 1) dJ6_bitCount_0f7a4_2 rfl rfl) ?_
  refine zx_lift (pc' := 4) (fun _ => zq_iushr dJ6_bitCount_0f7a4_3 rfl) ?_
  refine zx_lift (pc' := 7) (fun _ => zq_ldcw zk_J6_265 dJ6_bitCount_0f7a4_4 rfl) ?_
  refine zx_lift (pc' := 8) (fun _ => zq_iand dJ6_bitCount_0f7a4_7 rfl) ?_
  refine zx_lift (pc' := 9) (fun _ => zq_isub dJ6_bitCount_0f7a4_8 rfl) ?_
  refine zx_istore_n (pc' := 10) (ls' := fun x1 => [.int x1]) rfl (by decide) rfl (fun _ => rfl) dJ6_bitCount_0f7a4_9 rfl (fun x1 => ?_)
  refine zx_lift (pc' := 11) (fun _ => zq_iload_n rfl rfl dJ6_bitCount_0f7a4_10 rfl) ?_
  refine zx_lift (pc' := 14) (fun _ => zq_ldcw zk_J6_266 dJ6_bitCount_0f7a4_11 rfl) ?_
  refine zx_lift (pc' := 15) (fun _ => zq_iand dJ6_bitCount_0f7a4_14 rfl) ?_
  refine zx_lift (pc' := 16) (fun _ => zq_iload_n rfl rfl dJ6_bitCount_0f7a4_15 rfl) ?_
  refine zx_lift (pc' := 17) (fun _ => zq_iconst (v := 2) dJ6_bitCount_0f7a4_16 rfl rfl) ?_
  refine zx_lift (pc' := 18) (fun _ => zq_iushr dJ6_bitCount_0f7a4_17 rfl) ?_
  refine zx_lift (pc' := 21) (fun _ => zq_ldcw zk_J6_266 dJ6_bitCount_0f7a4_18 rfl) ?_
  refine zx_lift (pc' := 22) (fun _ => zq_iand dJ6_bitCount_0f7a4_21 rfl) ?_
  refine zx_lift (pc' := 23) (fun _ => zq_iadd dJ6_bitCount_0f7a4_22 rfl) ?_
  refine zx_istore_n (pc' := 24) (ls' := fun x2 => [.int x2]) rfl (by decide) rfl (fun _ => rfl) dJ6_bitCount_0f7a4_23 rfl (fun x2 => ?_)
  refine zx_lift (pc' := 25) (fun _ => zq_iload_n rfl rfl dJ6_bitCount_0f7a4_24 rfl) ?_
  refine zx_lift (pc' := 26) (fun _ => zq_iload_n rfl rfl dJ6_bitCount_0f7a4_25 rfl) ?_
  refine zx_lift (pc' := 27) (fun _ => zq_iconst (v := 4) dJ6_bitCount_0f7a4_26 rfl rfl) ?_
  refine zx_lift (pc' := 28) (fun _ => zq_iushr dJ6_bitCount_0f7a4_27 rfl) ?_
  refine zx_lift (pc' := 29) (fun _ => zq_iadd dJ6_bitCount_0f7a4_28 rfl) ?_
  refine zx_lift (pc' := 32) (fun _ => zq_ldcw zk_J6_267 dJ6_bitCount_0f7a4_29 rfl) ?_
  refine zx_lift (pc' := 33) (fun _ => zq_iand dJ6_bitCount_0f7a4_32 rfl) ?_
  refine zx_istore_n (pc' := 34) (ls' := fun x3 => [.int x3]) rfl (by decide) rfl (fun _ => rfl) dJ6_bitCount_0f7a4_33 rfl (fun x3 => ?_)
  refine zx_lift (pc' := 35) (fun _ => zq_iload_n rfl rfl dJ6_bitCount_0f7a4_34 rfl) ?_
  refine zx_lift (pc' := 36) (fun _ => zq_iload_n rfl rfl dJ6_bitCount_0f7a4_35 rfl) ?_
  refine zx_lift (pc' := 38) (fun _ => zq_bipush (v := 8) dJ6_bitCount_0f7a4_36 rfl rfl) ?_
  refine zx_lift (pc' := 39) (fun _ => zq_iushr dJ6_bitCount_0f7a4_38 rfl) ?_
  refine zx_lift (pc' := 40) (fun _ => zq_iadd dJ6_bitCount_0f7a4_39 rfl) ?_
  refine zx_istore_n (pc' := 41) (ls' := fun x4 => [.int x4]) rfl (by decide) rfl (fun _ => rfl) dJ6_bitCount_0f7a4_40 rfl (fun x4 => ?_)
  refine zx_lift (pc' := 42) (fun _ => zq_iload_n rfl rfl dJ6_bitCount_0f7a4_41 rfl) ?_
  refine zx_lift (pc' := 43) (fun _ => zq_iload_n rfl rfl dJ6_bitCount_0f7a4_42 rfl) ?_
  refine zx_lift (pc' := 45) (fun _ => zq_bipush (v := 16) dJ6_bitCount_0f7a4_43 rfl rfl) ?_
  refine zx_lift (pc' := 46) (fun _ => zq_iushr dJ6_bitCount_0f7a4_45 rfl) ?_
  refine zx_lift (pc' := 47) (fun _ => zq_iadd dJ6_bitCount_0f7a4_46 rfl) ?_
  refine zx_istore_n (pc' := 48) (ls' := fun x5 => [.int x5]) rfl (by decide) rfl (fun _ => rfl) dJ6_bitCount_0f7a4_47 rfl (fun x5 => ?_)
  refine zx_lift (pc' := 49) (fun _ => zq_iload_n rfl rfl dJ6_bitCount_0f7a4_48 rfl) ?_
  refine zx_lift (pc' := 51) (fun _ => zq_bipush (v := 63) dJ6_bitCount_0f7a4_49 rfl rfl) ?_
  refine zx_lift (pc' := 52) (fun _ => zq_iand dJ6_bitCount_0f7a4_51 rfl) ?_
  exact zx_iret rfl dJ6_bitCount_0f7a4_52
theorem cJ6_bitCount_0f7a4_mc (N : Nat)  (p0 : Int32) (s : zq_S) (v : Int32 × zq_S) (h : mJ6_bitCount_0f7a4 N p0 s = some v) : zq_MC yJ6_bitCount_0f7a4 cJ6_bitCount_0f7a4 1 (some .int) ⟨0, 0, 0, 0⟩ 0 0 [.int p0] (zq_en s) (zv_i v.1, zq_en v.2) := zq_MC_x [.int p0] (by decide +kernel) rfl rfl (Nat.le_of_ble_eq_true rfl) (xJ6_bitCount_0f7a4 N p0 s) h
def bX3_inksInUse_4 (N : Nat)    (self : Int32 × Int32 × zq_S → Option (Int32 × zq_S)) (v : Int32 × Int32 × zq_S) : Option (Int32 × zq_S) :=
  if (zgf v.2.2 (zs (zgb v.2.2 3)) 7) ≤ v.2.1 then
  zq_b2 (mJ6_bitCount_0f7a4 N v.1 v.2.2) (fun r1 s2 =>
  some (r1, s2))
  else
  zq_ck v.2.1 10 (
  zq_let (v.1 ||| ((1 : Int32) <<< ((zga v.2.2 32 v.2.1) &&& 31))) (fun x3 =>
  zq_let (v.2.1 + (1 : Int32)) (fun x4 =>
  self (x3, x4, v.2.2))))
set_option maxRecDepth 20000 in
set_option maxHeartbeats 2000000 in
theorem xX3_inksInUse_4 (N : Nat)    (self : Int32 × Int32 × zq_S → Option (Int32 × zq_S)) (hself : ∀ v, zq_X yX3_inksInUse RX3 cX3_inksInUse 3 (some .int) ⟨1, 0, 0, 20⟩ zv_i 4 [.ref 31, .int v.1, .int v.2.1] [] v.2.2 (self v)) (v : Int32 × Int32 × zq_S) : zq_X yX3_inksInUse RX3 cX3_inksInUse 3 (some .int) ⟨1, 0, 0, 20⟩ zv_i 4 [.ref 31, .int v.1, .int v.2.1] [] v.2.2 (bX3_inksInUse_4 N self v) := by
  unfold bX3_inksInUse_4
  refine zx_lift (pc' := 5) (fun _ => zq_iload_n rfl rfl dX3_inksInUse_4 rfl) ?_
  refine zx_lift (pc' := 6) (fun _ => zq_aload_n rfl rfl dX3_inksInUse_5 rfl) ?_
  refine zx_lift (pc' := 9) (fun _ => zt_getP zfr_X3_34 zfd_31_0 dX3_inksInUse_6 rfl) ?_
  refine zx_lift (pc' := 12) (fun _ => zt_getI zfr_X3_48 (zfd_s_7 (zgb v.2.2 3)) dX3_inksInUse_9 rfl) ?_
  refine zx_icmp_ge (pc' := 15) (tgt := 32) dX3_inksInUse_12 rfl rfl (fun hc => ?_) (fun hc => ?_)
  · refine zx_lift (pc' := 33) (fun _ => zq_iload_n rfl rfl dX3_inksInUse_32 rfl) ?_
    refine zx_cSi (pc' := 36) zcs_X3_69 (cJ6_bitCount_0f7a4_mc N v.1 v.2.2) rfl (by decide) (Nat.le_of_ble_eq_true rfl) dX3_inksInUse_33 rfl rfl (fun r1 s2 => ?_)
    exact zx_iret rfl dX3_inksInUse_36
  · refine zx_lift (pc' := 16) (fun _ => zq_iload_n rfl rfl dX3_inksInUse_15 rfl) ?_
    refine zx_lift (pc' := 17) (fun _ => zq_iconst (v := 1) dX3_inksInUse_16 rfl rfl) ?_
    refine zx_lift (pc' := 18) (fun _ => zq_aload_n rfl rfl dX3_inksInUse_17 rfl) ?_
    refine zx_lift (pc' := 21) (fun _ => zt_getR zfr_X3_9 zfd_31_1 dX3_inksInUse_18 rfl) ?_
    refine zx_lift (pc' := 22) (fun _ => zq_iload_n rfl rfl dX3_inksInUse_21 rfl) ?_
    refine zx_iaload (pc' := 23) zsh_32 dX3_inksInUse_22 rfl ?_
    refine zx_lift (pc' := 24) (fun _ => zq_ishl dX3_inksInUse_23 rfl) ?_
    refine zx_lift (pc' := 25) (fun _ => zq_ior dX3_inksInUse_24 rfl) ?_
    refine zx_istore_n (pc' := 26) (ls' := fun x3 => [.ref 31, .int x3, .int v.2.1]) rfl (by decide) rfl (fun _ => rfl) dX3_inksInUse_25 rfl (fun x3 => ?_)
    refine zx_iinc (pc' := 29) (ls' := fun x4 => [.ref 31, .int x3, .int x4]) rfl rfl (by decide) rfl (fun _ => rfl) dX3_inksInUse_26 rfl (fun x4 => ?_)
    refine zx_lift (pc' := 4) (fun _ => zq_goto dX3_inksInUse_29 rfl) ?_
    exact hself (x3, x4, v.2.2)
theorem yX3_inksInUse_4 (N : Nat)    (n : Nat) : ∀ v : Int32 × Int32 × zq_S, zq_X yX3_inksInUse RX3 cX3_inksInUse 3 (some .int) ⟨1, 0, 0, 20⟩ zv_i 4 [.ref 31, .int v.1, .int v.2.1] [] v.2.2 (zq_loop (bX3_inksInUse_4 N ) n v) := by
  induction n with
  | zero => exact fun v u hu => by cases hu
  | succ n ih =>
    intro v
    rw [zq_loop_s]
    exact xX3_inksInUse_4 N  (zq_loop (bX3_inksInUse_4 N ) n) ih v
def mX3_inksInUse (N : Nat)   (s : zq_S) : Option (Int32 × zq_S) :=
  zq_loop (bX3_inksInUse_4 N ) N ((0 : Int32), (0 : Int32), s)
set_option maxRecDepth 20000 in
set_option maxHeartbeats 2000000 in
theorem xX3_inksInUse (N : Nat)   (s : zq_S) : zq_X yX3_inksInUse RX3 cX3_inksInUse 3 (some .int) ⟨1, 0, 0, 20⟩ zv_i 0 [.ref 31, .null, .null] [] s (mX3_inksInUse N s) := by
  unfold mX3_inksInUse
  refine zx_lift (pc' := 1) (fun _ => zq_iconst (v := 0) dX3_inksInUse_0 rfl rfl) ?_
  refine zx_lift (pc' := 2) (fun _ => zq_istore_n (ls' := [.ref 31, .int (0 : Int32), .null]) rfl (by decide) rfl rfl dX3_inksInUse_1 rfl) ?_
  refine zx_lift (pc' := 3) (fun _ => zq_iconst (v := 0) dX3_inksInUse_2 rfl rfl) ?_
  refine zx_lift (pc' := 4) (fun _ => zq_istore_n (ls' := [.ref 31, .int (0 : Int32), .int (0 : Int32)]) rfl (by decide) rfl rfl dX3_inksInUse_3 rfl) ?_
  refine yX3_inksInUse_4 N  N ((0 : Int32), (0 : Int32), s)
theorem cX3_inksInUse_mc (N : Nat)   (s : zq_S) (v : Int32 × zq_S) (h : mX3_inksInUse N s = some v) : zq_MC yX3_inksInUse cX3_inksInUse 3 (some .int) ⟨1, 0, 0, 20⟩ 0 0 [.ref 31] (zq_en s) (zv_i v.1, zq_en v.2) := zq_MC_x [.ref 31, .null, .null] (by decide +kernel) rfl rfl (Nat.le_of_ble_eq_true rfl) (xX3_inksInUse N s) h
def mX6_breaksBehind (N : Nat)  (p1 : Int32) (s : zq_S) : Option (Int64 × zq_S) :=
  zq_b2 (mX9_with N p1 s) (fun r1 s2 =>
  zq_b2 (mX0_breaksIn N false p1 s2) (fun r3 s4 =>
  some ((Int32.toInt64 r3), s4)))
set_option maxRecDepth 20000 in
set_option maxHeartbeats 2000000 in
theorem xX6_breaksBehind (N : Nat)  (p1 : Int32) (s : zq_S) : zq_X yX6_breaksBehind RX6 cX6_breaksBehind 2 (some .long) ⟨3, 0, 0, 71⟩ zv_l 0 [.ref 46, .int p1] [] s (mX6_breaksBehind N p1 s) := by
  unfold mX6_breaksBehind
  refine zx_lift (pc' := 1) (fun _ => zq_aload_n rfl rfl dX6_breaksBehind_0 rfl) ?_
  refine zx_lift (pc' := 4) (fun _ => zt_getR zfr_X6_31 zfd_46_2 dX6_breaksBehind_1 rfl) ?_
  refine zx_lift (pc' := 5) (fun _ => zq_aload_n rfl rfl dX6_breaksBehind_4 rfl) ?_
  refine zx_lift (pc' := 8) (fun _ => zt_getR zfr_X6_27 zfd_46_1 dX6_breaksBehind_5 rfl) ?_
  refine zx_lift (pc' := 9) (fun _ => zq_iload_n rfl rfl dX6_breaksBehind_8 rfl) ?_
  refine zx_cVw (pc' := 12) zcv_X6_86 (cX9_with_mc N p1 s) zob_38 rfl (by decide) (Nat.le_of_ble_eq_true rfl) dX6_breaksBehind_9 rfl rfl (fun r1 s2 => ?_)
  refine zx_lift (pc' := 13) (fun _ => zq_iload_n rfl rfl dX6_breaksBehind_12 rfl) ?_
  refine zx_cVi (pc' := 16) zcv_X6_92 (cX0_breaksIn_mc N false p1 s2) zob_42 rfl (by decide) (Nat.le_of_ble_eq_true rfl) dX6_breaksBehind_13 rfl rfl (fun r3 s4 => ?_)
  refine zx_lift (pc' := 17) (fun _ => zq_i2l dX6_breaksBehind_16 rfl) ?_
  exact zx_lret rfl dX6_breaksBehind_17
theorem cX6_breaksBehind_mc (N : Nat)  (p1 : Int32) (s : zq_S) (v : Int64 × zq_S) (h : mX6_breaksBehind N p1 s = some v) : zq_MC yX6_breaksBehind cX6_breaksBehind 2 (some .long) ⟨3, 0, 0, 71⟩ 0 0 [.ref 46, .int p1] (zq_en s) (zv_l v.1, zq_en v.2) := zq_MC_x [.ref 46, .int p1] (by decide +kernel) rfl rfl (Nat.le_of_ble_eq_true rfl) (xX6_breaksBehind N p1 s) h
def mJ9_min_f86c9 (N : Nat)  (p0 : Int64) (p2 : Int64) (s : zq_S) : Option (Int64 × zq_S) :=
  zq_let (if (0 : Int32) < (lg_cmp p0 p2) then p2 else p0) (fun x1 =>
  some (x1, s))
set_option maxRecDepth 20000 in
set_option maxHeartbeats 2000000 in
theorem xJ9_min_f86c9 (N : Nat)  (p0 : Int64) (p2 : Int64) (s : zq_S) : zq_X yJ9_min_f86c9 RJ9 cJ9_min_f86c9 4 (some .long) ⟨0, 0, 0, 0⟩ zv_l 0 [.long p0, .null, .long p2, .null] [] s (mJ9_min_f86c9 N p0 p2 s) := by
  unfold mJ9_min_f86c9
  refine zx_lift (pc' := 1) (fun _ => zq_lload_n rfl rfl dJ9_min_f86c9_0 rfl) ?_
  refine zx_lift (pc' := 2) (fun _ => zq_lload_n rfl rfl dJ9_min_f86c9_1 rfl) ?_
  refine zx_lift (pc' := 3) (fun _ => zq_lcmp dJ9_min_f86c9_2 rfl) ?_
  refine zx_tern (pcJ := 11) (lsJ := fun x1 => [.null, .null, .null, .null]) (stJ := fun x1 => [.long x1]) (fun x1 => ?_) (fun f hJ => ?_)
  rotate_left
  · refine zx_lif_gt (pc' := 6) (tgt := 10) dJ9_min_f86c9_3 rfl rfl (fun _ => ?_) (fun _ => ?_)
    · refine zx_lift (pc' := 11) (fun _ => zq_lload_n rfl rfl dJ9_min_f86c9_10 rfl) ?_
      exact zx_lessJ (zq_cz (zq_cz (zq_cz (zq_cz zq_cn)))) (hJ _)
    · refine zx_lift (pc' := 7) (fun _ => zq_lload_n rfl rfl dJ9_min_f86c9_6 rfl) ?_
      refine zx_lift (pc' := 11) (fun _ => zq_goto dJ9_min_f86c9_7 rfl) ?_
      exact zx_lessJ (zq_cz (zq_cz (zq_cz (zq_cz zq_cn)))) (hJ _)
  exact zx_lret rfl dJ9_min_f86c9_11
theorem cJ9_min_f86c9_mc (N : Nat)  (p0 : Int64) (p2 : Int64) (s : zq_S) (v : Int64 × zq_S) (h : mJ9_min_f86c9 N p0 p2 s = some v) : zq_MC yJ9_min_f86c9 cJ9_min_f86c9 4 (some .long) ⟨0, 0, 0, 0⟩ 0 0 [.long p0, .long p2] (zq_en s) (zv_l v.1, zq_en v.2) := zq_MC_xF [.long p0, .null, .long p2, .null] (by decide +kernel) rfl rfl (Nat.le_of_ble_eq_true rfl) (xJ9_min_f86c9 N p0 p2 s) h
def jX6_cheapest_j101 (N : Nat)  (f1 : Int32) (f4 : Int32)  (self : Int64 × Int32 × zq_S → Option (Int64 × zq_S)) (w2 : Int64) (w5 : Int32) (s : zq_S) : Option (Int64 × zq_S) :=
  zq_let (w5 + (1 : Int32)) (fun x4 =>
  self (w2, x4, s))
set_option maxRecDepth 20000 in
set_option maxHeartbeats 2000000 in
theorem xX6_cheapest_j101_j (N : Nat)  (f1 : Int32) (f4 : Int32)  (self : Int64 × Int32 × zq_S → Option (Int64 × zq_S)) (hself : ∀ v, zq_X yX6_cheapest RX6 cX6_cheapest 7 (some .long) ⟨1, 0, 0, 24⟩ zv_l 27 [.ref 46, .int f1, .long v.1, .null, .int f4, .int v.2.1, .null] [] v.2.2 (self v)) (w2 : Int64) (w5 : Int32) (s : zq_S) : zq_X yX6_cheapest RX6 cX6_cheapest 7 (some .long) ⟨1, 0, 0, 24⟩ zv_l 101 [.ref 46, .int f1, .long w2, .null, .int f4, .int w5, .null] [] s (jX6_cheapest_j101 N f1 f4 self w2 w5 s) := by
  unfold jX6_cheapest_j101
  refine zx_iinc (pc' := 104) (ls' := fun x4 => [.ref 46, .int f1, .long w2, .null, .int f4, .int x4, .null]) rfl rfl (by decide) rfl (fun _ => rfl) dX6_cheapest_101 rfl (fun x4 => ?_)
  refine zx_lift (pc' := 27) (fun _ => zq_goto dX6_cheapest_104 rfl) ?_
  exact hself (w2, x4, s)
def bX6_cheapest_27 (N : Nat)  (f1 : Int32) (f4 : Int32)  (self : Int64 × Int32 × zq_S → Option (Int64 × zq_S)) (v : Int64 × Int32 × zq_S) : Option (Int64 × zq_S) :=
  if (10 : Int32) ≤ v.2.1 then
  some (v.1, v.2.2)
  else
  if ((f4 >>> (v.2.1 &&& 31)) &&& (1 : Int32)) = (0 : Int32) then
  jX6_cheapest_j101 N f1 f4 self v.1 v.2.1 v.2.2
  else
  zq_ck v.2.1 10 (
  zq_let (zga v.2.2 32 v.2.1) (fun x5 =>
  zq_ck x5 4 (
  zq_ck (((4 : Int32) * (f1 ||| ((1 : Int32) <<< (v.2.1 &&& 31)))) + x5) 4096 (
  zq_b2 (mJ9_min_f86c9 N (zgl v.2.2 48 x5) (zgl v.2.2 1 (((4 : Int32) * (f1 ||| ((1 : Int32) <<< (v.2.1 &&& 31)))) + x5)) v.2.2) (fun r6 s7 =>
  zq_ck x5 4 (
  zq_let (zpl s7 48 x5 r6) (fun s8 =>
  zq_ck x5 4 (
  zq_b2 (mJ9_min_f86c9 N v.1 (zgl s8 48 x5) s8) (fun r9 s10 =>
  jX6_cheapest_j101 N f1 f4 self r9 v.2.1 s10)))))))))
set_option maxRecDepth 20000 in
set_option maxHeartbeats 2000000 in
theorem xX6_cheapest_27 (N : Nat)  (f1 : Int32) (f4 : Int32)  (self : Int64 × Int32 × zq_S → Option (Int64 × zq_S)) (hself : ∀ v, zq_X yX6_cheapest RX6 cX6_cheapest 7 (some .long) ⟨1, 0, 0, 24⟩ zv_l 27 [.ref 46, .int f1, .long v.1, .null, .int f4, .int v.2.1, .null] [] v.2.2 (self v)) (v : Int64 × Int32 × zq_S) : zq_X yX6_cheapest RX6 cX6_cheapest 7 (some .long) ⟨1, 0, 0, 24⟩ zv_l 27 [.ref 46, .int f1, .long v.1, .null, .int f4, .int v.2.1, .null] [] v.2.2 (bX6_cheapest_27 N f1 f4 self v) := by
  unfold bX6_cheapest_27
  refine zx_lift (pc' := 29) (fun _ => zq_iload rfl dX6_cheapest_27 rfl) ?_
  refine zx_lift (pc' := 31) (fun _ => zq_bipush (v := 10) dX6_cheapest_29 rfl rfl) ?_
  refine zx_icmp_ge (pc' := 34) (tgt := 107) dX6_cheapest_31 rfl rfl (fun hc => ?_) (fun hc => ?_)
  · refine zx_lift (pc' := 108) (fun _ => zq_lload_n rfl rfl dX6_cheapest_107 rfl) ?_
    exact zx_lret rfl dX6_cheapest_108
  · refine zx_lift (pc' := 36) (fun _ => zq_iload rfl dX6_cheapest_34 rfl) ?_
    refine zx_lift (pc' := 38) (fun _ => zq_iload rfl dX6_cheapest_36 rfl) ?_
    refine zx_lift (pc' := 39) (fun _ => zq_ishr dX6_cheapest_38 rfl) ?_
    refine zx_lift (pc' := 40) (fun _ => zq_iconst (v := 1) dX6_cheapest_39 rfl rfl) ?_
    refine zx_lift (pc' := 41) (fun _ => zq_iand dX6_cheapest_40 rfl) ?_
    refine zx_if_eq (pc' := 44) (tgt := 101) dX6_cheapest_41 rfl rfl (fun hc => ?_) (fun hc => ?_)
    · exact xX6_cheapest_j101_j N f1 f4 self hself v.1 v.2.1 v.2.2
    · refine zx_lift (pc' := 45) (fun _ => zq_aload_n rfl rfl dX6_cheapest_44 rfl) ?_
      refine zx_lift (pc' := 48) (fun _ => zt_getR zfr_X6_23 zfd_46_0 dX6_cheapest_45 rfl) ?_
      refine zx_lift (pc' := 51) (fun _ => zt_getR zfr_X6_109 zfd_31_1 dX6_cheapest_48 rfl) ?_
      refine zx_lift (pc' := 53) (fun _ => zq_iload rfl dX6_cheapest_51 rfl) ?_
      refine zx_iaload (pc' := 54) zsh_32 dX6_cheapest_53 rfl ?_
      refine zx_istore (pc' := 56) (ls' := fun x5 => [.ref 46, .int f1, .long v.1, .null, .int f4, .int v.2.1, .int x5]) (by decide) rfl (fun _ => rfl) dX6_cheapest_54 rfl (fun x5 => ?_)
      refine zx_lift (pc' := 57) (fun _ => zq_aload_n rfl rfl dX6_cheapest_56 rfl) ?_
      refine zx_lift (pc' := 60) (fun _ => zt_getR zfr_X6_15 zfd_46_5 dX6_cheapest_57 rfl) ?_
      refine zx_lift (pc' := 62) (fun _ => zq_iload rfl dX6_cheapest_60 rfl) ?_
      refine zx_lift (pc' := 63) (fun _ => zq_aload_n rfl rfl dX6_cheapest_62 rfl) ?_
      refine zx_lift (pc' := 66) (fun _ => zt_getR zfr_X6_15 zfd_46_5 dX6_cheapest_63 rfl) ?_
      refine zx_lift (pc' := 68) (fun _ => zq_iload rfl dX6_cheapest_66 rfl) ?_
      refine zx_laload (pc' := 69) zsh_48 dX6_cheapest_68 rfl ?_
      refine zx_lift (pc' := 70) (fun _ => zq_aload_n rfl rfl dX6_cheapest_69 rfl) ?_
      refine zx_lift (pc' := 73) (fun _ => zt_getR zfr_X6_35 zfd_46_3 dX6_cheapest_70 rfl) ?_
      refine zx_lift (pc' := 74) (fun _ => zq_iconst (v := 4) dX6_cheapest_73 rfl rfl) ?_
      refine zx_lift (pc' := 75) (fun _ => zq_iload_n rfl rfl dX6_cheapest_74 rfl) ?_
      refine zx_lift (pc' := 76) (fun _ => zq_iconst (v := 1) dX6_cheapest_75 rfl rfl) ?_
      refine zx_lift (pc' := 78) (fun _ => zq_iload rfl dX6_cheapest_76 rfl) ?_
      refine zx_lift (pc' := 79) (fun _ => zq_ishl dX6_cheapest_78 rfl) ?_
      refine zx_lift (pc' := 80) (fun _ => zq_ior dX6_cheapest_79 rfl) ?_
      refine zx_lift (pc' := 81) (fun _ => zq_imul dX6_cheapest_80 rfl) ?_
      refine zx_lift (pc' := 83) (fun _ => zq_iload rfl dX6_cheapest_81 rfl) ?_
      refine zx_lift (pc' := 84) (fun _ => zq_iadd dX6_cheapest_83 rfl) ?_
      refine zx_laload (pc' := 85) zsh_1 dX6_cheapest_84 rfl ?_
      refine zx_cSl (pc' := 88) zcs_X6_80 (cJ9_min_f86c9_mc N (zgl v.2.2 48 x5) (zgl v.2.2 1 (((4 : Int32) * (f1 ||| ((1 : Int32) <<< (v.2.1 &&& 31)))) + x5)) v.2.2) rfl (by decide) (Nat.le_of_ble_eq_true rfl) dX6_cheapest_85 rfl rfl (fun r6 s7 => ?_)
      refine zx_lastore (pc' := 89) zsh_48 dX6_cheapest_88 rfl (fun s8 => ?_)
      refine zx_lift (pc' := 90) (fun _ => zq_lload_n rfl rfl dX6_cheapest_89 rfl) ?_
      refine zx_lift (pc' := 91) (fun _ => zq_aload_n rfl rfl dX6_cheapest_90 rfl) ?_
      refine zx_lift (pc' := 94) (fun _ => zt_getR zfr_X6_15 zfd_46_5 dX6_cheapest_91 rfl) ?_
      refine zx_lift (pc' := 96) (fun _ => zq_iload rfl dX6_cheapest_94 rfl) ?_
      refine zx_laload (pc' := 97) zsh_48 dX6_cheapest_96 rfl ?_
      refine zx_cSl (pc' := 100) zcs_X6_80 (cJ9_min_f86c9_mc N v.1 (zgl s8 48 x5) s8) rfl (by decide) (Nat.le_of_ble_eq_true rfl) dX6_cheapest_97 rfl rfl (fun r9 s10 => ?_)
      refine zx_lift (pc' := 101) (fun _ => zq_lstore_n (ls' := [.ref 46, .int f1, .long r9, .null, .int f4, .int v.2.1, .int x5]) rfl (by decide) rfl rfl dX6_cheapest_100 rfl) ?_
      refine zx_less [.ref 46, .int f1, .long r9, .null, .int f4, .int v.2.1, .null] (zq_cr (zq_cr (zq_cr (zq_cz (zq_cr (zq_cr (zq_cz zq_cn))))))) ?_
      exact xX6_cheapest_j101_j N f1 f4 self hself r9 v.2.1 s10
theorem yX6_cheapest_27 (N : Nat)  (f1 : Int32) (f4 : Int32)  (n : Nat) : ∀ v : Int64 × Int32 × zq_S, zq_X yX6_cheapest RX6 cX6_cheapest 7 (some .long) ⟨1, 0, 0, 24⟩ zv_l 27 [.ref 46, .int f1, .long v.1, .null, .int f4, .int v.2.1, .null] [] v.2.2 (zq_loop (bX6_cheapest_27 N f1 f4 ) n v) := by
  induction n with
  | zero => exact fun v u hu => by cases hu
  | succ n ih =>
    intro v
    rw [zq_loop_s]
    exact xX6_cheapest_27 N f1 f4  (zq_loop (bX6_cheapest_27 N f1 f4 ) n) ih v
def mX6_cheapest (N : Nat)  (p1 : Int32) (s : zq_S) : Option (Int64 × zq_S) :=
  zq_let (zpfl s 48 4 (1000000 : Int64)) (fun s1 =>
  zq_b2 (mX3_following N p1 s1) (fun r2 s3 =>
  zq_loop (bX6_cheapest_27 N p1 r2 ) N ((1000000 : Int64), (0 : Int32), s3)))
set_option maxRecDepth 20000 in
set_option maxHeartbeats 2000000 in
theorem xX6_cheapest (N : Nat)  (p1 : Int32) (s : zq_S) : zq_X yX6_cheapest RX6 cX6_cheapest 7 (some .long) ⟨1, 0, 0, 24⟩ zv_l 0 [.ref 46, .int p1, .null, .null, .null, .null, .null] [] s (mX6_cheapest N p1 s) := by
  unfold mX6_cheapest
  refine zx_lift (pc' := 1) (fun _ => zq_aload_n rfl rfl dX6_cheapest_0 rfl) ?_
  refine zx_lift (pc' := 4) (fun _ => zt_getR zfr_X6_15 zfd_46_5 dX6_cheapest_1 rfl) ?_
  refine zx_lift (pc' := 7) (fun _ => zq_ldc2 zk_X6_98 dX6_cheapest_4 rfl) ?_
  refine zx_fillL (pc' := 10) zcs_X6_100 zsh_48 ⟨by decide, by decide, Nat.le_of_ble_eq_true rfl⟩ dX6_cheapest_7 rfl (fun s1 => ?_)
  refine zx_lift (pc' := 13) (fun _ => zq_ldc2 zk_X6_98 dX6_cheapest_10 rfl) ?_
  refine zx_lift (pc' := 14) (fun _ => zq_lstore_n (ls' := [.ref 46, .int p1, .long (1000000 : Int64), .null, .null, .null, .null]) rfl (by decide) rfl rfl dX6_cheapest_13 rfl) ?_
  refine zx_lift (pc' := 15) (fun _ => zq_aload_n rfl rfl dX6_cheapest_14 rfl) ?_
  refine zx_lift (pc' := 18) (fun _ => zt_getR zfr_X6_23 zfd_46_0 dX6_cheapest_15 rfl) ?_
  refine zx_lift (pc' := 19) (fun _ => zq_iload_n rfl rfl dX6_cheapest_18 rfl) ?_
  refine zx_cVi (pc' := 22) zcv_X6_106 (cX3_following_mc N p1 s1) zob_31 rfl (by decide) (Nat.le_of_ble_eq_true rfl) dX6_cheapest_19 rfl rfl (fun r2 s3 => ?_)
  refine zx_lift (pc' := 24) (fun _ => zq_istore (ls' := [.ref 46, .int p1, .long (1000000 : Int64), .null, .int r2, .null, .null]) (by decide) rfl rfl dX6_cheapest_22 rfl) ?_
  refine zx_lift (pc' := 25) (fun _ => zq_iconst (v := 0) dX6_cheapest_24 rfl rfl) ?_
  refine zx_lift (pc' := 27) (fun _ => zq_istore (ls' := [.ref 46, .int p1, .long (1000000 : Int64), .null, .int r2, .int (0 : Int32), .null]) (by decide) rfl rfl dX6_cheapest_25 rfl) ?_
  refine yX6_cheapest_27 N p1 r2  N ((1000000 : Int64), (0 : Int32), s3)
theorem cX6_cheapest_mc (N : Nat)  (p1 : Int32) (s : zq_S) (v : Int64 × zq_S) (h : mX6_cheapest N p1 s = some v) : zq_MC yX6_cheapest cX6_cheapest 7 (some .long) ⟨1, 0, 0, 24⟩ 0 0 [.ref 46, .int p1] (zq_en s) (zv_l v.1, zq_en v.2) := zq_MC_x [.ref 46, .int p1, .null, .null, .null, .null, .null] (by decide +kernel) rfl rfl (Nat.le_of_ble_eq_true rfl) (xX6_cheapest N p1 s) h
def jX6_fillCosts_j43 (N : Nat)  (f1 : Int32) (f2 : Int32) (k50 : zq_S → Option (Int64 × zq_S)) (self : Int32 × zq_S → Option (Int64 × zq_S)) (w3 : Int32) (t0 : Int64) (t1 : Int32) (s : zq_S) : Option (Int64 × zq_S) :=
  zq_ck t1 4096 (
  zq_let (zpl s 1 t1 t0) (fun s3 =>
  zq_let (w3 + (1 : Int32)) (fun x4 =>
  self (x4, s3))))
set_option maxRecDepth 20000 in
set_option maxHeartbeats 2000000 in
theorem xX6_fillCosts_j43_j (N : Nat)  (f1 : Int32) (f2 : Int32) (k50 : zq_S → Option (Int64 × zq_S)) (hk50 : ∀ e, zq_X yX6_fillCosts RX6 cX6_fillCosts 8 (some .long) ⟨4, 0, 0, 92⟩ zv_l 50 [.ref 46, .int f1, .null, .null, .null, .null, .null, .null] [] e (k50 e)) (self : Int32 × zq_S → Option (Int64 × zq_S)) (hself : ∀ v, zq_X yX6_fillCosts RX6 cX6_fillCosts 8 (some .long) ⟨4, 0, 0, 92⟩ zv_l 16 [.ref 46, .int f1, .int f2, .int v.1, .null, .null, .null, .null] [] v.2 (self v)) (w3 : Int32) (t0 : Int64) (t1 : Int32) (s : zq_S) : zq_X yX6_fillCosts RX6 cX6_fillCosts 8 (some .long) ⟨4, 0, 0, 92⟩ zv_l 43 [.ref 46, .int f1, .int f2, .int w3, .null, .null, .null, .null] [.long t0, .int t1, .ref 1] s (jX6_fillCosts_j43 N f1 f2 k50 self w3 t0 t1 s) := by
  unfold jX6_fillCosts_j43
  refine zx_lastore (pc' := 44) zsh_1 dX6_fillCosts_43 rfl (fun s3 => ?_)
  refine zx_iinc (pc' := 47) (ls' := fun x4 => [.ref 46, .int f1, .int f2, .int x4, .null, .null, .null, .null]) rfl rfl (by decide) rfl (fun _ => rfl) dX6_fillCosts_44 rfl (fun x4 => ?_)
  refine zx_lift (pc' := 16) (fun _ => zq_goto dX6_fillCosts_47 rfl) ?_
  exact hself (x4, s3)
def bX6_fillCosts_16 (N : Nat)  (f1 : Int32) (f2 : Int32) (k50 : zq_S → Option (Int64 × zq_S)) (self : Int32 × zq_S → Option (Int64 × zq_S)) (v : Int32 × zq_S) : Option (Int64 × zq_S) :=
  if (4 : Int32) ≤ v.1 then
  k50 v.2
  else
  if f1 = (0 : Int32) then
  jX6_fillCosts_j43 N f1 f2 k50 self v.1 (0 : Int64) (((4 : Int32) * f2) + v.1) v.2
  else
  zq_b2 (mX6_breaksBehind N f2 v.2) (fun r5 s6 =>
  jX6_fillCosts_j43 N f1 f2 k50 self v.1 r5 (((4 : Int32) * f2) + v.1) s6)
set_option maxRecDepth 20000 in
set_option maxHeartbeats 2000000 in
theorem xX6_fillCosts_16 (N : Nat)  (f1 : Int32) (f2 : Int32) (k50 : zq_S → Option (Int64 × zq_S)) (hk50 : ∀ e, zq_X yX6_fillCosts RX6 cX6_fillCosts 8 (some .long) ⟨4, 0, 0, 92⟩ zv_l 50 [.ref 46, .int f1, .null, .null, .null, .null, .null, .null] [] e (k50 e)) (self : Int32 × zq_S → Option (Int64 × zq_S)) (hself : ∀ v, zq_X yX6_fillCosts RX6 cX6_fillCosts 8 (some .long) ⟨4, 0, 0, 92⟩ zv_l 16 [.ref 46, .int f1, .int f2, .int v.1, .null, .null, .null, .null] [] v.2 (self v)) (v : Int32 × zq_S) : zq_X yX6_fillCosts RX6 cX6_fillCosts 8 (some .long) ⟨4, 0, 0, 92⟩ zv_l 16 [.ref 46, .int f1, .int f2, .int v.1, .null, .null, .null, .null] [] v.2 (bX6_fillCosts_16 N f1 f2 k50 self v) := by
  unfold bX6_fillCosts_16
  refine zx_lift (pc' := 17) (fun _ => zq_iload_n rfl rfl dX6_fillCosts_16 rfl) ?_
  refine zx_lift (pc' := 18) (fun _ => zq_iconst (v := 4) dX6_fillCosts_17 rfl rfl) ?_
  refine zx_icmp_ge (pc' := 21) (tgt := 50) dX6_fillCosts_18 rfl rfl (fun hc => ?_) (fun hc => ?_)
  · refine zx_less [.ref 46, .int f1, .null, .null, .null, .null, .null, .null] (zq_cr (zq_cr (zq_cz (zq_cz (zq_cz (zq_cz (zq_cz (zq_cz zq_cn)))))))) ?_
    exact hk50 v.2
  · refine zx_lift (pc' := 22) (fun _ => zq_aload_n rfl rfl dX6_fillCosts_21 rfl) ?_
    refine zx_lift (pc' := 25) (fun _ => zt_getR zfr_X6_35 zfd_46_3 dX6_fillCosts_22 rfl) ?_
    refine zx_lift (pc' := 26) (fun _ => zq_iconst (v := 4) dX6_fillCosts_25 rfl rfl) ?_
    refine zx_lift (pc' := 27) (fun _ => zq_iload_n rfl rfl dX6_fillCosts_26 rfl) ?_
    refine zx_lift (pc' := 28) (fun _ => zq_imul dX6_fillCosts_27 rfl) ?_
    refine zx_lift (pc' := 29) (fun _ => zq_iload_n rfl rfl dX6_fillCosts_28 rfl) ?_
    refine zx_lift (pc' := 30) (fun _ => zq_iadd dX6_fillCosts_29 rfl) ?_
    refine zx_lift (pc' := 31) (fun _ => zq_iload_n rfl rfl dX6_fillCosts_30 rfl) ?_
    refine zx_if_eq (pc' := 34) (tgt := 42) dX6_fillCosts_31 rfl rfl (fun hc => ?_) (fun hc => ?_)
    · refine zx_lift (pc' := 43) (fun _ => zq_lconst (v := 0) dX6_fillCosts_42 rfl rfl) ?_
      exact xX6_fillCosts_j43_j N f1 f2 k50 hk50 self hself v.1 (0 : Int64) (((4 : Int32) * f2) + v.1) v.2
    · refine zx_lift (pc' := 35) (fun _ => zq_aload_n rfl rfl dX6_fillCosts_34 rfl) ?_
      refine zx_lift (pc' := 36) (fun _ => zq_iload_n rfl rfl dX6_fillCosts_35 rfl) ?_
      refine zx_cVl (pc' := 39) zcv_X6_66 (cX6_breaksBehind_mc N f2 v.2) zob_46 rfl (by decide) (Nat.le_of_ble_eq_true rfl) dX6_fillCosts_36 rfl rfl (fun r5 s6 => ?_)
      refine zx_lift (pc' := 43) (fun _ => zq_goto dX6_fillCosts_39 rfl) ?_
      exact xX6_fillCosts_j43_j N f1 f2 k50 hk50 self hself v.1 r5 (((4 : Int32) * f2) + v.1) s6
theorem yX6_fillCosts_16 (N : Nat)  (f1 : Int32) (f2 : Int32) (k50 : zq_S → Option (Int64 × zq_S)) (hk50 : ∀ e, zq_X yX6_fillCosts RX6 cX6_fillCosts 8 (some .long) ⟨4, 0, 0, 92⟩ zv_l 50 [.ref 46, .int f1, .null, .null, .null, .null, .null, .null] [] e (k50 e)) (n : Nat) : ∀ v : Int32 × zq_S, zq_X yX6_fillCosts RX6 cX6_fillCosts 8 (some .long) ⟨4, 0, 0, 92⟩ zv_l 16 [.ref 46, .int f1, .int f2, .int v.1, .null, .null, .null, .null] [] v.2 (zq_loop (bX6_fillCosts_16 N f1 f2 k50) n v) := by
  induction n with
  | zero => exact fun v u hu => by cases hu
  | succ n ih =>
    intro v
    rw [zq_loop_s]
    exact xX6_fillCosts_16 N f1 f2 k50 hk50 (zq_loop (bX6_fillCosts_16 N f1 f2 k50) n) ih v
def bX6_fillCosts_104 (N : Nat)  (f1 : Int32) (f3 : Int32) (f4 : Int32) (f5 : Int64) (k140 : zq_S → Option (Int64 × zq_S)) (self : Int32 × zq_S → Option (Int64 × zq_S)) (v : Int32 × zq_S) : Option (Int64 × zq_S) :=
  if (4 : Int32) ≤ v.1 then
  k140 v.2
  else
  zq_ck v.1 4 (
  zq_b2 (mJ9_min_f86c9 N (zgl v.2 48 v.1) f5 v.2) (fun r18 s19 =>
  zq_ck (((4 : Int32) * f4) + v.1) 4096 (
  zq_let (zpl s19 1 (((4 : Int32) * f4) + v.1) r18) (fun s20 =>
  zq_let (v.1 + (1 : Int32)) (fun x21 =>
  self (x21, s20))))))
set_option maxRecDepth 20000 in
set_option maxHeartbeats 2000000 in
theorem xX6_fillCosts_104 (N : Nat)  (f1 : Int32) (f3 : Int32) (f4 : Int32) (f5 : Int64) (k140 : zq_S → Option (Int64 × zq_S)) (hk140 : ∀ e, zq_X yX6_fillCosts RX6 cX6_fillCosts 8 (some .long) ⟨4, 0, 0, 92⟩ zv_l 140 [.ref 46, .int f1, .null, .int f3, .null, .null, .null, .null] [] e (k140 e)) (self : Int32 × zq_S → Option (Int64 × zq_S)) (hself : ∀ v, zq_X yX6_fillCosts RX6 cX6_fillCosts 8 (some .long) ⟨4, 0, 0, 92⟩ zv_l 104 [.ref 46, .int f1, .null, .int f3, .int f4, .long f5, .null, .int v.1] [] v.2 (self v)) (v : Int32 × zq_S) : zq_X yX6_fillCosts RX6 cX6_fillCosts 8 (some .long) ⟨4, 0, 0, 92⟩ zv_l 104 [.ref 46, .int f1, .null, .int f3, .int f4, .long f5, .null, .int v.1] [] v.2 (bX6_fillCosts_104 N f1 f3 f4 f5 k140 self v) := by
  unfold bX6_fillCosts_104
  refine zx_lift (pc' := 106) (fun _ => zq_iload rfl dX6_fillCosts_104 rfl) ?_
  refine zx_lift (pc' := 107) (fun _ => zq_iconst (v := 4) dX6_fillCosts_106 rfl rfl) ?_
  refine zx_icmp_ge (pc' := 110) (tgt := 140) dX6_fillCosts_107 rfl rfl (fun hc => ?_) (fun hc => ?_)
  · refine zx_less [.ref 46, .int f1, .null, .int f3, .null, .null, .null, .null] (zq_cr (zq_cr (zq_cz (zq_cr (zq_cz (zq_cz (zq_cz (zq_cz zq_cn)))))))) ?_
    exact hk140 v.2
  · refine zx_lift (pc' := 111) (fun _ => zq_aload_n rfl rfl dX6_fillCosts_110 rfl) ?_
    refine zx_lift (pc' := 114) (fun _ => zt_getR zfr_X6_35 zfd_46_3 dX6_fillCosts_111 rfl) ?_
    refine zx_lift (pc' := 115) (fun _ => zq_iconst (v := 4) dX6_fillCosts_114 rfl rfl) ?_
    refine zx_lift (pc' := 117) (fun _ => zq_iload rfl dX6_fillCosts_115 rfl) ?_
    refine zx_lift (pc' := 118) (fun _ => zq_imul dX6_fillCosts_117 rfl) ?_
    refine zx_lift (pc' := 120) (fun _ => zq_iload rfl dX6_fillCosts_118 rfl) ?_
    refine zx_lift (pc' := 121) (fun _ => zq_iadd dX6_fillCosts_120 rfl) ?_
    refine zx_lift (pc' := 122) (fun _ => zq_aload_n rfl rfl dX6_fillCosts_121 rfl) ?_
    refine zx_lift (pc' := 125) (fun _ => zt_getR zfr_X6_15 zfd_46_5 dX6_fillCosts_122 rfl) ?_
    refine zx_lift (pc' := 127) (fun _ => zq_iload rfl dX6_fillCosts_125 rfl) ?_
    refine zx_laload (pc' := 128) zsh_48 dX6_fillCosts_127 rfl ?_
    refine zx_lift (pc' := 130) (fun _ => zq_lload rfl dX6_fillCosts_128 rfl) ?_
    refine zx_cSl (pc' := 133) zcs_X6_80 (cJ9_min_f86c9_mc N (zgl v.2 48 v.1) f5 v.2) rfl (by decide) (Nat.le_of_ble_eq_true rfl) dX6_fillCosts_130 rfl rfl (fun r18 s19 => ?_)
    refine zx_lastore (pc' := 134) zsh_1 dX6_fillCosts_133 rfl (fun s20 => ?_)
    refine zx_iinc (pc' := 137) (ls' := fun x21 => [.ref 46, .int f1, .null, .int f3, .int f4, .long f5, .null, .int x21]) rfl rfl (by decide) rfl (fun _ => rfl) dX6_fillCosts_134 rfl (fun x21 => ?_)
    refine zx_lift (pc' := 104) (fun _ => zq_goto dX6_fillCosts_137 rfl) ?_
    exact hself (x21, s20)
theorem yX6_fillCosts_104 (N : Nat)  (f1 : Int32) (f3 : Int32) (f4 : Int32) (f5 : Int64) (k140 : zq_S → Option (Int64 × zq_S)) (hk140 : ∀ e, zq_X yX6_fillCosts RX6 cX6_fillCosts 8 (some .long) ⟨4, 0, 0, 92⟩ zv_l 140 [.ref 46, .int f1, .null, .int f3, .null, .null, .null, .null] [] e (k140 e)) (n : Nat) : ∀ v : Int32 × zq_S, zq_X yX6_fillCosts RX6 cX6_fillCosts 8 (some .long) ⟨4, 0, 0, 92⟩ zv_l 104 [.ref 46, .int f1, .null, .int f3, .int f4, .long f5, .null, .int v.1] [] v.2 (zq_loop (bX6_fillCosts_104 N f1 f3 f4 f5 k140) n v) := by
  induction n with
  | zero => exact fun v u hu => by cases hu
  | succ n ih =>
    intro v
    rw [zq_loop_s]
    exact xX6_fillCosts_104 N f1 f3 f4 f5 k140 hk140 (zq_loop (bX6_fillCosts_104 N f1 f3 f4 f5 k140) n) ih v
def jX6_fillCosts_j98 (N : Nat)  (f1 : Int32)  (self : Int32 × zq_S → Option (Int64 × zq_S)) (w3 : Int32) (w4 : Int32) (t0 : Int64) (t1 : Int64) (s : zq_S) : Option (Int64 × zq_S) :=
  zq_let (t1 + t0) (fun x17 =>
  zq_loop (bX6_fillCosts_104 N f1 w3 w4 x17 (fun e22 =>
  zq_let (w3 + (-1 : Int32)) (fun x23 =>
  self (x23, e22)))) N ((0 : Int32), s))
set_option maxRecDepth 20000 in
set_option maxHeartbeats 2000000 in
theorem xX6_fillCosts_j98_j (N : Nat)  (f1 : Int32)  (self : Int32 × zq_S → Option (Int64 × zq_S)) (hself : ∀ v, zq_X yX6_fillCosts RX6 cX6_fillCosts 8 (some .long) ⟨4, 0, 0, 92⟩ zv_l 60 [.ref 46, .int f1, .null, .int v.1, .null, .null, .null, .null] [] v.2 (self v)) (w3 : Int32) (w4 : Int32) (t0 : Int64) (t1 : Int64) (s : zq_S) : zq_X yX6_fillCosts RX6 cX6_fillCosts 8 (some .long) ⟨4, 0, 0, 92⟩ zv_l 98 [.ref 46, .int f1, .null, .int w3, .int w4, .null, .null, .null] [.long t0, .long t1] s (jX6_fillCosts_j98 N f1 self w3 w4 t0 t1 s) := by
  unfold jX6_fillCosts_j98
  refine zx_lift (pc' := 99) (fun _ => zq_ladd dX6_fillCosts_98 rfl) ?_
  refine zx_lstore (pc' := 101) (ls' := fun x17 => [.ref 46, .int f1, .null, .int w3, .int w4, .long x17, .null, .null]) (by decide) rfl (fun _ => rfl) dX6_fillCosts_99 rfl (fun x17 => ?_)
  refine zx_lift (pc' := 102) (fun _ => zq_iconst (v := 0) dX6_fillCosts_101 rfl rfl) ?_
  refine zx_lift (pc' := 104) (fun _ => zq_istore (ls' := [.ref 46, .int f1, .null, .int w3, .int w4, .long x17, .null, .int (0 : Int32)]) (by decide) rfl rfl dX6_fillCosts_102 rfl) ?_
  refine yX6_fillCosts_104 N f1 w3 w4 x17 _ (fun e22 => ?_) N ((0 : Int32), s)
  refine zx_iinc (pc' := 143) (ls' := fun x23 => [.ref 46, .int f1, .null, .int x23, .null, .null, .null, .null]) rfl rfl (by decide) rfl (fun _ => rfl) dX6_fillCosts_140 rfl (fun x23 => ?_)
  refine zx_lift (pc' := 60) (fun _ => zq_goto dX6_fillCosts_143 rfl) ?_
  exact hself (x23, e22)
def bX6_fillCosts_60 (N : Nat)  (f1 : Int32)  (self : Int32 × zq_S → Option (Int64 × zq_S)) (v : Int32 × zq_S) : Option (Int64 × zq_S) :=
  if v.1 ≤ (0 : Int32) then
  zq_b2 (mX6_cheapest N (0 : Int32) v.2) (fun r11 s12 =>
  some (((1000 : Int64) + r11), s12))
  else
  zq_b2 (mX3_goodAt N v.1 v.2) (fun r13 s14 =>
  zq_b2 (mX6_cheapest N r13 s14) (fun r15 s16 =>
  if f1 = (0 : Int32) then
  jX6_fillCosts_j98 N f1 self v.1 r13 (0 : Int64) ((1000 : Int64) + r15) s16
  else
  zq_b2 (mX6_breaksBehind N r13 s16) (fun r24 s25 =>
  jX6_fillCosts_j98 N f1 self v.1 r13 r24 ((1000 : Int64) + r15) s25)))
set_option maxRecDepth 20000 in
set_option maxHeartbeats 2000000 in
theorem xX6_fillCosts_60 (N : Nat)  (f1 : Int32)  (self : Int32 × zq_S → Option (Int64 × zq_S)) (hself : ∀ v, zq_X yX6_fillCosts RX6 cX6_fillCosts 8 (some .long) ⟨4, 0, 0, 92⟩ zv_l 60 [.ref 46, .int f1, .null, .int v.1, .null, .null, .null, .null] [] v.2 (self v)) (v : Int32 × zq_S) : zq_X yX6_fillCosts RX6 cX6_fillCosts 8 (some .long) ⟨4, 0, 0, 92⟩ zv_l 60 [.ref 46, .int f1, .null, .int v.1, .null, .null, .null, .null] [] v.2 (bX6_fillCosts_60 N f1 self v) := by
  unfold bX6_fillCosts_60
  refine zx_lift (pc' := 61) (fun _ => zq_iload_n rfl rfl dX6_fillCosts_60 rfl) ?_
  refine zx_if_le (pc' := 64) (tgt := 146) dX6_fillCosts_61 rfl rfl (fun hc => ?_) (fun hc => ?_)
  · refine zx_lift (pc' := 149) (fun _ => zq_ldc2 zk_X6_47 dX6_fillCosts_146 rfl) ?_
    refine zx_lift (pc' := 150) (fun _ => zq_aload_n rfl rfl dX6_fillCosts_149 rfl) ?_
    refine zx_lift (pc' := 151) (fun _ => zq_iconst (v := 0) dX6_fillCosts_150 rfl rfl) ?_
    refine zx_cVl (pc' := 154) zcv_X6_77 (cX6_cheapest_mc N (0 : Int32) v.2) zob_46 rfl (by decide) (Nat.le_of_ble_eq_true rfl) dX6_fillCosts_151 rfl rfl (fun r11 s12 => ?_)
    refine zx_lift (pc' := 155) (fun _ => zq_ladd dX6_fillCosts_154 rfl) ?_
    exact zx_lret rfl dX6_fillCosts_155
  · refine zx_lift (pc' := 65) (fun _ => zq_aload_n rfl rfl dX6_fillCosts_64 rfl) ?_
    refine zx_lift (pc' := 68) (fun _ => zt_getR zfr_X6_23 zfd_46_0 dX6_fillCosts_65 rfl) ?_
    refine zx_lift (pc' := 69) (fun _ => zq_iload_n rfl rfl dX6_fillCosts_68 rfl) ?_
    refine zx_cVi (pc' := 72) zcv_X6_73 (cX3_goodAt_mc N v.1 v.2) zob_31 rfl (by decide) (Nat.le_of_ble_eq_true rfl) dX6_fillCosts_69 rfl rfl (fun r13 s14 => ?_)
    refine zx_lift (pc' := 74) (fun _ => zq_istore (ls' := [.ref 46, .int f1, .null, .int v.1, .int r13, .null, .null, .null]) (by decide) rfl rfl dX6_fillCosts_72 rfl) ?_
    refine zx_lift (pc' := 77) (fun _ => zq_ldc2 zk_X6_47 dX6_fillCosts_74 rfl) ?_
    refine zx_lift (pc' := 78) (fun _ => zq_aload_n rfl rfl dX6_fillCosts_77 rfl) ?_
    refine zx_lift (pc' := 80) (fun _ => zq_iload rfl dX6_fillCosts_78 rfl) ?_
    refine zx_cVl (pc' := 83) zcv_X6_77 (cX6_cheapest_mc N r13 s14) zob_46 rfl (by decide) (Nat.le_of_ble_eq_true rfl) dX6_fillCosts_80 rfl rfl (fun r15 s16 => ?_)
    refine zx_lift (pc' := 84) (fun _ => zq_ladd dX6_fillCosts_83 rfl) ?_
    refine zx_lift (pc' := 85) (fun _ => zq_iload_n rfl rfl dX6_fillCosts_84 rfl) ?_
    refine zx_if_eq (pc' := 88) (tgt := 97) dX6_fillCosts_85 rfl rfl (fun hc => ?_) (fun hc => ?_)
    · refine zx_lift (pc' := 98) (fun _ => zq_lconst (v := 0) dX6_fillCosts_97 rfl rfl) ?_
      exact xX6_fillCosts_j98_j N f1 self hself v.1 r13 (0 : Int64) ((1000 : Int64) + r15) s16
    · refine zx_lift (pc' := 89) (fun _ => zq_aload_n rfl rfl dX6_fillCosts_88 rfl) ?_
      refine zx_lift (pc' := 91) (fun _ => zq_iload rfl dX6_fillCosts_89 rfl) ?_
      refine zx_cVl (pc' := 94) zcv_X6_66 (cX6_breaksBehind_mc N r13 s16) zob_46 rfl (by decide) (Nat.le_of_ble_eq_true rfl) dX6_fillCosts_91 rfl rfl (fun r24 s25 => ?_)
      refine zx_lift (pc' := 98) (fun _ => zq_goto dX6_fillCosts_94 rfl) ?_
      exact xX6_fillCosts_j98_j N f1 self hself v.1 r13 r24 ((1000 : Int64) + r15) s25
theorem yX6_fillCosts_60 (N : Nat)  (f1 : Int32)  (n : Nat) : ∀ v : Int32 × zq_S, zq_X yX6_fillCosts RX6 cX6_fillCosts 8 (some .long) ⟨4, 0, 0, 92⟩ zv_l 60 [.ref 46, .int f1, .null, .int v.1, .null, .null, .null, .null] [] v.2 (zq_loop (bX6_fillCosts_60 N f1 ) n v) := by
  induction n with
  | zero => exact fun v u hu => by cases hu
  | succ n ih =>
    intro v
    rw [zq_loop_s]
    exact xX6_fillCosts_60 N f1  (zq_loop (bX6_fillCosts_60 N f1 ) n) ih v
def mX6_fillCosts (N : Nat)  (p1 : Int32) (s : zq_S) : Option (Int64 × zq_S) :=
  zq_b2 (mX3_full N s) (fun r1 s2 =>
  if r1 = (0 : Int32) then
  some ((0 : Int64), s2)
  else
  zq_loop (bX6_fillCosts_16 N p1 r1 (fun e7 =>
  zq_b2 (mX3_goodCount N e7) (fun r8 s9 =>
  zq_let (r8 - (2 : Int32)) (fun x10 =>
  zq_loop (bX6_fillCosts_60 N p1 ) N (x10, s9))))) N ((0 : Int32), s2))
set_option maxRecDepth 20000 in
set_option maxHeartbeats 2000000 in
theorem xX6_fillCosts (N : Nat)  (p1 : Int32) (s : zq_S) : zq_X yX6_fillCosts RX6 cX6_fillCosts 8 (some .long) ⟨4, 0, 0, 92⟩ zv_l 0 [.ref 46, .int p1, .null, .null, .null, .null, .null, .null] [] s (mX6_fillCosts N p1 s) := by
  unfold mX6_fillCosts
  refine zx_lift (pc' := 1) (fun _ => zq_aload_n rfl rfl dX6_fillCosts_0 rfl) ?_
  refine zx_lift (pc' := 4) (fun _ => zt_getR zfr_X6_23 zfd_46_0 dX6_fillCosts_1 rfl) ?_
  refine zx_cVi (pc' := 7) zcv_X6_63 (cX3_full_mc N s) zob_31 rfl (by decide) (Nat.le_of_ble_eq_true rfl) dX6_fillCosts_4 rfl rfl (fun r1 s2 => ?_)
  refine zx_lift (pc' := 8) (fun _ => zq_istore_n (ls' := [.ref 46, .int p1, .int r1, .null, .null, .null, .null, .null]) rfl (by decide) rfl rfl dX6_fillCosts_7 rfl) ?_
  refine zx_lift (pc' := 9) (fun _ => zq_iload_n rfl rfl dX6_fillCosts_8 rfl) ?_
  refine zx_if_ne (pc' := 12) (tgt := 14) dX6_fillCosts_9 rfl rfl (fun hc => ?_) (fun hc => ?_)
  · refine zx_lift (pc' := 15) (fun _ => zq_iconst (v := 0) dX6_fillCosts_14 rfl rfl) ?_
    refine zx_lift (pc' := 16) (fun _ => zq_istore_n (ls' := [.ref 46, .int p1, .int r1, .int (0 : Int32), .null, .null, .null, .null]) rfl (by decide) rfl rfl dX6_fillCosts_15 rfl) ?_
    refine yX6_fillCosts_16 N p1 r1 _ (fun e7 => ?_) N ((0 : Int32), s2)
    refine zx_lift (pc' := 51) (fun _ => zq_aload_n rfl rfl dX6_fillCosts_50 rfl) ?_
    refine zx_lift (pc' := 54) (fun _ => zt_getR zfr_X6_23 zfd_46_0 dX6_fillCosts_51 rfl) ?_
    refine zx_cVi (pc' := 57) zcv_X6_70 (cX3_goodCount_mc N e7) zob_31 rfl (by decide) (Nat.le_of_ble_eq_true rfl) dX6_fillCosts_54 rfl rfl (fun r8 s9 => ?_)
    refine zx_lift (pc' := 58) (fun _ => zq_iconst (v := 2) dX6_fillCosts_57 rfl rfl) ?_
    refine zx_lift (pc' := 59) (fun _ => zq_isub dX6_fillCosts_58 rfl) ?_
    refine zx_istore_n (pc' := 60) (ls' := fun x10 => [.ref 46, .int p1, .null, .int x10, .null, .null, .null, .null]) rfl (by decide) rfl (fun _ => rfl) dX6_fillCosts_59 rfl (fun x10 => ?_)
    refine yX6_fillCosts_60 N p1  N (x10, s9)
  · refine zx_lift (pc' := 13) (fun _ => zq_lconst (v := 0) dX6_fillCosts_12 rfl rfl) ?_
    exact zx_lret rfl dX6_fillCosts_13
theorem cX6_fillCosts_mc (N : Nat)  (p1 : Int32) (s : zq_S) (v : Int64 × zq_S) (h : mX6_fillCosts N p1 s = some v) : zq_MC yX6_fillCosts cX6_fillCosts 8 (some .long) ⟨4, 0, 0, 92⟩ 0 0 [.ref 46, .int p1] (zq_en s) (zv_l v.1, zq_en v.2) := zq_MC_x [.ref 46, .int p1, .null, .null, .null, .null, .null, .null] (by decide +kernel) rfl rfl (Nat.le_of_ble_eq_true rfl) (xX6_fillCosts N p1 s) h
def jX6_leastMark_j88 (N : Nat)  (f1 : Int32) (f2 : Int32) (f3 : Int64) (f5 : Int32)  (self : Int32 × zq_S → Option (Int32 × zq_S)) (w6 : Int32) (s : zq_S) : Option (Int32 × zq_S) :=
  zq_let (w6 + (1 : Int32)) (fun x3 =>
  self (x3, s))
set_option maxRecDepth 20000 in
set_option maxHeartbeats 2000000 in
theorem xX6_leastMark_j88_j (N : Nat)  (f1 : Int32) (f2 : Int32) (f3 : Int64) (f5 : Int32)  (self : Int32 × zq_S → Option (Int32 × zq_S)) (hself : ∀ v, zq_X yX6_leastMark RX6 cX6_leastMark 9 (some .int) ⟨1, 0, 0, 23⟩ zv_i 13 [.ref 46, .int f1, .int f2, .long f3, .null, .int f5, .int v.1, .null, .null] [] v.2 (self v)) (w6 : Int32) (s : zq_S) : zq_X yX6_leastMark RX6 cX6_leastMark 9 (some .int) ⟨1, 0, 0, 23⟩ zv_i 88 [.ref 46, .int f1, .int f2, .long f3, .null, .int f5, .int w6, .null, .null] [] s (jX6_leastMark_j88 N f1 f2 f3 f5 self w6 s) := by
  unfold jX6_leastMark_j88
  refine zx_iinc (pc' := 91) (ls' := fun x3 => [.ref 46, .int f1, .int f2, .long f3, .null, .int f5, .int x3, .null, .null]) rfl rfl (by decide) rfl (fun _ => rfl) dX6_leastMark_88 rfl (fun x3 => ?_)
  refine zx_lift (pc' := 13) (fun _ => zq_goto dX6_leastMark_91 rfl) ?_
  exact hself (x3, s)
def bX6_leastMark_13 (N : Nat)  (f1 : Int32) (f2 : Int32) (f3 : Int64) (f5 : Int32)  (self : Int32 × zq_S → Option (Int32 × zq_S)) (v : Int32 × zq_S) : Option (Int32 × zq_S) :=
  if (10 : Int32) ≤ v.1 then
  some ((0 : Int32), v.2)
  else
  if ((f5 >>> (v.1 &&& 31)) &&& (1 : Int32)) = (0 : Int32) then
  jX6_leastMark_j88 N f1 f2 f3 f5 self v.1 v.2
  else
  zq_ck v.1 10 (
  zq_let (if (zga v.2 32 v.1) = f2 then (0 : Int64) else (1000 : Int64)) (fun x4 =>
  zq_ck v.1 10 (
  zq_ck (((4 : Int32) * (f1 ||| ((1 : Int32) <<< (v.1 &&& 31)))) + (zga v.2 32 v.1)) 4096 (
  if (lg_cmp (x4 + (zgl v.2 1 (((4 : Int32) * (f1 ||| ((1 : Int32) <<< (v.1 &&& 31)))) + (zga v.2 32 v.1)))) f3) = (0 : Int32) then
  some (v.1, v.2)
  else
  jX6_leastMark_j88 N f1 f2 f3 f5 self v.1 v.2))))
set_option maxRecDepth 20000 in
set_option maxHeartbeats 2000000 in
theorem xX6_leastMark_13 (N : Nat)  (f1 : Int32) (f2 : Int32) (f3 : Int64) (f5 : Int32)  (self : Int32 × zq_S → Option (Int32 × zq_S)) (hself : ∀ v, zq_X yX6_leastMark RX6 cX6_leastMark 9 (some .int) ⟨1, 0, 0, 23⟩ zv_i 13 [.ref 46, .int f1, .int f2, .long f3, .null, .int f5, .int v.1, .null, .null] [] v.2 (self v)) (v : Int32 × zq_S) : zq_X yX6_leastMark RX6 cX6_leastMark 9 (some .int) ⟨1, 0, 0, 23⟩ zv_i 13 [.ref 46, .int f1, .int f2, .long f3, .null, .int f5, .int v.1, .null, .null] [] v.2 (bX6_leastMark_13 N f1 f2 f3 f5 self v) := by
  unfold bX6_leastMark_13
  refine zx_lift (pc' := 15) (fun _ => zq_iload rfl dX6_leastMark_13 rfl) ?_
  refine zx_lift (pc' := 17) (fun _ => zq_bipush (v := 10) dX6_leastMark_15 rfl rfl) ?_
  refine zx_icmp_ge (pc' := 20) (tgt := 94) dX6_leastMark_17 rfl rfl (fun hc => ?_) (fun hc => ?_)
  · refine zx_lift (pc' := 95) (fun _ => zq_iconst (v := 0) dX6_leastMark_94 rfl rfl) ?_
    exact zx_iret rfl dX6_leastMark_95
  · refine zx_lift (pc' := 22) (fun _ => zq_iload rfl dX6_leastMark_20 rfl) ?_
    refine zx_lift (pc' := 24) (fun _ => zq_iload rfl dX6_leastMark_22 rfl) ?_
    refine zx_lift (pc' := 25) (fun _ => zq_ishr dX6_leastMark_24 rfl) ?_
    refine zx_lift (pc' := 26) (fun _ => zq_iconst (v := 1) dX6_leastMark_25 rfl rfl) ?_
    refine zx_lift (pc' := 27) (fun _ => zq_iand dX6_leastMark_26 rfl) ?_
    refine zx_if_eq (pc' := 30) (tgt := 88) dX6_leastMark_27 rfl rfl (fun hc => ?_) (fun hc => ?_)
    · exact xX6_leastMark_j88_j N f1 f2 f3 f5 self hself v.1 v.2
    · refine zx_lift (pc' := 31) (fun _ => zq_aload_n rfl rfl dX6_leastMark_30 rfl) ?_
      refine zx_lift (pc' := 34) (fun _ => zt_getR zfr_X6_23 zfd_46_0 dX6_leastMark_31 rfl) ?_
      refine zx_lift (pc' := 37) (fun _ => zt_getR zfr_X6_109 zfd_31_1 dX6_leastMark_34 rfl) ?_
      refine zx_lift (pc' := 39) (fun _ => zq_iload rfl dX6_leastMark_37 rfl) ?_
      refine zx_iaload (pc' := 40) zsh_32 dX6_leastMark_39 rfl ?_
      refine zx_lift (pc' := 41) (fun _ => zq_iload_n rfl rfl dX6_leastMark_40 rfl) ?_
      refine zx_tern (pcJ := 51) (lsJ := fun x4 => [.ref 46, .int f1, .int f2, .long f3, .null, .int f5, .int v.1, .null, .null]) (stJ := fun x4 => [.long x4]) (fun x4 => ?_) (fun f hJ => ?_)
      rotate_left
      · refine zx_licmp_ne (pc' := 44) (tgt := 48) dX6_leastMark_41 rfl rfl (fun _ => ?_) (fun _ => ?_)
        · refine zx_lift (pc' := 51) (fun _ => zq_ldc2 zk_X6_47 dX6_leastMark_48 rfl) ?_
          exact zx_lessJ (zq_cr (zq_cr (zq_cr (zq_cr (zq_cz (zq_cr (zq_cr (zq_cz (zq_cz zq_cn))))))))) (hJ _)
        · refine zx_lift (pc' := 45) (fun _ => zq_lconst (v := 0) dX6_leastMark_44 rfl rfl) ?_
          refine zx_lift (pc' := 51) (fun _ => zq_goto dX6_leastMark_45 rfl) ?_
          exact zx_lessJ (zq_cr (zq_cr (zq_cr (zq_cr (zq_cz (zq_cr (zq_cr (zq_cz (zq_cz zq_cn))))))))) (hJ _)
      refine zx_lift (pc' := 53) (fun _ => zq_lstore (ls' := [.ref 46, .int f1, .int f2, .long f3, .null, .int f5, .int v.1, .long x4, .null]) (by decide) rfl rfl dX6_leastMark_51 rfl) ?_
      refine zx_lift (pc' := 55) (fun _ => zq_lload rfl dX6_leastMark_53 rfl) ?_
      refine zx_lift (pc' := 56) (fun _ => zq_aload_n rfl rfl dX6_leastMark_55 rfl) ?_
      refine zx_lift (pc' := 59) (fun _ => zt_getR zfr_X6_35 zfd_46_3 dX6_leastMark_56 rfl) ?_
      refine zx_lift (pc' := 60) (fun _ => zq_iconst (v := 4) dX6_leastMark_59 rfl rfl) ?_
      refine zx_lift (pc' := 61) (fun _ => zq_iload_n rfl rfl dX6_leastMark_60 rfl) ?_
      refine zx_lift (pc' := 62) (fun _ => zq_iconst (v := 1) dX6_leastMark_61 rfl rfl) ?_
      refine zx_lift (pc' := 64) (fun _ => zq_iload rfl dX6_leastMark_62 rfl) ?_
      refine zx_lift (pc' := 65) (fun _ => zq_ishl dX6_leastMark_64 rfl) ?_
      refine zx_lift (pc' := 66) (fun _ => zq_ior dX6_leastMark_65 rfl) ?_
      refine zx_lift (pc' := 67) (fun _ => zq_imul dX6_leastMark_66 rfl) ?_
      refine zx_lift (pc' := 68) (fun _ => zq_aload_n rfl rfl dX6_leastMark_67 rfl) ?_
      refine zx_lift (pc' := 71) (fun _ => zt_getR zfr_X6_23 zfd_46_0 dX6_leastMark_68 rfl) ?_
      refine zx_lift (pc' := 74) (fun _ => zt_getR zfr_X6_109 zfd_31_1 dX6_leastMark_71 rfl) ?_
      refine zx_lift (pc' := 76) (fun _ => zq_iload rfl dX6_leastMark_74 rfl) ?_
      refine zx_iaload (pc' := 77) zsh_32 dX6_leastMark_76 rfl ?_
      refine zx_lift (pc' := 78) (fun _ => zq_iadd dX6_leastMark_77 rfl) ?_
      refine zx_laload (pc' := 79) zsh_1 dX6_leastMark_78 rfl ?_
      refine zx_lift (pc' := 80) (fun _ => zq_ladd dX6_leastMark_79 rfl) ?_
      refine zx_lift (pc' := 81) (fun _ => zq_lload_n rfl rfl dX6_leastMark_80 rfl) ?_
      refine zx_lift (pc' := 82) (fun _ => zq_lcmp dX6_leastMark_81 rfl) ?_
      refine zx_if_ne (pc' := 85) (tgt := 88) dX6_leastMark_82 rfl rfl (fun hc => ?_) (fun hc => ?_)
      · refine zx_less [.ref 46, .int f1, .int f2, .long f3, .null, .int f5, .int v.1, .null, .null] (zq_cr (zq_cr (zq_cr (zq_cr (zq_cz (zq_cr (zq_cr (zq_cz (zq_cz zq_cn))))))))) ?_
        exact xX6_leastMark_j88_j N f1 f2 f3 f5 self hself v.1 v.2
      · refine zx_lift (pc' := 87) (fun _ => zq_iload rfl dX6_leastMark_85 rfl) ?_
        exact zx_iret rfl dX6_leastMark_87
theorem yX6_leastMark_13 (N : Nat)  (f1 : Int32) (f2 : Int32) (f3 : Int64) (f5 : Int32)  (n : Nat) : ∀ v : Int32 × zq_S, zq_X yX6_leastMark RX6 cX6_leastMark 9 (some .int) ⟨1, 0, 0, 23⟩ zv_i 13 [.ref 46, .int f1, .int f2, .long f3, .null, .int f5, .int v.1, .null, .null] [] v.2 (zq_loop (bX6_leastMark_13 N f1 f2 f3 f5 ) n v) := by
  induction n with
  | zero => exact fun v u hu => by cases hu
  | succ n ih =>
    intro v
    rw [zq_loop_s]
    exact xX6_leastMark_13 N f1 f2 f3 f5  (zq_loop (bX6_leastMark_13 N f1 f2 f3 f5 ) n) ih v
def mX6_leastMark (N : Nat)  (p1 : Int32) (p2 : Int32) (p3 : Int64) (s : zq_S) : Option (Int32 × zq_S) :=
  zq_b2 (mX3_following N p1 s) (fun r1 s2 =>
  zq_loop (bX6_leastMark_13 N p1 p2 p3 r1 ) N ((0 : Int32), s2))
set_option maxRecDepth 20000 in
set_option maxHeartbeats 2000000 in
theorem xX6_leastMark (N : Nat)  (p1 : Int32) (p2 : Int32) (p3 : Int64) (s : zq_S) : zq_X yX6_leastMark RX6 cX6_leastMark 9 (some .int) ⟨1, 0, 0, 23⟩ zv_i 0 [.ref 46, .int p1, .int p2, .long p3, .null, .null, .null, .null, .null] [] s (mX6_leastMark N p1 p2 p3 s) := by
  unfold mX6_leastMark
  refine zx_lift (pc' := 1) (fun _ => zq_aload_n rfl rfl dX6_leastMark_0 rfl) ?_
  refine zx_lift (pc' := 4) (fun _ => zt_getR zfr_X6_23 zfd_46_0 dX6_leastMark_1 rfl) ?_
  refine zx_lift (pc' := 5) (fun _ => zq_iload_n rfl rfl dX6_leastMark_4 rfl) ?_
  refine zx_cVi (pc' := 8) zcv_X6_106 (cX3_following_mc N p1 s) zob_31 rfl (by decide) (Nat.le_of_ble_eq_true rfl) dX6_leastMark_5 rfl rfl (fun r1 s2 => ?_)
  refine zx_lift (pc' := 10) (fun _ => zq_istore (ls' := [.ref 46, .int p1, .int p2, .long p3, .null, .int r1, .null, .null, .null]) (by decide) rfl rfl dX6_leastMark_8 rfl) ?_
  refine zx_lift (pc' := 11) (fun _ => zq_iconst (v := 0) dX6_leastMark_10 rfl rfl) ?_
  refine zx_lift (pc' := 13) (fun _ => zq_istore (ls' := [.ref 46, .int p1, .int p2, .long p3, .null, .int r1, .int (0 : Int32), .null, .null]) (by decide) rfl rfl dX6_leastMark_11 rfl) ?_
  refine yX6_leastMark_13 N p1 p2 p3 r1  N ((0 : Int32), s2)
theorem cX6_leastMark_mc (N : Nat)  (p1 : Int32) (p2 : Int32) (p3 : Int64) (s : zq_S) (v : Int32 × zq_S) (h : mX6_leastMark N p1 p2 p3 s = some v) : zq_MC yX6_leastMark cX6_leastMark 9 (some .int) ⟨1, 0, 0, 23⟩ 0 0 [.ref 46, .int p1, .int p2, .long p3] (zq_en s) (zv_i v.1, zq_en v.2) := zq_MC_x [.ref 46, .int p1, .int p2, .long p3, .null, .null, .null, .null, .null] (by decide +kernel) rfl rfl (Nat.le_of_ble_eq_true rfl) (xX6_leastMark N p1 p2 p3 s) h
