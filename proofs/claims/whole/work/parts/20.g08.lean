def jX11_text_j23 (N : Nat)   (t0 : Int32) (s : zq_S) : Option (Int32 × zq_S) :=
  some (t0, s)
set_option maxRecDepth 20000 in
set_option maxHeartbeats 2000000 in
theorem xX11_text_j23_j (N : Nat)   (t0 : Int32) (s : zq_S) : zq_X yX11_text RX11 cX11_text 4 (some .int) ⟨4, 0, 0, 94⟩ zv_i 23 [.null, .null, .null, .null] [.int t0] s (jX11_text_j23 N t0 s) := by
  unfold jX11_text_j23
  exact zx_iret rfl dX11_text_23
def mX11_text (N : Nat)  (p1 : Int32) (p2 : Int32) (s : zq_S) : Option (Int32 × zq_S) :=
  zq_b2 (mX3_refuse N p1 s) (fun r1 s2 =>
  if r1 = (0 : Int32) then
  zq_b2 (mX11_wordOrSize N p1 p2 s2) (fun r3 s4 =>
  jX11_text_j23 N r3 s4)
  else
  jX11_text_j23 N r1 s2)
set_option maxRecDepth 20000 in
set_option maxHeartbeats 2000000 in
theorem xX11_text (N : Nat)  (p1 : Int32) (p2 : Int32) (s : zq_S) : zq_X yX11_text RX11 cX11_text 4 (some .int) ⟨4, 0, 0, 94⟩ zv_i 0 [.ref 0, .int p1, .int p2, .null] [] s (mX11_text N p1 p2 s) := by
  unfold mX11_text
  refine zx_lift (pc' := 1) (fun _ => zq_aload_n rfl rfl dX11_text_0 rfl) ?_
  refine zx_lift (pc' := 4) (fun _ => zt_getR zfr_X11_31 zfd_0_1 dX11_text_1 rfl) ?_
  refine zx_lift (pc' := 5) (fun _ => zq_iload_n rfl rfl dX11_text_4 rfl) ?_
  refine zx_cVi (pc' := 8) zcv_X11_189 (cX3_refuse_mc N p1 s) zob_31 rfl (by decide) (Nat.le_of_ble_eq_true rfl) dX11_text_5 rfl rfl (fun r1 s2 => ?_)
  refine zx_lift (pc' := 9) (fun _ => zq_istore_n (ls' := [.ref 0, .int p1, .int p2, .int r1]) rfl (by decide) rfl rfl dX11_text_8 rfl) ?_
  refine zx_lift (pc' := 10) (fun _ => zq_iload_n rfl rfl dX11_text_9 rfl) ?_
  refine zx_if_eq (pc' := 13) (tgt := 17) dX11_text_10 rfl rfl (fun hc => ?_) (fun hc => ?_)
  · refine zx_lift (pc' := 18) (fun _ => zq_aload_n rfl rfl dX11_text_17 rfl) ?_
    refine zx_lift (pc' := 19) (fun _ => zq_iload_n rfl rfl dX11_text_18 rfl) ?_
    refine zx_lift (pc' := 20) (fun _ => zq_iload_n rfl rfl dX11_text_19 rfl) ?_
    refine zx_cVi (pc' := 23) zcv_X11_215 (cX11_wordOrSize_mc N p1 p2 s2) zob_0 rfl (by decide) (Nat.le_of_ble_eq_true rfl) dX11_text_20 rfl rfl (fun r3 s4 => ?_)
    refine zx_less [.null, .null, .null, .null] (zq_cz (zq_cz (zq_cz (zq_cz zq_cn)))) ?_
    exact xX11_text_j23_j N r3 s4
  · refine zx_lift (pc' := 14) (fun _ => zq_iload_n rfl rfl dX11_text_13 rfl) ?_
    refine zx_lift (pc' := 23) (fun _ => zq_goto dX11_text_14 rfl) ?_
    refine zx_less [.null, .null, .null, .null] (zq_cz (zq_cz (zq_cz (zq_cz zq_cn)))) ?_
    exact xX11_text_j23_j N r1 s2
theorem cX11_text_mc (N : Nat)  (p1 : Int32) (p2 : Int32) (s : zq_S) (v : Int32 × zq_S) (h : mX11_text N p1 p2 s = some v) : zq_MC yX11_text cX11_text 4 (some .int) ⟨4, 0, 0, 94⟩ 0 0 [.ref 0, .int p1, .int p2] (zq_en s) (zv_i v.1, zq_en v.2) := zq_MC_x [.ref 0, .int p1, .int p2, .null] (by decide +kernel) rfl rfl (Nat.le_of_ble_eq_true rfl) (xX11_text N p1 p2 s) h
def mX1_isTime (N : Nat)  (p1 : Int32) (p2 : Int32) (s : zq_S) : Option (Int32 × zq_S) :=
  zq_b2 (mX9_with N p2 s) (fun r1 s2 =>
  zq_b2 (mX8_isAlike N true false p1 p2 s2) (fun r3 s4 =>
  zq_bz r3 (some (r3, s4))))
set_option maxRecDepth 20000 in
set_option maxHeartbeats 2000000 in
theorem xX1_isTime (N : Nat)  (p1 : Int32) (p2 : Int32) (s : zq_S) : zq_X yX1_isTime RX1 cX1_isTime 3 (some .boolean) ⟨3, 0, 0, 71⟩ zv_i 0 [.ref 56, .int p1, .int p2] [] s (mX1_isTime N p1 p2 s) := by
  unfold mX1_isTime
  refine zx_lift (pc' := 1) (fun _ => zq_aload_n rfl rfl dX1_isTime_0 rfl) ?_
  refine zx_lift (pc' := 4) (fun _ => zt_getR zfr_X1_19 zfd_56_2 dX1_isTime_1 rfl) ?_
  refine zx_lift (pc' := 5) (fun _ => zq_iload_n rfl rfl dX1_isTime_4 rfl) ?_
  refine zx_lift (pc' := 6) (fun _ => zq_aload_n rfl rfl dX1_isTime_5 rfl) ?_
  refine zx_lift (pc' := 9) (fun _ => zt_getR zfr_X1_15 zfd_56_1 dX1_isTime_6 rfl) ?_
  refine zx_lift (pc' := 10) (fun _ => zq_iload_n rfl rfl dX1_isTime_9 rfl) ?_
  refine zx_cVw (pc' := 13) zcv_X1_35 (cX9_with_mc N p2 s) zob_38 rfl (by decide) (Nat.le_of_ble_eq_true rfl) dX1_isTime_10 rfl rfl (fun r1 s2 => ?_)
  refine zx_lift (pc' := 14) (fun _ => zq_iload_n rfl rfl dX1_isTime_13 rfl) ?_
  refine zx_cVi (pc' := 17) zcv_X1_41 (cX8_isAlike_mc N true false p1 p2 s2) (zob_f true) rfl (by decide) (Nat.le_of_ble_eq_true rfl) dX1_isTime_14 rfl rfl (fun r3 s4 => ?_)
  exact zx_zretg rfl dX1_isTime_17
theorem cX1_isTime_mc (N : Nat)  (p1 : Int32) (p2 : Int32) (s : zq_S) (v : Int32 × zq_S) (h : mX1_isTime N p1 p2 s = some v) : zq_MC yX1_isTime cX1_isTime 3 (some .boolean) ⟨3, 0, 0, 71⟩ 0 0 [.ref 56, .int p1, .int p2] (zq_en s) (zv_i v.1, zq_en v.2) := zq_MC_x [.ref 56, .int p1, .int p2] (by decide +kernel) rfl rfl (Nat.le_of_ble_eq_true rfl) (xX1_isTime N p1 p2 s) h
def jX1_timeAt_j55 (N : Nat)  (f1 : Int32) (f2 : Int32) (k61 : zq_S → Option (Int32 × zq_S)) (self : Int32 × Int32 × zq_S → Option (Int32 × zq_S)) (w3 : Int32) (w4 : Int32) (s : zq_S) : Option (Int32 × zq_S) :=
  zq_let (w4 + (1 : Int32)) (fun x7 =>
  self (w3, x7, s))
set_option maxRecDepth 20000 in
set_option maxHeartbeats 2000000 in
theorem xX1_timeAt_j55_j (N : Nat)  (f1 : Int32) (f2 : Int32) (k61 : zq_S → Option (Int32 × zq_S)) (hk61 : ∀ e, zq_X yX1_timeAt RX1 cX1_timeAt 5 (some .int) ⟨4, 0, 0, 93⟩ zv_i 61 [.null, .null, .null, .null, .null] [] e (k61 e)) (self : Int32 × Int32 × zq_S → Option (Int32 × zq_S)) (hself : ∀ v, zq_X yX1_timeAt RX1 cX1_timeAt 5 (some .int) ⟨4, 0, 0, 93⟩ zv_i 5 [.ref 56, .int f1, .int f2, .int v.1, .int v.2.1] [] v.2.2 (self v)) (w3 : Int32) (w4 : Int32) (s : zq_S) : zq_X yX1_timeAt RX1 cX1_timeAt 5 (some .int) ⟨4, 0, 0, 93⟩ zv_i 55 [.ref 56, .int f1, .int f2, .int w3, .int w4] [] s (jX1_timeAt_j55 N f1 f2 k61 self w3 w4 s) := by
  unfold jX1_timeAt_j55
  refine zx_iinc (pc' := 58) (ls' := fun x7 => [.ref 56, .int f1, .int f2, .int w3, .int x7]) rfl rfl (by decide) rfl (fun _ => rfl) dX1_timeAt_55 rfl (fun x7 => ?_)
  refine zx_lift (pc' := 5) (fun _ => zq_goto dX1_timeAt_58 rfl) ?_
  exact hself (w3, x7, s)
def bX1_timeAt_5 (N : Nat)  (f1 : Int32) (f2 : Int32) (k61 : zq_S → Option (Int32 × zq_S)) (self : Int32 × Int32 × zq_S → Option (Int32 × zq_S)) (v : Int32 × Int32 × zq_S) : Option (Int32 × zq_S) :=
  zq_b2 (mX3_goodCount N v.2.2) (fun r1 s2 =>
  if r1 ≤ v.2.1 then
  k61 s2
  else
  if f2 < (0 : Int32) then
  k61 s2
  else
  zq_b2 (mX3_goodAt N v.2.1 s2) (fun r3 s4 =>
  zq_b2 (mX1_isTime N f1 r3 s4) (fun r5 s6 =>
  if r5 = (0 : Int32) then
  jX1_timeAt_j55 N f1 f2 k61 self v.1 v.2.1 s6
  else
  if v.1 = (0 : Int32) then
  zq_b2 (mX3_goodAt N v.2.1 s6) (fun r9 s10 =>
  some (r9, s10))
  else
  zq_let (v.1 + (-1 : Int32)) (fun x8 =>
  jX1_timeAt_j55 N f1 f2 k61 self x8 v.2.1 s6))))
set_option maxRecDepth 20000 in
set_option maxHeartbeats 2000000 in
theorem xX1_timeAt_5 (N : Nat)  (f1 : Int32) (f2 : Int32) (k61 : zq_S → Option (Int32 × zq_S)) (hk61 : ∀ e, zq_X yX1_timeAt RX1 cX1_timeAt 5 (some .int) ⟨4, 0, 0, 93⟩ zv_i 61 [.null, .null, .null, .null, .null] [] e (k61 e)) (self : Int32 × Int32 × zq_S → Option (Int32 × zq_S)) (hself : ∀ v, zq_X yX1_timeAt RX1 cX1_timeAt 5 (some .int) ⟨4, 0, 0, 93⟩ zv_i 5 [.ref 56, .int f1, .int f2, .int v.1, .int v.2.1] [] v.2.2 (self v)) (v : Int32 × Int32 × zq_S) : zq_X yX1_timeAt RX1 cX1_timeAt 5 (some .int) ⟨4, 0, 0, 93⟩ zv_i 5 [.ref 56, .int f1, .int f2, .int v.1, .int v.2.1] [] v.2.2 (bX1_timeAt_5 N f1 f2 k61 self v) := by
  unfold bX1_timeAt_5
  refine zx_lift (pc' := 7) (fun _ => zq_iload rfl dX1_timeAt_5 rfl) ?_
  refine zx_lift (pc' := 8) (fun _ => zq_aload_n rfl rfl dX1_timeAt_7 rfl) ?_
  refine zx_lift (pc' := 11) (fun _ => zt_getR zfr_X1_9 zfd_56_0 dX1_timeAt_8 rfl) ?_
  refine zx_cVi (pc' := 14) zcv_X1_47 (cX3_goodCount_mc N v.2.2) zob_31 rfl (by decide) (Nat.le_of_ble_eq_true rfl) dX1_timeAt_11 rfl rfl (fun r1 s2 => ?_)
  refine zx_icmp_ge (pc' := 17) (tgt := 61) dX1_timeAt_14 rfl rfl (fun hc => ?_) (fun hc => ?_)
  · refine zx_less [.null, .null, .null, .null, .null] (zq_cz (zq_cz (zq_cz (zq_cz (zq_cz zq_cn))))) ?_
    exact hk61 s2
  · refine zx_lift (pc' := 18) (fun _ => zq_iload_n rfl rfl dX1_timeAt_17 rfl) ?_
    refine zx_if_lt (pc' := 21) (tgt := 61) dX1_timeAt_18 rfl rfl (fun hc => ?_) (fun hc => ?_)
    · refine zx_less [.null, .null, .null, .null, .null] (zq_cz (zq_cz (zq_cz (zq_cz (zq_cz zq_cn))))) ?_
      exact hk61 s2
    · refine zx_lift (pc' := 22) (fun _ => zq_aload_n rfl rfl dX1_timeAt_21 rfl) ?_
      refine zx_lift (pc' := 23) (fun _ => zq_iload_n rfl rfl dX1_timeAt_22 rfl) ?_
      refine zx_lift (pc' := 24) (fun _ => zq_aload_n rfl rfl dX1_timeAt_23 rfl) ?_
      refine zx_lift (pc' := 27) (fun _ => zt_getR zfr_X1_9 zfd_56_0 dX1_timeAt_24 rfl) ?_
      refine zx_lift (pc' := 29) (fun _ => zq_iload rfl dX1_timeAt_27 rfl) ?_
      refine zx_cVi (pc' := 32) zcv_X1_53 (cX3_goodAt_mc N v.2.1 s2) zob_31 rfl (by decide) (Nat.le_of_ble_eq_true rfl) dX1_timeAt_29 rfl rfl (fun r3 s4 => ?_)
      refine zx_cVi (pc' := 35) zcv_X1_57 (cX1_isTime_mc N f1 r3 s4) zob_56 rfl (by decide) (Nat.le_of_ble_eq_true rfl) dX1_timeAt_32 rfl rfl (fun r5 s6 => ?_)
      refine zx_if_eq (pc' := 38) (tgt := 55) dX1_timeAt_35 rfl rfl (fun hc => ?_) (fun hc => ?_)
      · exact xX1_timeAt_j55_j N f1 f2 k61 hk61 self hself v.1 v.2.1 s6
      · refine zx_lift (pc' := 39) (fun _ => zq_iload_n rfl rfl dX1_timeAt_38 rfl) ?_
        refine zx_if_ne (pc' := 42) (tgt := 52) dX1_timeAt_39 rfl rfl (fun hc => ?_) (fun hc => ?_)
        · refine zx_iinc (pc' := 55) (ls' := fun x8 => [.ref 56, .int f1, .int f2, .int x8, .int v.2.1]) rfl rfl (by decide) rfl (fun _ => rfl) dX1_timeAt_52 rfl (fun x8 => ?_)
          exact xX1_timeAt_j55_j N f1 f2 k61 hk61 self hself x8 v.2.1 s6
        · refine zx_lift (pc' := 43) (fun _ => zq_aload_n rfl rfl dX1_timeAt_42 rfl) ?_
          refine zx_lift (pc' := 46) (fun _ => zt_getR zfr_X1_9 zfd_56_0 dX1_timeAt_43 rfl) ?_
          refine zx_lift (pc' := 48) (fun _ => zq_iload rfl dX1_timeAt_46 rfl) ?_
          refine zx_cVi (pc' := 51) zcv_X1_53 (cX3_goodAt_mc N v.2.1 s6) zob_31 rfl (by decide) (Nat.le_of_ble_eq_true rfl) dX1_timeAt_48 rfl rfl (fun r9 s10 => ?_)
          exact zx_iret rfl dX1_timeAt_51
theorem yX1_timeAt_5 (N : Nat)  (f1 : Int32) (f2 : Int32) (k61 : zq_S → Option (Int32 × zq_S)) (hk61 : ∀ e, zq_X yX1_timeAt RX1 cX1_timeAt 5 (some .int) ⟨4, 0, 0, 93⟩ zv_i 61 [.null, .null, .null, .null, .null] [] e (k61 e)) (n : Nat) : ∀ v : Int32 × Int32 × zq_S, zq_X yX1_timeAt RX1 cX1_timeAt 5 (some .int) ⟨4, 0, 0, 93⟩ zv_i 5 [.ref 56, .int f1, .int f2, .int v.1, .int v.2.1] [] v.2.2 (zq_loop (bX1_timeAt_5 N f1 f2 k61) n v) := by
  induction n with
  | zero => exact fun v u hu => by cases hu
  | succ n ih =>
    intro v
    rw [zq_loop_s]
    exact xX1_timeAt_5 N f1 f2 k61 hk61 (zq_loop (bX1_timeAt_5 N f1 f2 k61) n) ih v
def jX1_timeAt_j61 (N : Nat)    (s : zq_S) : Option (Int32 × zq_S) :=
  some ((-1 : Int32), s)
set_option maxRecDepth 20000 in
set_option maxHeartbeats 2000000 in
theorem xX1_timeAt_j61_j (N : Nat)    (s : zq_S) : zq_X yX1_timeAt RX1 cX1_timeAt 5 (some .int) ⟨4, 0, 0, 93⟩ zv_i 61 [.null, .null, .null, .null, .null] [] s (jX1_timeAt_j61 N s) := by
  unfold jX1_timeAt_j61
  refine zx_lift (pc' := 62) (fun _ => zq_iconst (v := (-1)) dX1_timeAt_61 rfl rfl) ?_
  exact zx_iret rfl dX1_timeAt_62
def mX1_timeAt (N : Nat)  (p1 : Int32) (p2 : Int32) (s : zq_S) : Option (Int32 × zq_S) :=
  zq_loop (bX1_timeAt_5 N p1 p2 (fun e11 =>
  jX1_timeAt_j61 N e11)) N (p2, (0 : Int32), s)
set_option maxRecDepth 20000 in
set_option maxHeartbeats 2000000 in
theorem xX1_timeAt (N : Nat)  (p1 : Int32) (p2 : Int32) (s : zq_S) : zq_X yX1_timeAt RX1 cX1_timeAt 5 (some .int) ⟨4, 0, 0, 93⟩ zv_i 0 [.ref 56, .int p1, .int p2, .null, .null] [] s (mX1_timeAt N p1 p2 s) := by
  unfold mX1_timeAt
  refine zx_lift (pc' := 1) (fun _ => zq_iload_n rfl rfl dX1_timeAt_0 rfl) ?_
  refine zx_lift (pc' := 2) (fun _ => zq_istore_n (ls' := [.ref 56, .int p1, .int p2, .int p2, .null]) rfl (by decide) rfl rfl dX1_timeAt_1 rfl) ?_
  refine zx_lift (pc' := 3) (fun _ => zq_iconst (v := 0) dX1_timeAt_2 rfl rfl) ?_
  refine zx_lift (pc' := 5) (fun _ => zq_istore (ls' := [.ref 56, .int p1, .int p2, .int p2, .int (0 : Int32)]) (by decide) rfl rfl dX1_timeAt_3 rfl) ?_
  refine yX1_timeAt_5 N p1 p2 _ (fun e11 => ?_) N (p2, (0 : Int32), s)
  exact xX1_timeAt_j61_j N e11
theorem cX1_timeAt_mc (N : Nat)  (p1 : Int32) (p2 : Int32) (s : zq_S) (v : Int32 × zq_S) (h : mX1_timeAt N p1 p2 s = some v) : zq_MC yX1_timeAt cX1_timeAt 5 (some .int) ⟨4, 0, 0, 93⟩ 0 0 [.ref 56, .int p1, .int p2] (zq_en s) (zv_i v.1, zq_en v.2) := zq_MC_x [.ref 56, .int p1, .int p2, .null, .null] (by decide +kernel) rfl rfl (Nat.le_of_ble_eq_true rfl) (xX1_timeAt N p1 p2 s) h
def jX1_timesOf_j34 (N : Nat)  (f1 : Int32)  (self : Int32 × Int32 × zq_S → Option (Int32 × zq_S)) (w2 : Int32) (w3 : Int32) (s : zq_S) : Option (Int32 × zq_S) :=
  zq_let (w3 + (1 : Int32)) (fun x7 =>
  self (w2, x7, s))
set_option maxRecDepth 20000 in
set_option maxHeartbeats 2000000 in
theorem xX1_timesOf_j34_j (N : Nat)  (f1 : Int32)  (self : Int32 × Int32 × zq_S → Option (Int32 × zq_S)) (hself : ∀ v, zq_X yX1_timesOf RX1 cX1_timesOf 4 (some .int) ⟨4, 0, 0, 93⟩ zv_i 4 [.ref 56, .int f1, .int v.1, .int v.2.1] [] v.2.2 (self v)) (w2 : Int32) (w3 : Int32) (s : zq_S) : zq_X yX1_timesOf RX1 cX1_timesOf 4 (some .int) ⟨4, 0, 0, 93⟩ zv_i 34 [.ref 56, .int f1, .int w2, .int w3] [] s (jX1_timesOf_j34 N f1 self w2 w3 s) := by
  unfold jX1_timesOf_j34
  refine zx_iinc (pc' := 37) (ls' := fun x7 => [.ref 56, .int f1, .int w2, .int x7]) rfl rfl (by decide) rfl (fun _ => rfl) dX1_timesOf_34 rfl (fun x7 => ?_)
  refine zx_lift (pc' := 4) (fun _ => zq_goto dX1_timesOf_37 rfl) ?_
  exact hself (w2, x7, s)
def bX1_timesOf_4 (N : Nat)  (f1 : Int32)  (self : Int32 × Int32 × zq_S → Option (Int32 × zq_S)) (v : Int32 × Int32 × zq_S) : Option (Int32 × zq_S) :=
  zq_b2 (mX3_goodCount N v.2.2) (fun r1 s2 =>
  if r1 ≤ v.2.1 then
  some (v.1, s2)
  else
  zq_b2 (mX3_goodAt N v.2.1 s2) (fun r3 s4 =>
  zq_b2 (mX1_isTime N f1 r3 s4) (fun r5 s6 =>
  if r5 = (0 : Int32) then
  jX1_timesOf_j34 N f1 self v.1 v.2.1 s6
  else
  zq_let (v.1 + (1 : Int32)) (fun x8 =>
  jX1_timesOf_j34 N f1 self x8 v.2.1 s6))))
set_option maxRecDepth 20000 in
set_option maxHeartbeats 2000000 in
theorem xX1_timesOf_4 (N : Nat)  (f1 : Int32)  (self : Int32 × Int32 × zq_S → Option (Int32 × zq_S)) (hself : ∀ v, zq_X yX1_timesOf RX1 cX1_timesOf 4 (some .int) ⟨4, 0, 0, 93⟩ zv_i 4 [.ref 56, .int f1, .int v.1, .int v.2.1] [] v.2.2 (self v)) (v : Int32 × Int32 × zq_S) : zq_X yX1_timesOf RX1 cX1_timesOf 4 (some .int) ⟨4, 0, 0, 93⟩ zv_i 4 [.ref 56, .int f1, .int v.1, .int v.2.1] [] v.2.2 (bX1_timesOf_4 N f1 self v) := by
  unfold bX1_timesOf_4
  refine zx_lift (pc' := 5) (fun _ => zq_iload_n rfl rfl dX1_timesOf_4 rfl) ?_
  refine zx_lift (pc' := 6) (fun _ => zq_aload_n rfl rfl dX1_timesOf_5 rfl) ?_
  refine zx_lift (pc' := 9) (fun _ => zt_getR zfr_X1_9 zfd_56_0 dX1_timesOf_6 rfl) ?_
  refine zx_cVi (pc' := 12) zcv_X1_47 (cX3_goodCount_mc N v.2.2) zob_31 rfl (by decide) (Nat.le_of_ble_eq_true rfl) dX1_timesOf_9 rfl rfl (fun r1 s2 => ?_)
  refine zx_icmp_ge (pc' := 15) (tgt := 40) dX1_timesOf_12 rfl rfl (fun hc => ?_) (fun hc => ?_)
  · refine zx_lift (pc' := 41) (fun _ => zq_iload_n rfl rfl dX1_timesOf_40 rfl) ?_
    exact zx_iret rfl dX1_timesOf_41
  · refine zx_lift (pc' := 16) (fun _ => zq_aload_n rfl rfl dX1_timesOf_15 rfl) ?_
    refine zx_lift (pc' := 17) (fun _ => zq_iload_n rfl rfl dX1_timesOf_16 rfl) ?_
    refine zx_lift (pc' := 18) (fun _ => zq_aload_n rfl rfl dX1_timesOf_17 rfl) ?_
    refine zx_lift (pc' := 21) (fun _ => zt_getR zfr_X1_9 zfd_56_0 dX1_timesOf_18 rfl) ?_
    refine zx_lift (pc' := 22) (fun _ => zq_iload_n rfl rfl dX1_timesOf_21 rfl) ?_
    refine zx_cVi (pc' := 25) zcv_X1_53 (cX3_goodAt_mc N v.2.1 s2) zob_31 rfl (by decide) (Nat.le_of_ble_eq_true rfl) dX1_timesOf_22 rfl rfl (fun r3 s4 => ?_)
    refine zx_cVi (pc' := 28) zcv_X1_57 (cX1_isTime_mc N f1 r3 s4) zob_56 rfl (by decide) (Nat.le_of_ble_eq_true rfl) dX1_timesOf_25 rfl rfl (fun r5 s6 => ?_)
    refine zx_if_eq (pc' := 31) (tgt := 34) dX1_timesOf_28 rfl rfl (fun hc => ?_) (fun hc => ?_)
    · exact xX1_timesOf_j34_j N f1 self hself v.1 v.2.1 s6
    · refine zx_iinc (pc' := 34) (ls' := fun x8 => [.ref 56, .int f1, .int x8, .int v.2.1]) rfl rfl (by decide) rfl (fun _ => rfl) dX1_timesOf_31 rfl (fun x8 => ?_)
      exact xX1_timesOf_j34_j N f1 self hself x8 v.2.1 s6
theorem yX1_timesOf_4 (N : Nat)  (f1 : Int32)  (n : Nat) : ∀ v : Int32 × Int32 × zq_S, zq_X yX1_timesOf RX1 cX1_timesOf 4 (some .int) ⟨4, 0, 0, 93⟩ zv_i 4 [.ref 56, .int f1, .int v.1, .int v.2.1] [] v.2.2 (zq_loop (bX1_timesOf_4 N f1 ) n v) := by
  induction n with
  | zero => exact fun v u hu => by cases hu
  | succ n ih =>
    intro v
    rw [zq_loop_s]
    exact xX1_timesOf_4 N f1  (zq_loop (bX1_timesOf_4 N f1 ) n) ih v
def mX1_timesOf (N : Nat)  (p1 : Int32) (s : zq_S) : Option (Int32 × zq_S) :=
  zq_loop (bX1_timesOf_4 N p1 ) N ((0 : Int32), (0 : Int32), s)
set_option maxRecDepth 20000 in
set_option maxHeartbeats 2000000 in
theorem xX1_timesOf (N : Nat)  (p1 : Int32) (s : zq_S) : zq_X yX1_timesOf RX1 cX1_timesOf 4 (some .int) ⟨4, 0, 0, 93⟩ zv_i 0 [.ref 56, .int p1, .null, .null] [] s (mX1_timesOf N p1 s) := by
  unfold mX1_timesOf
  refine zx_lift (pc' := 1) (fun _ => zq_iconst (v := 0) dX1_timesOf_0 rfl rfl) ?_
  refine zx_lift (pc' := 2) (fun _ => zq_istore_n (ls' := [.ref 56, .int p1, .int (0 : Int32), .null]) rfl (by decide) rfl rfl dX1_timesOf_1 rfl) ?_
  refine zx_lift (pc' := 3) (fun _ => zq_iconst (v := 0) dX1_timesOf_2 rfl rfl) ?_
  refine zx_lift (pc' := 4) (fun _ => zq_istore_n (ls' := [.ref 56, .int p1, .int (0 : Int32), .int (0 : Int32)]) rfl (by decide) rfl rfl dX1_timesOf_3 rfl) ?_
  refine yX1_timesOf_4 N p1  N ((0 : Int32), (0 : Int32), s)
theorem cX1_timesOf_mc (N : Nat)  (p1 : Int32) (s : zq_S) (v : Int32 × zq_S) (h : mX1_timesOf N p1 s = some v) : zq_MC yX1_timesOf cX1_timesOf 4 (some .int) ⟨4, 0, 0, 93⟩ 0 0 [.ref 56, .int p1] (zq_en s) (zv_i v.1, zq_en v.2) := zq_MC_x [.ref 56, .int p1, .null, .null] (by decide +kernel) rfl rfl (Nat.le_of_ble_eq_true rfl) (xX1_timesOf N p1 s) h
def jX11_times_j40 (N : Nat)   (t0 : Int32) (s : zq_S) : Option (Int32 × zq_S) :=
  some (t0, s)
set_option maxRecDepth 20000 in
set_option maxHeartbeats 2000000 in
theorem xX11_times_j40_j (N : Nat)   (t0 : Int32) (s : zq_S) : zq_X yX11_times RX11 cX11_times 3 (some .int) ⟨5, 0, 0, 117⟩ zv_i 40 [.null, .null, .null] [.int t0] s (jX11_times_j40 N t0 s) := by
  unfold jX11_times_j40
  exact zx_iret rfl dX11_times_40
def mX11_times (N : Nat)  (p1 : Int32) (p2 : Int32) (s : zq_S) : Option (Int32 × zq_S) :=
  zq_b2 (mX1_hasCopy N p1 s) (fun r1 s2 =>
  if r1 = (0 : Int32) then
  some ((-1001 : Int32), s2)
  else
  if p2 = (-1 : Int32) then
  zq_b2 (mX1_timesOf N p1 s2) (fun r5 s6 =>
  jX11_times_j40 N r5 s6)
  else
  zq_b2 (mX1_timeAt N p1 p2 s2) (fun r3 s4 =>
  jX11_times_j40 N r3 s4))
set_option maxRecDepth 20000 in
set_option maxHeartbeats 2000000 in
theorem xX11_times (N : Nat)  (p1 : Int32) (p2 : Int32) (s : zq_S) : zq_X yX11_times RX11 cX11_times 3 (some .int) ⟨5, 0, 0, 117⟩ zv_i 0 [.ref 0, .int p1, .int p2] [] s (mX11_times N p1 p2 s) := by
  unfold mX11_times
  refine zx_lift (pc' := 1) (fun _ => zq_aload_n rfl rfl dX11_times_0 rfl) ?_
  refine zx_lift (pc' := 4) (fun _ => zt_getR zfr_X11_95 zfd_0_8 dX11_times_1 rfl) ?_
  refine zx_lift (pc' := 5) (fun _ => zq_iload_n rfl rfl dX11_times_4 rfl) ?_
  refine zx_cVi (pc' := 8) zcv_X11_271 (cX1_hasCopy_mc N p1 s) zob_56 rfl (by decide) (Nat.le_of_ble_eq_true rfl) dX11_times_5 rfl rfl (fun r1 s2 => ?_)
  refine zx_if_ne (pc' := 11) (tgt := 15) dX11_times_8 rfl rfl (fun hc => ?_) (fun hc => ?_)
  · refine zx_lift (pc' := 16) (fun _ => zq_iload_n rfl rfl dX11_times_15 rfl) ?_
    refine zx_lift (pc' := 17) (fun _ => zq_iconst (v := (-1)) dX11_times_16 rfl rfl) ?_
    refine zx_icmp_ne (pc' := 20) (tgt := 31) dX11_times_17 rfl rfl (fun hc => ?_) (fun hc => ?_)
    · refine zx_lift (pc' := 32) (fun _ => zq_aload_n rfl rfl dX11_times_31 rfl) ?_
      refine zx_lift (pc' := 35) (fun _ => zt_getR zfr_X11_95 zfd_0_8 dX11_times_32 rfl) ?_
      refine zx_lift (pc' := 36) (fun _ => zq_iload_n rfl rfl dX11_times_35 rfl) ?_
      refine zx_lift (pc' := 37) (fun _ => zq_iload_n rfl rfl dX11_times_36 rfl) ?_
      refine zx_cVi (pc' := 40) zcv_X11_277 (cX1_timeAt_mc N p1 p2 s2) zob_56 rfl (by decide) (Nat.le_of_ble_eq_true rfl) dX11_times_37 rfl rfl (fun r3 s4 => ?_)
      refine zx_less [.null, .null, .null] (zq_cz (zq_cz (zq_cz zq_cn))) ?_
      exact xX11_times_j40_j N r3 s4
    · refine zx_lift (pc' := 21) (fun _ => zq_aload_n rfl rfl dX11_times_20 rfl) ?_
      refine zx_lift (pc' := 24) (fun _ => zt_getR zfr_X11_95 zfd_0_8 dX11_times_21 rfl) ?_
      refine zx_lift (pc' := 25) (fun _ => zq_iload_n rfl rfl dX11_times_24 rfl) ?_
      refine zx_cVi (pc' := 28) zcv_X11_274 (cX1_timesOf_mc N p1 s2) zob_56 rfl (by decide) (Nat.le_of_ble_eq_true rfl) dX11_times_25 rfl rfl (fun r5 s6 => ?_)
      refine zx_lift (pc' := 40) (fun _ => zq_goto dX11_times_28 rfl) ?_
      refine zx_less [.null, .null, .null] (zq_cz (zq_cz (zq_cz zq_cn))) ?_
      exact xX11_times_j40_j N r5 s6
  · refine zx_lift (pc' := 14) (fun _ => zq_sipush (v := (-1001)) dX11_times_11 rfl rfl) ?_
    exact zx_iret rfl dX11_times_14
theorem cX11_times_mc (N : Nat)  (p1 : Int32) (p2 : Int32) (s : zq_S) (v : Int32 × zq_S) (h : mX11_times N p1 p2 s = some v) : zq_MC yX11_times cX11_times 3 (some .int) ⟨5, 0, 0, 117⟩ 0 0 [.ref 0, .int p1, .int p2] (zq_en s) (zv_i v.1, zq_en v.2) := zq_MC_x [.ref 0, .int p1, .int p2] (by decide +kernel) rfl rfl (Nat.le_of_ble_eq_true rfl) (xX11_times N p1 p2 s) h
def jJ9_floorMod_f86c9_j25 (N : Nat)   (w4 : Int64) (s : zq_S) : Option (Int64 × zq_S) :=
  some (w4, s)
set_option maxRecDepth 20000 in
set_option maxHeartbeats 2000000 in
theorem xJ9_floorMod_f86c9_j25_j (N : Nat)   (w4 : Int64) (s : zq_S) : zq_X yJ9_floorMod_f86c9 RJ9 cJ9_floorMod_f86c9 6 (some .long) ⟨0, 0, 0, 0⟩ zv_l 25 [.null, .null, .null, .null, .long w4, .null] [] s (jJ9_floorMod_f86c9_j25 N w4 s) := by
  unfold jJ9_floorMod_f86c9_j25
  refine zx_lift (pc' := 27) (fun _ => zq_lload rfl dJ9_floorMod_f86c9_25 rfl) ?_
  exact zx_lret rfl dJ9_floorMod_f86c9_27
def mJ9_floorMod_f86c9 (N : Nat)  (p0 : Int64) (p2 : Int64) (s : zq_S) : Option (Int64 × zq_S) :=
  zq_nz p2 (
  zq_let (p0 - p0 / p2 * p2) (fun x1 =>
  if (0 : Int32) ≤ (lg_cmp (p0 ^^^ p2) (0 : Int64)) then
  jJ9_floorMod_f86c9_j25 N x1 s
  else
  if (lg_cmp x1 (0 : Int64)) = (0 : Int32) then
  jJ9_floorMod_f86c9_j25 N x1 s
  else
  some ((x1 + p2), s)))
set_option maxRecDepth 20000 in
set_option maxHeartbeats 2000000 in
theorem xJ9_floorMod_f86c9 (N : Nat)  (p0 : Int64) (p2 : Int64) (s : zq_S) : zq_X yJ9_floorMod_f86c9 RJ9 cJ9_floorMod_f86c9 6 (some .long) ⟨0, 0, 0, 0⟩ zv_l 0 [.long p0, .null, .long p2, .null, .null, .null] [] s (mJ9_floorMod_f86c9 N p0 p2 s) := by
  unfold mJ9_floorMod_f86c9
  refine zx_lift (pc' := 1) (fun _ => zq_lload_n rfl rfl dJ9_floorMod_f86c9_0 rfl) ?_
  refine zx_lift (pc' := 2) (fun _ => zq_lload_n rfl rfl dJ9_floorMod_f86c9_1 rfl) ?_
  refine zx_nz (fun hnz => ?_)
  refine zx_lift (pc' := 3) (fun _ => zq_lrem hnz dJ9_floorMod_f86c9_2 rfl) ?_
  refine zx_lstore (pc' := 5) (ls' := fun x1 => [.long p0, .null, .long p2, .null, .long x1, .null]) (by decide) rfl (fun _ => rfl) dJ9_floorMod_f86c9_3 rfl (fun x1 => ?_)
  refine zx_lift (pc' := 6) (fun _ => zq_lload_n rfl rfl dJ9_floorMod_f86c9_5 rfl) ?_
  refine zx_lift (pc' := 7) (fun _ => zq_lload_n rfl rfl dJ9_floorMod_f86c9_6 rfl) ?_
  refine zx_lift (pc' := 8) (fun _ => zq_lxor dJ9_floorMod_f86c9_7 rfl) ?_
  refine zx_lift (pc' := 9) (fun _ => zq_lconst (v := 0) dJ9_floorMod_f86c9_8 rfl rfl) ?_
  refine zx_lift (pc' := 10) (fun _ => zq_lcmp dJ9_floorMod_f86c9_9 rfl) ?_
  refine zx_if_ge (pc' := 13) (tgt := 25) dJ9_floorMod_f86c9_10 rfl rfl (fun hc => ?_) (fun hc => ?_)
  · refine zx_less [.null, .null, .null, .null, .long x1, .null] (zq_cz (zq_cz (zq_cz (zq_cz (zq_cr (zq_cz zq_cn)))))) ?_
    exact xJ9_floorMod_f86c9_j25_j N x1 s
  · refine zx_lift (pc' := 15) (fun _ => zq_lload rfl dJ9_floorMod_f86c9_13 rfl) ?_
    refine zx_lift (pc' := 16) (fun _ => zq_lconst (v := 0) dJ9_floorMod_f86c9_15 rfl rfl) ?_
    refine zx_lift (pc' := 17) (fun _ => zq_lcmp dJ9_floorMod_f86c9_16 rfl) ?_
    refine zx_if_eq (pc' := 20) (tgt := 25) dJ9_floorMod_f86c9_17 rfl rfl (fun hc => ?_) (fun hc => ?_)
    · refine zx_less [.null, .null, .null, .null, .long x1, .null] (zq_cz (zq_cz (zq_cz (zq_cz (zq_cr (zq_cz zq_cn)))))) ?_
      exact xJ9_floorMod_f86c9_j25_j N x1 s
    · refine zx_lift (pc' := 22) (fun _ => zq_lload rfl dJ9_floorMod_f86c9_20 rfl) ?_
      refine zx_lift (pc' := 23) (fun _ => zq_lload_n rfl rfl dJ9_floorMod_f86c9_22 rfl) ?_
      refine zx_lift (pc' := 24) (fun _ => zq_ladd dJ9_floorMod_f86c9_23 rfl) ?_
      exact zx_lret rfl dJ9_floorMod_f86c9_24
theorem cJ9_floorMod_f86c9_mc (N : Nat)  (p0 : Int64) (p2 : Int64) (s : zq_S) (v : Int64 × zq_S) (h : mJ9_floorMod_f86c9 N p0 p2 s = some v) : zq_MC yJ9_floorMod_f86c9 cJ9_floorMod_f86c9 6 (some .long) ⟨0, 0, 0, 0⟩ 0 0 [.long p0, .long p2] (zq_en s) (zv_l v.1, zq_en v.2) := zq_MC_xF [.long p0, .null, .long p2, .null, .null, .null] (by decide +kernel) rfl rfl (Nat.le_of_ble_eq_true rfl) (xJ9_floorMod_f86c9 N p0 p2 s) h
def jX8_scatter_j13 (N : Nat) (b0 : Bool)   (s : zq_S) : Option (Int32 × zq_S) :=
  some ((0 : Int32), s)
set_option maxRecDepth 20000 in
set_option maxHeartbeats 2000000 in
theorem xX8_scatter_j13_j (N : Nat) (b0 : Bool)   (s : zq_S) : zq_X yX8_scatter RX8 cX8_scatter 6 (some .int) ⟨1, 0, 0, 25⟩ zv_i 13 [.null, .null, .null, .null, .null, .null] [] s (jX8_scatter_j13 N b0 s) := by
  unfold jX8_scatter_j13
  refine zx_lift (pc' := 14) (fun _ => zq_iconst (v := 0) dX8_scatter_13 rfl rfl) ?_
  exact zx_iret rfl dX8_scatter_14
def bX8_scatter_26 (N : Nat) (b0 : Bool) (f1 : Int32) (f2 : Int32)  (self : Int64 × Int32 × zq_S → Option (Int32 × zq_S)) (v : Int64 × Int32 × zq_S) : Option (Int32 × zq_S) :=
  if (5 : Int32) ≤ v.2.1 then
  zq_b2 (mJ9_floorMod_f86c9 N v.1 (Int32.toInt64 f2) v.2.2) (fun r4 s5 =>
  some ((Int64.toInt32 r4), s5))
  else
  zq_ck ((f1 * (5 : Int32)) + v.2.1) (zfP b0) (
  zq_let ((v.1 ^^^ (zgl v.2.2 (zf b0 + 1) ((f1 * (5 : Int32)) + v.2.1))) * (-7046029254386353131 : Int64)) (fun x6 =>
  zq_let (x6 ^^^ ((Int64.toUInt64 x6 >>> ((Int32.toInt64 (29 : Int32)).toUInt64 &&& Int64.toUInt64 63)).toInt64)) (fun x7 =>
  zq_let (v.2.1 + (1 : Int32)) (fun x8 =>
  self (x7, x8, v.2.2)))))
set_option maxRecDepth 20000 in
set_option maxHeartbeats 2000000 in
theorem xX8_scatter_26 (N : Nat) (b0 : Bool) (f1 : Int32) (f2 : Int32)  (self : Int64 × Int32 × zq_S → Option (Int32 × zq_S)) (hself : ∀ v, zq_X yX8_scatter RX8 cX8_scatter 6 (some .int) ⟨1, 0, 0, 25⟩ zv_i 26 [.ref (zf b0), .int f1, .int f2, .long v.1, .null, .int v.2.1] [] v.2.2 (self v)) (v : Int64 × Int32 × zq_S) : zq_X yX8_scatter RX8 cX8_scatter 6 (some .int) ⟨1, 0, 0, 25⟩ zv_i 26 [.ref (zf b0), .int f1, .int f2, .long v.1, .null, .int v.2.1] [] v.2.2 (bX8_scatter_26 N b0 f1 f2 self v) := by
  unfold bX8_scatter_26
  refine zx_lift (pc' := 28) (fun _ => zq_iload rfl dX8_scatter_26 rfl) ?_
  refine zx_lift (pc' := 29) (fun _ => zq_iconst (v := 5) dX8_scatter_28 rfl rfl) ?_
  refine zx_icmp_ge (pc' := 32) (tgt := 63) dX8_scatter_29 rfl rfl (fun hc => ?_) (fun hc => ?_)
  · refine zx_lift (pc' := 64) (fun _ => zq_lload_n rfl rfl dX8_scatter_63 rfl) ?_
    refine zx_lift (pc' := 65) (fun _ => zq_iload_n rfl rfl dX8_scatter_64 rfl) ?_
    refine zx_lift (pc' := 66) (fun _ => zq_i2l dX8_scatter_65 rfl) ?_
    refine zx_cSl (pc' := 69) zcs_X8_47 (cJ9_floorMod_f86c9_mc N v.1 (Int32.toInt64 f2) v.2.2) rfl (by decide) (Nat.le_of_ble_eq_true rfl) dX8_scatter_66 rfl rfl (fun r4 s5 => ?_)
    refine zx_lift (pc' := 70) (fun _ => zq_l2i dX8_scatter_69 rfl) ?_
    exact zx_iret rfl dX8_scatter_70
  · refine zx_lift (pc' := 33) (fun _ => zq_lload_n rfl rfl dX8_scatter_32 rfl) ?_
    refine zx_lift (pc' := 34) (fun _ => zq_aload_n rfl rfl dX8_scatter_33 rfl) ?_
    refine zx_lift (pc' := 37) (fun _ => zt_getR zfr_X8_21 (zfd_f_1 b0) dX8_scatter_34 rfl) ?_
    refine zx_lift (pc' := 38) (fun _ => zq_iload_n rfl rfl dX8_scatter_37 rfl) ?_
    refine zx_lift (pc' := 39) (fun _ => zq_iconst (v := 5) dX8_scatter_38 rfl rfl) ?_
    refine zx_lift (pc' := 40) (fun _ => zq_imul dX8_scatter_39 rfl) ?_
    refine zx_lift (pc' := 42) (fun _ => zq_iload rfl dX8_scatter_40 rfl) ?_
    refine zx_lift (pc' := 43) (fun _ => zq_iadd dX8_scatter_42 rfl) ?_
    refine zx_laload (pc' := 44) (zsh_f1 b0) dX8_scatter_43 rfl ?_
    refine zx_lift (pc' := 45) (fun _ => zq_lxor dX8_scatter_44 rfl) ?_
    refine zx_lift (pc' := 48) (fun _ => zq_ldc2 zk_X8_45 dX8_scatter_45 rfl) ?_
    refine zx_lift (pc' := 49) (fun _ => zq_lmul dX8_scatter_48 rfl) ?_
    refine zx_lstore_n (pc' := 50) (ls' := fun x6 => [.ref (zf b0), .int f1, .int f2, .long x6, .null, .int v.2.1]) rfl (by decide) rfl (fun _ => rfl) dX8_scatter_49 rfl (fun x6 => ?_)
    refine zx_lift (pc' := 51) (fun _ => zq_lload_n rfl rfl dX8_scatter_50 rfl) ?_
    refine zx_lift (pc' := 52) (fun _ => zq_lload_n rfl rfl dX8_scatter_51 rfl) ?_
    refine zx_lift (pc' := 54) (fun _ => zq_bipush (v := 29) dX8_scatter_52 rfl rfl) ?_
    refine zx_lift (pc' := 55) (fun _ => zq_lushr dX8_scatter_54 rfl) ?_
    refine zx_lift (pc' := 56) (fun _ => zq_lxor dX8_scatter_55 rfl) ?_
    refine zx_lstore_n (pc' := 57) (ls' := fun x7 => [.ref (zf b0), .int f1, .int f2, .long x7, .null, .int v.2.1]) rfl (by decide) rfl (fun _ => rfl) dX8_scatter_56 rfl (fun x7 => ?_)
    refine zx_iinc (pc' := 60) (ls' := fun x8 => [.ref (zf b0), .int f1, .int f2, .long x7, .null, .int x8]) rfl rfl (by decide) rfl (fun _ => rfl) dX8_scatter_57 rfl (fun x8 => ?_)
    refine zx_lift (pc' := 26) (fun _ => zq_goto dX8_scatter_60 rfl) ?_
    exact hself (x7, x8, v.2.2)
theorem yX8_scatter_26 (N : Nat) (b0 : Bool) (f1 : Int32) (f2 : Int32)  (n : Nat) : ∀ v : Int64 × Int32 × zq_S, zq_X yX8_scatter RX8 cX8_scatter 6 (some .int) ⟨1, 0, 0, 25⟩ zv_i 26 [.ref (zf b0), .int f1, .int f2, .long v.1, .null, .int v.2.1] [] v.2.2 (zq_loop (bX8_scatter_26 N b0 f1 f2 ) n v) := by
  induction n with
  | zero => exact fun v u hu => by cases hu
  | succ n ih =>
    intro v
    rw [zq_loop_s]
    exact xX8_scatter_26 N b0 f1 f2  (zq_loop (bX8_scatter_26 N b0 f1 f2 ) n) ih v
def mX8_scatter (N : Nat) (b0 : Bool) (p1 : Int32) (p2 : Int32) (s : zq_S) : Option (Int32 × zq_S) :=
  zq_b2 (mX8_isMade N b0 p1 s) (fun r1 s2 =>
  if r1 = (0 : Int32) then
  jX8_scatter_j13 N b0 s2
  else
  if (1 : Int32) ≤ p2 then
  zq_ck p1 (zfS b0) (
  zq_let (Int32.toInt64 (zga s2 (zf b0 + 2) p1)) (fun x3 =>
  zq_loop (bX8_scatter_26 N b0 p1 p2 ) N (x3, (0 : Int32), s2)))
  else
  jX8_scatter_j13 N b0 s2)
set_option maxRecDepth 20000 in
set_option maxHeartbeats 2000000 in
theorem xX8_scatter (N : Nat) (b0 : Bool) (p1 : Int32) (p2 : Int32) (s : zq_S) : zq_X yX8_scatter RX8 cX8_scatter 6 (some .int) ⟨1, 0, 0, 25⟩ zv_i 0 [.ref (zf b0), .int p1, .int p2, .null, .null, .null] [] s (mX8_scatter N b0 p1 p2 s) := by
  unfold mX8_scatter
  refine zx_lift (pc' := 1) (fun _ => zq_aload_n rfl rfl dX8_scatter_0 rfl) ?_
  refine zx_lift (pc' := 2) (fun _ => zq_iload_n rfl rfl dX8_scatter_1 rfl) ?_
  refine zx_cVi (pc' := 5) zcv_X8_35 (cX8_isMade_mc N b0 p1 s) (zob_f b0) rfl (by decide) (Nat.le_of_ble_eq_true rfl) dX8_scatter_2 rfl rfl (fun r1 s2 => ?_)
  refine zx_if_eq (pc' := 8) (tgt := 13) dX8_scatter_5 rfl rfl (fun hc => ?_) (fun hc => ?_)
  · refine zx_less [.null, .null, .null, .null, .null, .null] (zq_cz (zq_cz (zq_cz (zq_cz (zq_cz (zq_cz zq_cn)))))) ?_
    exact xX8_scatter_j13_j N b0 s2
  · refine zx_lift (pc' := 9) (fun _ => zq_iload_n rfl rfl dX8_scatter_8 rfl) ?_
    refine zx_lift (pc' := 10) (fun _ => zq_iconst (v := 1) dX8_scatter_9 rfl rfl) ?_
    refine zx_icmp_ge (pc' := 13) (tgt := 15) dX8_scatter_10 rfl rfl (fun hc => ?_) (fun hc => ?_)
    · refine zx_lift (pc' := 16) (fun _ => zq_aload_n rfl rfl dX8_scatter_15 rfl) ?_
      refine zx_lift (pc' := 19) (fun _ => zt_getR zfr_X8_25 (zfd_f_2 b0) dX8_scatter_16 rfl) ?_
      refine zx_lift (pc' := 20) (fun _ => zq_iload_n rfl rfl dX8_scatter_19 rfl) ?_
      refine zx_iaload (pc' := 21) (zsh_f2 b0) dX8_scatter_20 rfl ?_
      refine zx_lift (pc' := 22) (fun _ => zq_i2l dX8_scatter_21 rfl) ?_
      refine zx_lstore_n (pc' := 23) (ls' := fun x3 => [.ref (zf b0), .int p1, .int p2, .long x3, .null, .null]) rfl (by decide) rfl (fun _ => rfl) dX8_scatter_22 rfl (fun x3 => ?_)
      refine zx_lift (pc' := 24) (fun _ => zq_iconst (v := 0) dX8_scatter_23 rfl rfl) ?_
      refine zx_lift (pc' := 26) (fun _ => zq_istore (ls' := [.ref (zf b0), .int p1, .int p2, .long x3, .null, .int (0 : Int32)]) (by decide) rfl rfl dX8_scatter_24 rfl) ?_
      refine yX8_scatter_26 N b0 p1 p2  N (x3, (0 : Int32), s2)
    · refine zx_less [.null, .null, .null, .null, .null, .null] (zq_cz (zq_cz (zq_cz (zq_cz (zq_cz (zq_cz zq_cn)))))) ?_
      exact xX8_scatter_j13_j N b0 s2
theorem cX8_scatter_mc (N : Nat) (b0 : Bool) (p1 : Int32) (p2 : Int32) (s : zq_S) (v : Int32 × zq_S) (h : mX8_scatter N b0 p1 p2 s = some v) : zq_MC yX8_scatter cX8_scatter 6 (some .int) ⟨1, 0, 0, 25⟩ 0 0 [.ref (zf b0), .int p1, .int p2] (zq_en s) (zv_i v.1, zq_en v.2) := zq_MC_x [.ref (zf b0), .int p1, .int p2, .null, .null, .null] (by decide +kernel) rfl rfl (Nat.le_of_ble_eq_true rfl) (xX8_scatter N b0 p1 p2 s) h
def bX10_slotFor_21 (N : Nat)  (f1 : Int32) (k58 : Int32 × zq_S → Option (Int32 × zq_S)) (self : Int32 × Int32 × zq_S → Option (Int32 × zq_S)) (v : Int32 × Int32 × zq_S) : Option (Int32 × zq_S) :=
  if (2048 : Int32) ≤ v.2.1 then
  some (v.1, v.2.2)
  else
  zq_ck v.1 4096 (
  if (lg_cmp (zgl v.2.2 1 v.1) (-1 : Int64)) = (0 : Int32) then
  k58 (v.1, v.2.2)
  else
  zq_ck v.1 4096 (
  zq_b2 (mX8_isAlike N false false f1 (Int64.toInt32 (zgl v.2.2 1 v.1)) v.2.2) (fun r5 s6 =>
  if r5 = (0 : Int32) then
  zq_let (if (2048 : Int32) ≤ (v.1 + (1 : Int32)) then (0 : Int32) else (v.1 + (1 : Int32))) (fun x7 =>
  zq_let (v.2.1 + (1 : Int32)) (fun x8 =>
  self (x7, x8, s6)))
  else
  k58 (v.1, s6))))
set_option maxRecDepth 20000 in
set_option maxHeartbeats 2000000 in
theorem xX10_slotFor_21 (N : Nat)  (f1 : Int32) (k58 : Int32 × zq_S → Option (Int32 × zq_S)) (hk58 : ∀ e, zq_X yX10_slotFor RX10 cX10_slotFor 5 (some .int) ⟨3, 0, 0, 71⟩ zv_i 58 [.null, .null, .null, .int e.1, .null] [] e.2 (k58 e)) (self : Int32 × Int32 × zq_S → Option (Int32 × zq_S)) (hself : ∀ v, zq_X yX10_slotFor RX10 cX10_slotFor 5 (some .int) ⟨3, 0, 0, 71⟩ zv_i 21 [.ref 49, .int f1, .ref (zf false), .int v.1, .int v.2.1] [] v.2.2 (self v)) (v : Int32 × Int32 × zq_S) : zq_X yX10_slotFor RX10 cX10_slotFor 5 (some .int) ⟨3, 0, 0, 71⟩ zv_i 21 [.ref 49, .int f1, .ref (zf false), .int v.1, .int v.2.1] [] v.2.2 (bX10_slotFor_21 N f1 k58 self v) := by
  unfold bX10_slotFor_21
  refine zx_lift (pc' := 23) (fun _ => zq_iload rfl dX10_slotFor_21 rfl) ?_
  refine zx_lift (pc' := 26) (fun _ => zq_sipush (v := 2048) dX10_slotFor_23 rfl rfl) ?_
  refine zx_icmp_ge (pc' := 29) (tgt := 83) dX10_slotFor_26 rfl rfl (fun hc => ?_) (fun hc => ?_)
  · refine zx_lift (pc' := 84) (fun _ => zq_iload_n rfl rfl dX10_slotFor_83 rfl) ?_
    exact zx_iret rfl dX10_slotFor_84
  · refine zx_lift (pc' := 30) (fun _ => zq_aload_n rfl rfl dX10_slotFor_29 rfl) ?_
    refine zx_lift (pc' := 33) (fun _ => zt_getR zfr_X10_27 zfd_49_2 dX10_slotFor_30 rfl) ?_
    refine zx_lift (pc' := 34) (fun _ => zq_iload_n rfl rfl dX10_slotFor_33 rfl) ?_
    refine zx_laload (pc' := 35) zsh_1 dX10_slotFor_34 rfl ?_
    refine zx_lift (pc' := 38) (fun _ => zq_ldc2 zk_X10_46 dX10_slotFor_35 rfl) ?_
    refine zx_lift (pc' := 39) (fun _ => zq_lcmp dX10_slotFor_38 rfl) ?_
    refine zx_if_eq (pc' := 42) (tgt := 58) dX10_slotFor_39 rfl rfl (fun hc => ?_) (fun hc => ?_)
    · refine zx_less [.null, .null, .null, .int v.1, .null] (zq_cz (zq_cz (zq_cz (zq_cr (zq_cz zq_cn))))) ?_
      exact hk58 (v.1, v.2.2)
    · refine zx_lift (pc' := 43) (fun _ => zq_aload_n rfl rfl dX10_slotFor_42 rfl) ?_
      refine zx_lift (pc' := 44) (fun _ => zq_iload_n rfl rfl dX10_slotFor_43 rfl) ?_
      refine zx_lift (pc' := 45) (fun _ => zq_aload_n rfl rfl dX10_slotFor_44 rfl) ?_
      refine zx_lift (pc' := 46) (fun _ => zq_aload_n rfl rfl dX10_slotFor_45 rfl) ?_
      refine zx_lift (pc' := 49) (fun _ => zt_getR zfr_X10_27 zfd_49_2 dX10_slotFor_46 rfl) ?_
      refine zx_lift (pc' := 50) (fun _ => zq_iload_n rfl rfl dX10_slotFor_49 rfl) ?_
      refine zx_laload (pc' := 51) zsh_1 dX10_slotFor_50 rfl ?_
      refine zx_lift (pc' := 52) (fun _ => zq_l2i dX10_slotFor_51 rfl) ?_
      refine zx_cVi (pc' := 55) zcv_X10_76 (cX8_isAlike_mc N false false f1 (Int64.toInt32 (zgl v.2.2 1 v.1)) v.2.2) (zob_f false) rfl (by decide) (Nat.le_of_ble_eq_true rfl) dX10_slotFor_52 rfl rfl (fun r5 s6 => ?_)
      refine zx_if_eq (pc' := 58) (tgt := 60) dX10_slotFor_55 rfl rfl (fun hc => ?_) (fun hc => ?_)
      · refine zx_lift (pc' := 61) (fun _ => zq_iload_n rfl rfl dX10_slotFor_60 rfl) ?_
        refine zx_lift (pc' := 62) (fun _ => zq_iconst (v := 1) dX10_slotFor_61 rfl rfl) ?_
        refine zx_lift (pc' := 63) (fun _ => zq_iadd dX10_slotFor_62 rfl) ?_
        refine zx_lift (pc' := 66) (fun _ => zq_sipush (v := 2048) dX10_slotFor_63 rfl rfl) ?_
        refine zx_tern (pcJ := 76) (lsJ := fun x7 => [.ref 49, .int f1, .ref (zf false), .null, .int v.2.1]) (stJ := fun x7 => [.int x7]) (fun x7 => ?_) (fun f hJ => ?_)
        rotate_left
        · refine zx_licmp_ge (pc' := 69) (tgt := 75) dX10_slotFor_66 rfl rfl (fun _ => ?_) (fun _ => ?_)
          · refine zx_lift (pc' := 76) (fun _ => zq_iconst (v := 0) dX10_slotFor_75 rfl rfl) ?_
            exact zx_lessJ (zq_cr (zq_cr (zq_cr (zq_cz (zq_cr zq_cn))))) (hJ _)
          · refine zx_lift (pc' := 70) (fun _ => zq_iload_n rfl rfl dX10_slotFor_69 rfl) ?_
            refine zx_lift (pc' := 71) (fun _ => zq_iconst (v := 1) dX10_slotFor_70 rfl rfl) ?_
            refine zx_lift (pc' := 72) (fun _ => zq_iadd dX10_slotFor_71 rfl) ?_
            refine zx_lift (pc' := 76) (fun _ => zq_goto dX10_slotFor_72 rfl) ?_
            exact zx_lessJ (zq_cr (zq_cr (zq_cr (zq_cz (zq_cr zq_cn))))) (hJ _)
        refine zx_lift (pc' := 77) (fun _ => zq_istore_n (ls' := [.ref 49, .int f1, .ref (zf false), .int x7, .int v.2.1]) rfl (by decide) rfl rfl dX10_slotFor_76 rfl) ?_
        refine zx_iinc (pc' := 80) (ls' := fun x8 => [.ref 49, .int f1, .ref (zf false), .int x7, .int x8]) rfl rfl (by decide) rfl (fun _ => rfl) dX10_slotFor_77 rfl (fun x8 => ?_)
        refine zx_lift (pc' := 21) (fun _ => zq_goto dX10_slotFor_80 rfl) ?_
        exact hself (x7, x8, s6)
      · refine zx_less [.null, .null, .null, .int v.1, .null] (zq_cz (zq_cz (zq_cz (zq_cr (zq_cz zq_cn))))) ?_
        exact hk58 (v.1, s6)
theorem yX10_slotFor_21 (N : Nat)  (f1 : Int32) (k58 : Int32 × zq_S → Option (Int32 × zq_S)) (hk58 : ∀ e, zq_X yX10_slotFor RX10 cX10_slotFor 5 (some .int) ⟨3, 0, 0, 71⟩ zv_i 58 [.null, .null, .null, .int e.1, .null] [] e.2 (k58 e)) (n : Nat) : ∀ v : Int32 × Int32 × zq_S, zq_X yX10_slotFor RX10 cX10_slotFor 5 (some .int) ⟨3, 0, 0, 71⟩ zv_i 21 [.ref 49, .int f1, .ref (zf false), .int v.1, .int v.2.1] [] v.2.2 (zq_loop (bX10_slotFor_21 N f1 k58) n v) := by
  induction n with
  | zero => exact fun v u hu => by cases hu
  | succ n ih =>
    intro v
    rw [zq_loop_s]
    exact xX10_slotFor_21 N f1 k58 hk58 (zq_loop (bX10_slotFor_21 N f1 k58) n) ih v
def jX10_slotFor_j58 (N : Nat)   (w3 : Int32) (s : zq_S) : Option (Int32 × zq_S) :=
  some (w3, s)
set_option maxRecDepth 20000 in
set_option maxHeartbeats 2000000 in
theorem xX10_slotFor_j58_j (N : Nat)   (w3 : Int32) (s : zq_S) : zq_X yX10_slotFor RX10 cX10_slotFor 5 (some .int) ⟨3, 0, 0, 71⟩ zv_i 58 [.null, .null, .null, .int w3, .null] [] s (jX10_slotFor_j58 N w3 s) := by
  unfold jX10_slotFor_j58
  refine zx_lift (pc' := 59) (fun _ => zq_iload_n rfl rfl dX10_slotFor_58 rfl) ?_
  exact zx_iret rfl dX10_slotFor_59
def mX10_slotFor (N : Nat)  (p1 : Int32) (s : zq_S) : Option (Int32 × zq_S) :=
  zq_b2 (mX9_with N p1 s) (fun r1 s2 =>
  zq_b2 (mX8_scatter N false p1 (2048 : Int32) s2) (fun r3 s4 =>
  zq_loop (bX10_slotFor_21 N p1 (fun e9 =>
  jX10_slotFor_j58 N e9.1 e9.2)) N (r3, (0 : Int32), s4)))
set_option maxRecDepth 20000 in
set_option maxHeartbeats 2000000 in
theorem xX10_slotFor (N : Nat)  (p1 : Int32) (s : zq_S) : zq_X yX10_slotFor RX10 cX10_slotFor 5 (some .int) ⟨3, 0, 0, 71⟩ zv_i 0 [.ref 49, .int p1, .null, .null, .null] [] s (mX10_slotFor N p1 s) := by
  unfold mX10_slotFor
  refine zx_lift (pc' := 1) (fun _ => zq_aload_n rfl rfl dX10_slotFor_0 rfl) ?_
  refine zx_lift (pc' := 4) (fun _ => zt_getR zfr_X10_23 zfd_49_1 dX10_slotFor_1 rfl) ?_
  refine zx_lift (pc' := 5) (fun _ => zq_iload_n rfl rfl dX10_slotFor_4 rfl) ?_
  refine zx_cVw (pc' := 8) zcv_X10_64 (cX9_with_mc N p1 s) zob_38 rfl (by decide) (Nat.le_of_ble_eq_true rfl) dX10_slotFor_5 rfl rfl (fun r1 s2 => ?_)
  refine zx_lift (pc' := 9) (fun _ => zq_astore_n (ls' := [.ref 49, .int p1, .ref (zf false), .null, .null]) rfl (by decide) rfl rfl dX10_slotFor_8 rfl) ?_
  refine zx_lift (pc' := 10) (fun _ => zq_aload_n rfl rfl dX10_slotFor_9 rfl) ?_
  refine zx_lift (pc' := 11) (fun _ => zq_iload_n rfl rfl dX10_slotFor_10 rfl) ?_
  refine zx_lift (pc' := 14) (fun _ => zq_sipush (v := 2048) dX10_slotFor_11 rfl rfl) ?_
  refine zx_cVi (pc' := 17) zcv_X10_70 (cX8_scatter_mc N false p1 (2048 : Int32) s2) (zob_f false) rfl (by decide) (Nat.le_of_ble_eq_true rfl) dX10_slotFor_14 rfl rfl (fun r3 s4 => ?_)
  refine zx_lift (pc' := 18) (fun _ => zq_istore_n (ls' := [.ref 49, .int p1, .ref (zf false), .int r3, .null]) rfl (by decide) rfl rfl dX10_slotFor_17 rfl) ?_
  refine zx_lift (pc' := 19) (fun _ => zq_iconst (v := 0) dX10_slotFor_18 rfl rfl) ?_
  refine zx_lift (pc' := 21) (fun _ => zq_istore (ls' := [.ref 49, .int p1, .ref (zf false), .int r3, .int (0 : Int32)]) (by decide) rfl rfl dX10_slotFor_19 rfl) ?_
  refine yX10_slotFor_21 N p1 _ (fun e9 => ?_) N (r3, (0 : Int32), s4)
  exact xX10_slotFor_j58_j N e9.1 e9.2
theorem cX10_slotFor_mc (N : Nat)  (p1 : Int32) (s : zq_S) (v : Int32 × zq_S) (h : mX10_slotFor N p1 s = some v) : zq_MC yX10_slotFor cX10_slotFor 5 (some .int) ⟨3, 0, 0, 71⟩ 0 0 [.ref 49, .int p1] (zq_en s) (zv_i v.1, zq_en v.2) := zq_MC_x [.ref 49, .int p1, .null, .null, .null] (by decide +kernel) rfl rfl (Nat.le_of_ble_eq_true rfl) (xX10_slotFor N p1 s) h
def jX10_findAll_j84 (N : Nat)    (self : Int32 × zq_S → Option (Unit × zq_S)) (w1 : Int32) (s : zq_S) : Option (Unit × zq_S) :=
  zq_let (w1 + (1 : Int32)) (fun x9 =>
  self (x9, s))
set_option maxRecDepth 20000 in
set_option maxHeartbeats 2000000 in
theorem xX10_findAll_j84_j (N : Nat)    (self : Int32 × zq_S → Option (Unit × zq_S)) (hself : ∀ v, zq_X yX10_findAll RX10 cX10_findAll 4 none ⟨4, 0, 0, 95⟩ zv_v 17 [.ref 49, .int v.1, .null, .null] [] v.2 (self v)) (w1 : Int32) (s : zq_S) : zq_X yX10_findAll RX10 cX10_findAll 4 none ⟨4, 0, 0, 95⟩ zv_v 84 [.ref 49, .int w1, .null, .null] [] s (jX10_findAll_j84 N self w1 s) := by
  unfold jX10_findAll_j84
  refine zx_iinc (pc' := 87) (ls' := fun x9 => [.ref 49, .int x9, .null, .null]) rfl rfl (by decide) rfl (fun _ => rfl) dX10_findAll_84 rfl (fun x9 => ?_)
  refine zx_lift (pc' := 17) (fun _ => zq_goto dX10_findAll_87 rfl) ?_
  exact hself (x9, s)
def bX10_findAll_17 (N : Nat)    (self : Int32 × zq_S → Option (Unit × zq_S)) (v : Int32 × zq_S) : Option (Unit × zq_S) :=
  zq_b2 (mX3_goodCount N v.2) (fun r3 s4 =>
  if r3 ≤ v.1 then
  some ((), s4)
  else
  zq_b2 (mX3_goodAt N v.1 s4) (fun r5 s6 =>
  zq_b2 (mX10_slotFor N r5 s6) (fun r7 s8 =>
  zq_ck r7 4096 (
  if (lg_cmp (zgl s8 1 r7) (-1 : Int64)) = (0 : Int32) then
  zq_ck r7 4096 (
  zq_let (zpl s8 1 r7 (Int32.toInt64 r5)) (fun s10 =>
  zq_ck (zgf s10 49 4) 1024 (
  zq_let (zpa s10 50 (zgf s10 49 4) r5) (fun s11 =>
  zq_let (zpf s11 49 4 ((zgf s11 49 4) + (1 : Int32))) (fun s12 =>
  jX10_findAll_j84 N self v.1 s12)))))
  else
  jX10_findAll_j84 N self v.1 s8))))
set_option maxRecDepth 20000 in
set_option maxHeartbeats 2000000 in
theorem xX10_findAll_17 (N : Nat)    (self : Int32 × zq_S → Option (Unit × zq_S)) (hself : ∀ v, zq_X yX10_findAll RX10 cX10_findAll 4 none ⟨4, 0, 0, 95⟩ zv_v 17 [.ref 49, .int v.1, .null, .null] [] v.2 (self v)) (v : Int32 × zq_S) : zq_X yX10_findAll RX10 cX10_findAll 4 none ⟨4, 0, 0, 95⟩ zv_v 17 [.ref 49, .int v.1, .null, .null] [] v.2 (bX10_findAll_17 N self v) := by
  unfold bX10_findAll_17
  refine zx_lift (pc' := 18) (fun _ => zq_iload_n rfl rfl dX10_findAll_17 rfl) ?_
  refine zx_lift (pc' := 19) (fun _ => zq_aload_n rfl rfl dX10_findAll_18 rfl) ?_
  refine zx_lift (pc' := 22) (fun _ => zt_getR zfr_X10_19 zfd_49_0 dX10_findAll_19 rfl) ?_
  refine zx_cVi (pc' := 25) zcv_X10_54 (cX3_goodCount_mc N v.2) zob_31 rfl (by decide) (Nat.le_of_ble_eq_true rfl) dX10_findAll_22 rfl rfl (fun r3 s4 => ?_)
  refine zx_icmp_ge (pc' := 28) (tgt := 90) dX10_findAll_25 rfl rfl (fun hc => ?_) (fun hc => ?_)
  · exact zx_vret rfl dX10_findAll_90
  · refine zx_lift (pc' := 29) (fun _ => zq_aload_n rfl rfl dX10_findAll_28 rfl) ?_
    refine zx_lift (pc' := 32) (fun _ => zt_getR zfr_X10_19 zfd_49_0 dX10_findAll_29 rfl) ?_
    refine zx_lift (pc' := 33) (fun _ => zq_iload_n rfl rfl dX10_findAll_32 rfl) ?_
    refine zx_cVi (pc' := 36) zcv_X10_57 (cX3_goodAt_mc N v.1 s4) zob_31 rfl (by decide) (Nat.le_of_ble_eq_true rfl) dX10_findAll_33 rfl rfl (fun r5 s6 => ?_)
    refine zx_lift (pc' := 37) (fun _ => zq_istore_n (ls' := [.ref 49, .int v.1, .int r5, .null]) rfl (by decide) rfl rfl dX10_findAll_36 rfl) ?_
    refine zx_lift (pc' := 38) (fun _ => zq_aload_n rfl rfl dX10_findAll_37 rfl) ?_
    refine zx_lift (pc' := 39) (fun _ => zq_iload_n rfl rfl dX10_findAll_38 rfl) ?_
    refine zx_cVi (pc' := 42) zcv_X10_61 (cX10_slotFor_mc N r5 s6) zob_49 rfl (by decide) (Nat.le_of_ble_eq_true rfl) dX10_findAll_39 rfl rfl (fun r7 s8 => ?_)
    refine zx_lift (pc' := 43) (fun _ => zq_istore_n (ls' := [.ref 49, .int v.1, .int r5, .int r7]) rfl (by decide) rfl rfl dX10_findAll_42 rfl) ?_
    refine zx_lift (pc' := 44) (fun _ => zq_aload_n rfl rfl dX10_findAll_43 rfl) ?_
    refine zx_lift (pc' := 47) (fun _ => zt_getR zfr_X10_27 zfd_49_2 dX10_findAll_44 rfl) ?_
    refine zx_lift (pc' := 48) (fun _ => zq_iload_n rfl rfl dX10_findAll_47 rfl) ?_
    refine zx_laload (pc' := 49) zsh_1 dX10_findAll_48 rfl ?_
    refine zx_lift (pc' := 52) (fun _ => zq_ldc2 zk_X10_46 dX10_findAll_49 rfl) ?_
    refine zx_lift (pc' := 53) (fun _ => zq_lcmp dX10_findAll_52 rfl) ?_
    refine zx_if_ne (pc' := 56) (tgt := 84) dX10_findAll_53 rfl rfl (fun hc => ?_) (fun hc => ?_)
    · refine zx_less [.ref 49, .int v.1, .null, .null] (zq_cr (zq_cr (zq_cz (zq_cz zq_cn)))) ?_
      exact xX10_findAll_j84_j N self hself v.1 s8
    · refine zx_lift (pc' := 57) (fun _ => zq_aload_n rfl rfl dX10_findAll_56 rfl) ?_
      refine zx_lift (pc' := 60) (fun _ => zt_getR zfr_X10_27 zfd_49_2 dX10_findAll_57 rfl) ?_
      refine zx_lift (pc' := 61) (fun _ => zq_iload_n rfl rfl dX10_findAll_60 rfl) ?_
      refine zx_lift (pc' := 62) (fun _ => zq_iload_n rfl rfl dX10_findAll_61 rfl) ?_
      refine zx_lift (pc' := 63) (fun _ => zq_i2l dX10_findAll_62 rfl) ?_
      refine zx_lastore (pc' := 64) zsh_1 dX10_findAll_63 rfl (fun s10 => ?_)
      refine zx_lift (pc' := 65) (fun _ => zq_aload_n rfl rfl dX10_findAll_64 rfl) ?_
      refine zx_lift (pc' := 68) (fun _ => zt_getR zfr_X10_9 zfd_49_3 dX10_findAll_65 rfl) ?_
      refine zx_lift (pc' := 69) (fun _ => zq_aload_n rfl rfl dX10_findAll_68 rfl) ?_
      refine zx_lift (pc' := 72) (fun _ => zt_getI zfr_X10_39 zfd_49_4 dX10_findAll_69 rfl) ?_
      refine zx_lift (pc' := 73) (fun _ => zq_iload_n rfl rfl dX10_findAll_72 rfl) ?_
      refine zx_iastore (pc' := 74) zsh_50 dX10_findAll_73 rfl (fun s11 => ?_)
      refine zx_lift (pc' := 75) (fun _ => zq_aload_n rfl rfl dX10_findAll_74 rfl) ?_
      refine zx_lift (pc' := 76) (fun _ => zq_dup rfl dX10_findAll_75 rfl) ?_
      refine zx_lift (pc' := 79) (fun _ => zt_getI zfr_X10_39 zfd_49_4 dX10_findAll_76 rfl) ?_
      refine zx_lift (pc' := 80) (fun _ => zq_iconst (v := 1) dX10_findAll_79 rfl rfl) ?_
      refine zx_lift (pc' := 81) (fun _ => zq_iadd dX10_findAll_80 rfl) ?_
      refine zx_putI (pc' := 84) zfr_X10_39 (fun _ => ⟨rfl, rfl⟩) zfd_49_4 dX10_findAll_81 rfl (fun s12 => ?_)
      refine zx_less [.ref 49, .int v.1, .null, .null] (zq_cr (zq_cr (zq_cz (zq_cz zq_cn)))) ?_
      exact xX10_findAll_j84_j N self hself v.1 s12
theorem yX10_findAll_17 (N : Nat)    (n : Nat) : ∀ v : Int32 × zq_S, zq_X yX10_findAll RX10 cX10_findAll 4 none ⟨4, 0, 0, 95⟩ zv_v 17 [.ref 49, .int v.1, .null, .null] [] v.2 (zq_loop (bX10_findAll_17 N ) n v) := by
  induction n with
  | zero => exact fun v u hu => by cases hu
  | succ n ih =>
    intro v
    rw [zq_loop_s]
    exact xX10_findAll_17 N  (zq_loop (bX10_findAll_17 N ) n) ih v
def mX10_findAll (N : Nat)   (s : zq_S) : Option (Unit × zq_S) :=
  zq_let (zpf s 49 4 (0 : Int32)) (fun s1 =>
  zq_let (zpfl s1 1 4096 (-1 : Int64)) (fun s2 =>
  zq_loop (bX10_findAll_17 N ) N ((0 : Int32), s2)))
set_option maxRecDepth 20000 in
set_option maxHeartbeats 2000000 in
theorem xX10_findAll (N : Nat)   (s : zq_S) : zq_X yX10_findAll RX10 cX10_findAll 4 none ⟨4, 0, 0, 95⟩ zv_v 0 [.ref 49, .null, .null, .null] [] s (mX10_findAll N s) := by
  unfold mX10_findAll
  refine zx_lift (pc' := 1) (fun _ => zq_aload_n rfl rfl dX10_findAll_0 rfl) ?_
  refine zx_lift (pc' := 2) (fun _ => zq_iconst (v := 0) dX10_findAll_1 rfl rfl) ?_
  refine zx_putI (pc' := 5) zfr_X10_39 (fun _ => ⟨rfl, rfl⟩) zfd_49_4 dX10_findAll_2 rfl (fun s1 => ?_)
  refine zx_lift (pc' := 6) (fun _ => zq_aload_n rfl rfl dX10_findAll_5 rfl) ?_
  refine zx_lift (pc' := 9) (fun _ => zt_getR zfr_X10_27 zfd_49_2 dX10_findAll_6 rfl) ?_
  refine zx_lift (pc' := 12) (fun _ => zq_ldc2 zk_X10_46 dX10_findAll_9 rfl) ?_
  refine zx_fillL (pc' := 15) zcs_X10_48 zsh_1 ⟨by decide, by decide, Nat.le_of_ble_eq_true rfl⟩ dX10_findAll_12 rfl (fun s2 => ?_)
  refine zx_lift (pc' := 16) (fun _ => zq_iconst (v := 0) dX10_findAll_15 rfl rfl) ?_
  refine zx_lift (pc' := 17) (fun _ => zq_istore_n (ls' := [.ref 49, .int (0 : Int32), .null, .null]) rfl (by decide) rfl rfl dX10_findAll_16 rfl) ?_
  refine yX10_findAll_17 N  N ((0 : Int32), s2)
theorem cX10_findAll_mc (N : Nat)   (s : zq_S) (v : Unit × zq_S) (h : mX10_findAll N s = some v) : zq_MC yX10_findAll cX10_findAll 4 none ⟨4, 0, 0, 95⟩ 0 0 [.ref 49] (zq_en s) (zv_v v.1, zq_en v.2) := zq_MC_x [.ref 49, .null, .null, .null] (by decide +kernel) rfl rfl (Nat.le_of_ble_eq_true rfl) (xX10_findAll N s) h
def jX10_number_j29 (N : Nat)    (s : zq_S) : Option (Int32 × zq_S) :=
  some ((zgf s 49 4), s)
set_option maxRecDepth 20000 in
set_option maxHeartbeats 2000000 in
theorem xX10_number_j29_j (N : Nat)    (s : zq_S) : zq_X yX10_number RX10 cX10_number 1 (some .int) ⟨5, 0, 0, 118⟩ zv_i 29 [.ref 49] [] s (jX10_number_j29 N s) := by
  unfold jX10_number_j29
  refine zx_lift (pc' := 30) (fun _ => zq_aload_n rfl rfl dX10_number_29 rfl) ?_
  refine zx_lift (pc' := 33) (fun _ => zt_getI zfr_X10_39 zfd_49_4 dX10_number_30 rfl) ?_
  exact zx_iret rfl dX10_number_33
def mX10_number (N : Nat)   (s : zq_S) : Option (Int32 × zq_S) :=
  if (zgf s 49 5) = (zgf s 31 8) then
  jX10_number_j29 N s
  else
  zq_let (zpf s 49 5 (zgf s 31 8)) (fun s1 =>
  zq_b2 (mX10_findAll N s1) (fun r2 s3 =>
  jX10_number_j29 N s3))
set_option maxRecDepth 20000 in
set_option maxHeartbeats 2000000 in
theorem xX10_number (N : Nat)   (s : zq_S) : zq_X yX10_number RX10 cX10_number 1 (some .int) ⟨5, 0, 0, 118⟩ zv_i 0 [.ref 49] [] s (mX10_number N s) := by
  unfold mX10_number
  refine zx_lift (pc' := 1) (fun _ => zq_aload_n rfl rfl dX10_number_0 rfl) ?_
  refine zx_lift (pc' := 4) (fun _ => zt_getI zfr_X10_15 zfd_49_5 dX10_number_1 rfl) ?_
  refine zx_lift (pc' := 5) (fun _ => zq_aload_n rfl rfl dX10_number_4 rfl) ?_
  refine zx_lift (pc' := 8) (fun _ => zt_getR zfr_X10_19 zfd_49_0 dX10_number_5 rfl) ?_
  refine zx_lift (pc' := 11) (fun _ => zt_getI zfr_X10_31 zfd_31_8 dX10_number_8 rfl) ?_
  refine zx_icmp_eq (pc' := 14) (tgt := 29) dX10_number_11 rfl rfl (fun hc => ?_) (fun hc => ?_)
  · exact xX10_number_j29_j N s
  · refine zx_lift (pc' := 15) (fun _ => zq_aload_n rfl rfl dX10_number_14 rfl) ?_
    refine zx_lift (pc' := 16) (fun _ => zq_aload_n rfl rfl dX10_number_15 rfl) ?_
    refine zx_lift (pc' := 19) (fun _ => zt_getR zfr_X10_19 zfd_49_0 dX10_number_16 rfl) ?_
    refine zx_lift (pc' := 22) (fun _ => zt_getI zfr_X10_31 zfd_31_8 dX10_number_19 rfl) ?_
    refine zx_putI (pc' := 25) zfr_X10_15 (fun _ => ⟨rfl, rfl⟩) zfd_49_5 dX10_number_22 rfl (fun s1 => ?_)
    refine zx_lift (pc' := 26) (fun _ => zq_aload_n rfl rfl dX10_number_25 rfl) ?_
    refine zx_cVv (pc' := 29) zcv_X10_36 (cX10_findAll_mc N s1) zob_49 rfl (by decide) (Nat.le_of_ble_eq_true rfl) dX10_number_26 rfl rfl (fun r2 s3 => ?_)
    exact xX10_number_j29_j N s3
theorem cX10_number_mc (N : Nat)   (s : zq_S) (v : Int32 × zq_S) (h : mX10_number N s = some v) : zq_MC yX10_number cX10_number 1 (some .int) ⟨5, 0, 0, 118⟩ 0 0 [.ref 49] (zq_en s) (zv_i v.1, zq_en v.2) := zq_MC_x [.ref 49] (by decide +kernel) rfl rfl (Nat.le_of_ble_eq_true rfl) (xX10_number N s) h
def jX10_leastSet_j22 (N : Nat)   (t0 : Int32) (s : zq_S) : Option (Int32 × zq_S) :=
  some (t0, s)
set_option maxRecDepth 20000 in
set_option maxHeartbeats 2000000 in
theorem xX10_leastSet_j22_j (N : Nat)   (t0 : Int32) (s : zq_S) : zq_X yX10_leastSet RX10 cX10_leastSet 2 (some .int) ⟨6, 0, 0, 138⟩ zv_i 22 [.null, .null] [.int t0] s (jX10_leastSet_j22 N t0 s) := by
  unfold jX10_leastSet_j22
  exact zx_iret rfl dX10_leastSet_22
def jX10_leastSet_j12 (N : Nat)    (s : zq_S) : Option (Int32 × zq_S) :=
  jX10_leastSet_j22 N (-1 : Int32) s
set_option maxRecDepth 20000 in
set_option maxHeartbeats 2000000 in
theorem xX10_leastSet_j12_j (N : Nat)    (s : zq_S) : zq_X yX10_leastSet RX10 cX10_leastSet 2 (some .int) ⟨6, 0, 0, 138⟩ zv_i 12 [.null, .null] [] s (jX10_leastSet_j12 N s) := by
  unfold jX10_leastSet_j12
  refine zx_lift (pc' := 13) (fun _ => zq_iconst (v := (-1)) dX10_leastSet_12 rfl rfl) ?_
  refine zx_lift (pc' := 22) (fun _ => zq_goto dX10_leastSet_13 rfl) ?_
  exact xX10_leastSet_j22_j N (-1 : Int32) s
def mX10_leastSet (N : Nat)  (p1 : Int32) (s : zq_S) : Option (Int32 × zq_S) :=
  if p1 < (0 : Int32) then
  jX10_leastSet_j12 N s
  else
  zq_b2 (mX10_number N s) (fun r1 s2 =>
  if p1 < r1 then
  zq_ck p1 1024 (
  jX10_leastSet_j22 N (zga s2 50 p1) s2)
  else
  jX10_leastSet_j12 N s2)
set_option maxRecDepth 20000 in
set_option maxHeartbeats 2000000 in
theorem xX10_leastSet (N : Nat)  (p1 : Int32) (s : zq_S) : zq_X yX10_leastSet RX10 cX10_leastSet 2 (some .int) ⟨6, 0, 0, 138⟩ zv_i 0 [.ref 49, .int p1] [] s (mX10_leastSet N p1 s) := by
  unfold mX10_leastSet
  refine zx_lift (pc' := 1) (fun _ => zq_iload_n rfl rfl dX10_leastSet_0 rfl) ?_
  refine zx_if_lt (pc' := 4) (tgt := 12) dX10_leastSet_1 rfl rfl (fun hc => ?_) (fun hc => ?_)
  · refine zx_less [.null, .null] (zq_cz (zq_cz zq_cn)) ?_
    exact xX10_leastSet_j12_j N s
  · refine zx_lift (pc' := 5) (fun _ => zq_iload_n rfl rfl dX10_leastSet_4 rfl) ?_
    refine zx_lift (pc' := 6) (fun _ => zq_aload_n rfl rfl dX10_leastSet_5 rfl) ?_
    refine zx_cVi (pc' := 9) zcv_X10_42 (cX10_number_mc N s) zob_49 rfl (by decide) (Nat.le_of_ble_eq_true rfl) dX10_leastSet_6 rfl rfl (fun r1 s2 => ?_)
    refine zx_icmp_lt (pc' := 12) (tgt := 16) dX10_leastSet_9 rfl rfl (fun hc => ?_) (fun hc => ?_)
    · refine zx_lift (pc' := 17) (fun _ => zq_aload_n rfl rfl dX10_leastSet_16 rfl) ?_
      refine zx_lift (pc' := 20) (fun _ => zt_getR zfr_X10_9 zfd_49_3 dX10_leastSet_17 rfl) ?_
      refine zx_lift (pc' := 21) (fun _ => zq_iload_n rfl rfl dX10_leastSet_20 rfl) ?_
      refine zx_iaload (pc' := 22) zsh_50 dX10_leastSet_21 rfl ?_
      refine zx_less [.null, .null] (zq_cz (zq_cz zq_cn)) ?_
      exact xX10_leastSet_j22_j N (zga s2 50 p1) s2
    · refine zx_less [.null, .null] (zq_cz (zq_cz zq_cn)) ?_
      exact xX10_leastSet_j12_j N s2
theorem cX10_leastSet_mc (N : Nat)  (p1 : Int32) (s : zq_S) (v : Int32 × zq_S) (h : mX10_leastSet N p1 s = some v) : zq_MC yX10_leastSet cX10_leastSet 2 (some .int) ⟨6, 0, 0, 138⟩ 0 0 [.ref 49, .int p1] (zq_en s) (zv_i v.1, zq_en v.2) := zq_MC_x [.ref 49, .int p1] (by decide +kernel) rfl rfl (Nat.le_of_ble_eq_true rfl) (xX10_leastSet N p1 s) h
def jX11_view_j23 (N : Nat)   (t0 : Int32) (s : zq_S) : Option (Int32 × zq_S) :=
  some (t0, s)
set_option maxRecDepth 20000 in
set_option maxHeartbeats 2000000 in
theorem xX11_view_j23_j (N : Nat)   (t0 : Int32) (s : zq_S) : zq_X yX11_view RX11 cX11_view 2 (some .int) ⟨7, 0, 0, 159⟩ zv_i 23 [.null, .null] [.int t0] s (jX11_view_j23 N t0 s) := by
  unfold jX11_view_j23
  exact zx_iret rfl dX11_view_23
def mX11_view (N : Nat)  (p1 : Int32) (s : zq_S) : Option (Int32 × zq_S) :=
  if p1 = (-1 : Int32) then
  zq_b2 (mX10_number N s) (fun r3 s4 =>
  jX11_view_j23 N r3 s4)
  else
  zq_b2 (mX10_leastSet N p1 s) (fun r1 s2 =>
  jX11_view_j23 N r1 s2)
set_option maxRecDepth 20000 in
set_option maxHeartbeats 2000000 in
theorem xX11_view (N : Nat)  (p1 : Int32) (s : zq_S) : zq_X yX11_view RX11 cX11_view 2 (some .int) ⟨7, 0, 0, 159⟩ zv_i 0 [.ref 0, .int p1] [] s (mX11_view N p1 s) := by
  unfold mX11_view
  refine zx_lift (pc' := 1) (fun _ => zq_iload_n rfl rfl dX11_view_0 rfl) ?_
  refine zx_lift (pc' := 2) (fun _ => zq_iconst (v := (-1)) dX11_view_1 rfl rfl) ?_
  refine zx_icmp_ne (pc' := 5) (tgt := 15) dX11_view_2 rfl rfl (fun hc => ?_) (fun hc => ?_)
  · refine zx_lift (pc' := 16) (fun _ => zq_aload_n rfl rfl dX11_view_15 rfl) ?_
    refine zx_lift (pc' := 19) (fun _ => zt_getR zfr_X11_70 zfd_0_6 dX11_view_16 rfl) ?_
    refine zx_lift (pc' := 20) (fun _ => zq_iload_n rfl rfl dX11_view_19 rfl) ?_
    refine zx_cVi (pc' := 23) zcv_X11_221 (cX10_leastSet_mc N p1 s) zob_49 rfl (by decide) (Nat.le_of_ble_eq_true rfl) dX11_view_20 rfl rfl (fun r1 s2 => ?_)
    refine zx_less [.null, .null] (zq_cz (zq_cz zq_cn)) ?_
    exact xX11_view_j23_j N r1 s2
  · refine zx_lift (pc' := 6) (fun _ => zq_aload_n rfl rfl dX11_view_5 rfl) ?_
    refine zx_lift (pc' := 9) (fun _ => zt_getR zfr_X11_70 zfd_0_6 dX11_view_6 rfl) ?_
    refine zx_cVi (pc' := 12) zcv_X11_219 (cX10_number_mc N s) zob_49 rfl (by decide) (Nat.le_of_ble_eq_true rfl) dX11_view_9 rfl rfl (fun r3 s4 => ?_)
    refine zx_lift (pc' := 23) (fun _ => zq_goto dX11_view_12 rfl) ?_
    refine zx_less [.null, .null] (zq_cz (zq_cz zq_cn)) ?_
    exact xX11_view_j23_j N r3 s4
theorem cX11_view_mc (N : Nat)  (p1 : Int32) (s : zq_S) (v : Int32 × zq_S) (h : mX11_view N p1 s = some v) : zq_MC yX11_view cX11_view 2 (some .int) ⟨7, 0, 0, 159⟩ 0 0 [.ref 0, .int p1] (zq_en s) (zv_i v.1, zq_en v.2) := zq_MC_x [.ref 0, .int p1] (by decide +kernel) rfl rfl (Nat.le_of_ble_eq_true rfl) (xX11_view N p1 s) h
def jX1_addFromWith_j55 (N : Nat)  (f1 : Int32) (k61 : zq_S → Option (Unit × zq_S)) (self : Int32 × zq_S → Option (Unit × zq_S)) (w2 : Int32) (s : zq_S) : Option (Unit × zq_S) :=
  zq_let (w2 + (1 : Int32)) (fun x3 =>
  self (x3, s))
set_option maxRecDepth 20000 in
set_option maxHeartbeats 2000000 in
theorem xX1_addFromWith_j55_j (N : Nat)  (f1 : Int32) (k61 : zq_S → Option (Unit × zq_S)) (hk61 : ∀ e, zq_X yX1_addFromWith RX1 cX1_addFromWith 3 none ⟨1, 0, 0, 20⟩ zv_v 61 [.null, .null, .null] [] e (k61 e)) (self : Int32 × zq_S → Option (Unit × zq_S)) (hself : ∀ v, zq_X yX1_addFromWith RX1 cX1_addFromWith 3 none ⟨1, 0, 0, 20⟩ zv_v 2 [.ref 56, .int f1, .int v.1] [] v.2 (self v)) (w2 : Int32) (s : zq_S) : zq_X yX1_addFromWith RX1 cX1_addFromWith 3 none ⟨1, 0, 0, 20⟩ zv_v 55 [.ref 56, .int f1, .int w2] [] s (jX1_addFromWith_j55 N f1 k61 self w2 s) := by
  unfold jX1_addFromWith_j55
  refine zx_iinc (pc' := 58) (ls' := fun x3 => [.ref 56, .int f1, .int x3]) rfl rfl (by decide) rfl (fun _ => rfl) dX1_addFromWith_55 rfl (fun x3 => ?_)
  refine zx_lift (pc' := 2) (fun _ => zq_goto dX1_addFromWith_58 rfl) ?_
  exact hself (x3, s)
def bX1_addFromWith_2 (N : Nat)  (f1 : Int32) (k61 : zq_S → Option (Unit × zq_S)) (self : Int32 × zq_S → Option (Unit × zq_S)) (v : Int32 × zq_S) : Option (Unit × zq_S) :=
  zq_b2 (mX3_full N v.2) (fun r1 s2 =>
  if r1 < v.1 then
  k61 s2
  else
  if (1024 : Int32) ≤ v.1 then
  k61 s2
  else
  if ((v.1 >>> (f1 &&& 31)) &&& (1 : Int32)) = (0 : Int32) then
  zq_ck ((1024 : Int32) + v.1) 4096 (
  zq_ck ((1024 : Int32) + (v.1 ||| ((1 : Int32) <<< (f1 &&& 31)))) 4096 (
  zq_ck ((1024 : Int32) + v.1) 4096 (
  zq_let (zpl s2 1 ((1024 : Int32) + v.1) ((zgl s2 1 ((1024 : Int32) + v.1)) + (zgl s2 1 ((1024 : Int32) + (v.1 ||| ((1 : Int32) <<< (f1 &&& 31))))))) (fun s4 =>
  jX1_addFromWith_j55 N f1 k61 self v.1 s4))))
  else
  jX1_addFromWith_j55 N f1 k61 self v.1 s2)
set_option maxRecDepth 20000 in
set_option maxHeartbeats 2000000 in
theorem xX1_addFromWith_2 (N : Nat)  (f1 : Int32) (k61 : zq_S → Option (Unit × zq_S)) (hk61 : ∀ e, zq_X yX1_addFromWith RX1 cX1_addFromWith 3 none ⟨1, 0, 0, 20⟩ zv_v 61 [.null, .null, .null] [] e (k61 e)) (self : Int32 × zq_S → Option (Unit × zq_S)) (hself : ∀ v, zq_X yX1_addFromWith RX1 cX1_addFromWith 3 none ⟨1, 0, 0, 20⟩ zv_v 2 [.ref 56, .int f1, .int v.1] [] v.2 (self v)) (v : Int32 × zq_S) : zq_X yX1_addFromWith RX1 cX1_addFromWith 3 none ⟨1, 0, 0, 20⟩ zv_v 2 [.ref 56, .int f1, .int v.1] [] v.2 (bX1_addFromWith_2 N f1 k61 self v) := by
  unfold bX1_addFromWith_2
  refine zx_lift (pc' := 3) (fun _ => zq_iload_n rfl rfl dX1_addFromWith_2 rfl) ?_
  refine zx_lift (pc' := 4) (fun _ => zq_aload_n rfl rfl dX1_addFromWith_3 rfl) ?_
  refine zx_lift (pc' := 7) (fun _ => zt_getR zfr_X1_9 zfd_56_0 dX1_addFromWith_4 rfl) ?_
  refine zx_cVi (pc' := 10) zcv_X1_105 (cX3_full_mc N v.2) zob_31 rfl (by decide) (Nat.le_of_ble_eq_true rfl) dX1_addFromWith_7 rfl rfl (fun r1 s2 => ?_)
  refine zx_icmp_gt (pc' := 13) (tgt := 61) dX1_addFromWith_10 rfl rfl (fun hc => ?_) (fun hc => ?_)
  · refine zx_less [.null, .null, .null] (zq_cz (zq_cz (zq_cz zq_cn))) ?_
    exact hk61 s2
  · refine zx_lift (pc' := 14) (fun _ => zq_iload_n rfl rfl dX1_addFromWith_13 rfl) ?_
    refine zx_lift (pc' := 17) (fun _ => zq_sipush (v := 1024) dX1_addFromWith_14 rfl rfl) ?_
    refine zx_icmp_ge (pc' := 20) (tgt := 61) dX1_addFromWith_17 rfl rfl (fun hc => ?_) (fun hc => ?_)
    · refine zx_less [.null, .null, .null] (zq_cz (zq_cz (zq_cz zq_cn))) ?_
      exact hk61 s2
    · refine zx_lift (pc' := 21) (fun _ => zq_iload_n rfl rfl dX1_addFromWith_20 rfl) ?_
      refine zx_lift (pc' := 22) (fun _ => zq_iload_n rfl rfl dX1_addFromWith_21 rfl) ?_
      refine zx_lift (pc' := 23) (fun _ => zq_ishr dX1_addFromWith_22 rfl) ?_
      refine zx_lift (pc' := 24) (fun _ => zq_iconst (v := 1) dX1_addFromWith_23 rfl rfl) ?_
      refine zx_lift (pc' := 25) (fun _ => zq_iand dX1_addFromWith_24 rfl) ?_
      refine zx_if_ne (pc' := 28) (tgt := 55) dX1_addFromWith_25 rfl rfl (fun hc => ?_) (fun hc => ?_)
      · exact xX1_addFromWith_j55_j N f1 k61 hk61 self hself v.1 s2
      · refine zx_lift (pc' := 29) (fun _ => zq_aload_n rfl rfl dX1_addFromWith_28 rfl) ?_
        refine zx_lift (pc' := 32) (fun _ => zt_getR zfr_X1_27 zfd_56_4 dX1_addFromWith_29 rfl) ?_
        refine zx_lift (pc' := 35) (fun _ => zq_sipush (v := 1024) dX1_addFromWith_32 rfl rfl) ?_
        refine zx_lift (pc' := 36) (fun _ => zq_iload_n rfl rfl dX1_addFromWith_35 rfl) ?_
        refine zx_lift (pc' := 37) (fun _ => zq_iadd dX1_addFromWith_36 rfl) ?_
        refine zx_lift (pc' := 38) (fun _ => zq_dup2 rfl rfl dX1_addFromWith_37 rfl) ?_
        refine zx_laload (pc' := 39) zsh_1 dX1_addFromWith_38 rfl ?_
        refine zx_lift (pc' := 40) (fun _ => zq_aload_n rfl rfl dX1_addFromWith_39 rfl) ?_
        refine zx_lift (pc' := 43) (fun _ => zt_getR zfr_X1_27 zfd_56_4 dX1_addFromWith_40 rfl) ?_
        refine zx_lift (pc' := 46) (fun _ => zq_sipush (v := 1024) dX1_addFromWith_43 rfl rfl) ?_
        refine zx_lift (pc' := 47) (fun _ => zq_iload_n rfl rfl dX1_addFromWith_46 rfl) ?_
        refine zx_lift (pc' := 48) (fun _ => zq_iconst (v := 1) dX1_addFromWith_47 rfl rfl) ?_
        refine zx_lift (pc' := 49) (fun _ => zq_iload_n rfl rfl dX1_addFromWith_48 rfl) ?_
        refine zx_lift (pc' := 50) (fun _ => zq_ishl dX1_addFromWith_49 rfl) ?_
        refine zx_lift (pc' := 51) (fun _ => zq_ior dX1_addFromWith_50 rfl) ?_
        refine zx_lift (pc' := 52) (fun _ => zq_iadd dX1_addFromWith_51 rfl) ?_
        refine zx_laload (pc' := 53) zsh_1 dX1_addFromWith_52 rfl ?_
        refine zx_lift (pc' := 54) (fun _ => zq_ladd dX1_addFromWith_53 rfl) ?_
        refine zx_lastore (pc' := 55) zsh_1 dX1_addFromWith_54 rfl (fun s4 => ?_)
        exact xX1_addFromWith_j55_j N f1 k61 hk61 self hself v.1 s4
theorem yX1_addFromWith_2 (N : Nat)  (f1 : Int32) (k61 : zq_S → Option (Unit × zq_S)) (hk61 : ∀ e, zq_X yX1_addFromWith RX1 cX1_addFromWith 3 none ⟨1, 0, 0, 20⟩ zv_v 61 [.null, .null, .null] [] e (k61 e)) (n : Nat) : ∀ v : Int32 × zq_S, zq_X yX1_addFromWith RX1 cX1_addFromWith 3 none ⟨1, 0, 0, 20⟩ zv_v 2 [.ref 56, .int f1, .int v.1] [] v.2 (zq_loop (bX1_addFromWith_2 N f1 k61) n v) := by
  induction n with
  | zero => exact fun v u hu => by cases hu
  | succ n ih =>
    intro v
    rw [zq_loop_s]
    exact xX1_addFromWith_2 N f1 k61 hk61 (zq_loop (bX1_addFromWith_2 N f1 k61) n) ih v
def jX1_addFromWith_j61 (N : Nat)    (s : zq_S) : Option (Unit × zq_S) :=
  some ((), s)
set_option maxRecDepth 20000 in
set_option maxHeartbeats 2000000 in
theorem xX1_addFromWith_j61_j (N : Nat)    (s : zq_S) : zq_X yX1_addFromWith RX1 cX1_addFromWith 3 none ⟨1, 0, 0, 20⟩ zv_v 61 [.null, .null, .null] [] s (jX1_addFromWith_j61 N s) := by
  unfold jX1_addFromWith_j61
  exact zx_vret rfl dX1_addFromWith_61
def mX1_addFromWith (N : Nat)  (p1 : Int32) (s : zq_S) : Option (Unit × zq_S) :=
  zq_loop (bX1_addFromWith_2 N p1 (fun e5 =>
  jX1_addFromWith_j61 N e5)) N ((0 : Int32), s)
set_option maxRecDepth 20000 in
set_option maxHeartbeats 2000000 in
theorem xX1_addFromWith (N : Nat)  (p1 : Int32) (s : zq_S) : zq_X yX1_addFromWith RX1 cX1_addFromWith 3 none ⟨1, 0, 0, 20⟩ zv_v 0 [.ref 56, .int p1, .null] [] s (mX1_addFromWith N p1 s) := by
  unfold mX1_addFromWith
  refine zx_lift (pc' := 1) (fun _ => zq_iconst (v := 0) dX1_addFromWith_0 rfl rfl) ?_
  refine zx_lift (pc' := 2) (fun _ => zq_istore_n (ls' := [.ref 56, .int p1, .int (0 : Int32)]) rfl (by decide) rfl rfl dX1_addFromWith_1 rfl) ?_
  refine yX1_addFromWith_2 N p1 _ (fun e5 => ?_) N ((0 : Int32), s)
  exact xX1_addFromWith_j61_j N e5
theorem cX1_addFromWith_mc (N : Nat)  (p1 : Int32) (s : zq_S) (v : Unit × zq_S) (h : mX1_addFromWith N p1 s = some v) : zq_MC yX1_addFromWith cX1_addFromWith 3 none ⟨1, 0, 0, 20⟩ 0 0 [.ref 56, .int p1] (zq_en s) (zv_v v.1, zq_en v.2) := zq_MC_x [.ref 56, .int p1, .null] (by decide +kernel) rfl rfl (Nat.le_of_ble_eq_true rfl) (xX1_addFromWith N p1 s) h
def bX1_countFrom_38 (N : Nat)  (f1 : Int32) (f2 : Int32) (k63 : zq_S → Option (Unit × zq_S)) (self : Int32 × zq_S → Option (Unit × zq_S)) (v : Int32 × zq_S) : Option (Unit × zq_S) :=
  if (zgf v.2 (zs (zgb v.2 3)) 7) ≤ v.1 then
  k63 v.2
  else
  zq_b2 (mX1_addFromWith N v.1 v.2) (fun r6 s7 =>
  zq_let (v.1 + (1 : Int32)) (fun x8 =>
  self (x8, s7)))
set_option maxRecDepth 20000 in
set_option maxHeartbeats 2000000 in
theorem xX1_countFrom_38 (N : Nat)  (f1 : Int32) (f2 : Int32) (k63 : zq_S → Option (Unit × zq_S)) (hk63 : ∀ e, zq_X yX1_countFrom RX1 cX1_countFrom 4 none ⟨4, 0, 0, 95⟩ zv_v 63 [.ref 56, .int f1, .int f2, .null] [] e (k63 e)) (self : Int32 × zq_S → Option (Unit × zq_S)) (hself : ∀ v, zq_X yX1_countFrom RX1 cX1_countFrom 4 none ⟨4, 0, 0, 95⟩ zv_v 38 [.ref 56, .int f1, .int f2, .int v.1] [] v.2 (self v)) (v : Int32 × zq_S) : zq_X yX1_countFrom RX1 cX1_countFrom 4 none ⟨4, 0, 0, 95⟩ zv_v 38 [.ref 56, .int f1, .int f2, .int v.1] [] v.2 (bX1_countFrom_38 N f1 f2 k63 self v) := by
  unfold bX1_countFrom_38
  refine zx_lift (pc' := 39) (fun _ => zq_iload_n rfl rfl dX1_countFrom_38 rfl) ?_
  refine zx_lift (pc' := 40) (fun _ => zq_aload_n rfl rfl dX1_countFrom_39 rfl) ?_
  refine zx_lift (pc' := 43) (fun _ => zt_getR zfr_X1_9 zfd_56_0 dX1_countFrom_40 rfl) ?_
  refine zx_lift (pc' := 46) (fun _ => zt_getP zfr_X1_90 zfd_31_0 dX1_countFrom_43 rfl) ?_
  refine zx_lift (pc' := 49) (fun _ => zt_getI zfr_X1_94 (zfd_s_7 (zgb v.2 3)) dX1_countFrom_46 rfl) ?_
  refine zx_icmp_ge (pc' := 52) (tgt := 63) dX1_countFrom_49 rfl rfl (fun hc => ?_) (fun hc => ?_)
  · refine zx_less [.ref 56, .int f1, .int f2, .null] (zq_cr (zq_cr (zq_cr (zq_cz zq_cn)))) ?_
    exact hk63 v.2
  · refine zx_lift (pc' := 53) (fun _ => zq_aload_n rfl rfl dX1_countFrom_52 rfl) ?_
    refine zx_lift (pc' := 54) (fun _ => zq_iload_n rfl rfl dX1_countFrom_53 rfl) ?_
    refine zx_cVv (pc' := 57) zcv_X1_102 (cX1_addFromWith_mc N v.1 v.2) zob_56 rfl (by decide) (Nat.le_of_ble_eq_true rfl) dX1_countFrom_54 rfl rfl (fun r6 s7 => ?_)
    refine zx_iinc (pc' := 60) (ls' := fun x8 => [.ref 56, .int f1, .int f2, .int x8]) rfl rfl (by decide) rfl (fun _ => rfl) dX1_countFrom_57 rfl (fun x8 => ?_)
    refine zx_lift (pc' := 38) (fun _ => zq_goto dX1_countFrom_60 rfl) ?_
    exact hself (x8, s7)
theorem yX1_countFrom_38 (N : Nat)  (f1 : Int32) (f2 : Int32) (k63 : zq_S → Option (Unit × zq_S)) (hk63 : ∀ e, zq_X yX1_countFrom RX1 cX1_countFrom 4 none ⟨4, 0, 0, 95⟩ zv_v 63 [.ref 56, .int f1, .int f2, .null] [] e (k63 e)) (n : Nat) : ∀ v : Int32 × zq_S, zq_X yX1_countFrom RX1 cX1_countFrom 4 none ⟨4, 0, 0, 95⟩ zv_v 38 [.ref 56, .int f1, .int f2, .int v.1] [] v.2 (zq_loop (bX1_countFrom_38 N f1 f2 k63) n v) := by
  induction n with
  | zero => exact fun v u hu => by cases hu
  | succ n ih =>
    intro v
    rw [zq_loop_s]
    exact xX1_countFrom_38 N f1 f2 k63 hk63 (zq_loop (bX1_countFrom_38 N f1 f2 k63) n) ih v
def bX1_countFrom_27 (N : Nat)  (f1 : Int32) (k77 : zq_S → Option (Unit × zq_S)) (self : Int32 × zq_S → Option (Unit × zq_S)) (v : Int32 × zq_S) : Option (Unit × zq_S) :=
  if v.1 < f1 then
  k77 v.2
  else
  if v.1 < (0 : Int32) then
  k77 v.2
  else
  zq_loop (bX1_countFrom_38 N f1 v.1 (fun e9 =>
  zq_b2 (mX1_keepTimes N v.1 (1024 : Int32) e9) (fun r10 s11 =>
  zq_let (v.1 + (-1 : Int32)) (fun x12 =>
  self (x12, s11))))) N ((0 : Int32), v.2)
set_option maxRecDepth 20000 in
set_option maxHeartbeats 2000000 in
theorem xX1_countFrom_27 (N : Nat)  (f1 : Int32) (k77 : zq_S → Option (Unit × zq_S)) (hk77 : ∀ e, zq_X yX1_countFrom RX1 cX1_countFrom 4 none ⟨4, 0, 0, 95⟩ zv_v 77 [.null, .null, .null, .null] [] e (k77 e)) (self : Int32 × zq_S → Option (Unit × zq_S)) (hself : ∀ v, zq_X yX1_countFrom RX1 cX1_countFrom 4 none ⟨4, 0, 0, 95⟩ zv_v 27 [.ref 56, .int f1, .int v.1, .null] [] v.2 (self v)) (v : Int32 × zq_S) : zq_X yX1_countFrom RX1 cX1_countFrom 4 none ⟨4, 0, 0, 95⟩ zv_v 27 [.ref 56, .int f1, .int v.1, .null] [] v.2 (bX1_countFrom_27 N f1 k77 self v) := by
  unfold bX1_countFrom_27
  refine zx_lift (pc' := 28) (fun _ => zq_iload_n rfl rfl dX1_countFrom_27 rfl) ?_
  refine zx_lift (pc' := 29) (fun _ => zq_iload_n rfl rfl dX1_countFrom_28 rfl) ?_
  refine zx_icmp_lt (pc' := 32) (tgt := 77) dX1_countFrom_29 rfl rfl (fun hc => ?_) (fun hc => ?_)
  · refine zx_less [.null, .null, .null, .null] (zq_cz (zq_cz (zq_cz (zq_cz zq_cn)))) ?_
    exact hk77 v.2
  · refine zx_lift (pc' := 33) (fun _ => zq_iload_n rfl rfl dX1_countFrom_32 rfl) ?_
    refine zx_if_lt (pc' := 36) (tgt := 77) dX1_countFrom_33 rfl rfl (fun hc => ?_) (fun hc => ?_)
    · refine zx_less [.null, .null, .null, .null] (zq_cz (zq_cz (zq_cz (zq_cz zq_cn)))) ?_
      exact hk77 v.2
    · refine zx_lift (pc' := 37) (fun _ => zq_iconst (v := 0) dX1_countFrom_36 rfl rfl) ?_
      refine zx_lift (pc' := 38) (fun _ => zq_istore_n (ls' := [.ref 56, .int f1, .int v.1, .int (0 : Int32)]) rfl (by decide) rfl rfl dX1_countFrom_37 rfl) ?_
      refine yX1_countFrom_38 N f1 v.1 _ (fun e9 => ?_) N ((0 : Int32), v.2)
      refine zx_lift (pc' := 64) (fun _ => zq_aload_n rfl rfl dX1_countFrom_63 rfl) ?_
      refine zx_lift (pc' := 65) (fun _ => zq_iload_n rfl rfl dX1_countFrom_64 rfl) ?_
      refine zx_lift (pc' := 68) (fun _ => zq_sipush (v := 1024) dX1_countFrom_65 rfl rfl) ?_
      refine zx_cVv (pc' := 71) zcv_X1_86 (cX1_keepTimes_mc N v.1 (1024 : Int32) e9) zob_56 rfl (by decide) (Nat.le_of_ble_eq_true rfl) dX1_countFrom_68 rfl rfl (fun r10 s11 => ?_)
      refine zx_iinc (pc' := 74) (ls' := fun x12 => [.ref 56, .int f1, .int x12, .null]) rfl rfl (by decide) rfl (fun _ => rfl) dX1_countFrom_71 rfl (fun x12 => ?_)
      refine zx_lift (pc' := 27) (fun _ => zq_goto dX1_countFrom_74 rfl) ?_
      exact hself (x12, s11)
theorem yX1_countFrom_27 (N : Nat)  (f1 : Int32) (k77 : zq_S → Option (Unit × zq_S)) (hk77 : ∀ e, zq_X yX1_countFrom RX1 cX1_countFrom 4 none ⟨4, 0, 0, 95⟩ zv_v 77 [.null, .null, .null, .null] [] e (k77 e)) (n : Nat) : ∀ v : Int32 × zq_S, zq_X yX1_countFrom RX1 cX1_countFrom 4 none ⟨4, 0, 0, 95⟩ zv_v 27 [.ref 56, .int f1, .int v.1, .null] [] v.2 (zq_loop (bX1_countFrom_27 N f1 k77) n v) := by
  induction n with
  | zero => exact fun v u hu => by cases hu
  | succ n ih =>
    intro v
    rw [zq_loop_s]
    exact xX1_countFrom_27 N f1 k77 hk77 (zq_loop (bX1_countFrom_27 N f1 k77) n) ih v
def jX1_countFrom_j77 (N : Nat)    (s : zq_S) : Option (Unit × zq_S) :=
  some ((), s)
set_option maxRecDepth 20000 in
set_option maxHeartbeats 2000000 in
theorem xX1_countFrom_j77_j (N : Nat)    (s : zq_S) : zq_X yX1_countFrom RX1 cX1_countFrom 4 none ⟨4, 0, 0, 95⟩ zv_v 77 [.null, .null, .null, .null] [] s (jX1_countFrom_j77 N s) := by
  unfold jX1_countFrom_j77
  exact zx_vret rfl dX1_countFrom_77
def mX1_countFrom (N : Nat)  (p1 : Int32) (s : zq_S) : Option (Unit × zq_S) :=
  zq_b2 (mX1_allowAll N (1024 : Int32) s) (fun r1 s2 =>
  zq_b2 (mX1_keepTimes N ((zgf s2 56 5) - (1 : Int32)) (1024 : Int32) s2) (fun r3 s4 =>
  zq_let ((zgf s4 56 5) - (2 : Int32)) (fun x5 =>
  zq_loop (bX1_countFrom_27 N p1 (fun e13 =>
  jX1_countFrom_j77 N e13)) N (x5, s4))))
set_option maxRecDepth 20000 in
set_option maxHeartbeats 2000000 in
theorem xX1_countFrom (N : Nat)  (p1 : Int32) (s : zq_S) : zq_X yX1_countFrom RX1 cX1_countFrom 4 none ⟨4, 0, 0, 95⟩ zv_v 0 [.ref 56, .int p1, .null, .null] [] s (mX1_countFrom N p1 s) := by
  unfold mX1_countFrom
  refine zx_lift (pc' := 1) (fun _ => zq_aload_n rfl rfl dX1_countFrom_0 rfl) ?_
  refine zx_lift (pc' := 4) (fun _ => zq_sipush (v := 1024) dX1_countFrom_1 rfl rfl) ?_
  refine zx_cVv (pc' := 7) zcv_X1_83 (cX1_allowAll_mc N (1024 : Int32) s) zob_56 rfl (by decide) (Nat.le_of_ble_eq_true rfl) dX1_countFrom_4 rfl rfl (fun r1 s2 => ?_)
  refine zx_lift (pc' := 8) (fun _ => zq_aload_n rfl rfl dX1_countFrom_7 rfl) ?_
  refine zx_lift (pc' := 9) (fun _ => zq_aload_n rfl rfl dX1_countFrom_8 rfl) ?_
  refine zx_lift (pc' := 12) (fun _ => zt_getI zfr_X1_31 zfd_56_5 dX1_countFrom_9 rfl) ?_
  refine zx_lift (pc' := 13) (fun _ => zq_iconst (v := 1) dX1_countFrom_12 rfl rfl) ?_
  refine zx_lift (pc' := 14) (fun _ => zq_isub dX1_countFrom_13 rfl) ?_
  refine zx_lift (pc' := 17) (fun _ => zq_sipush (v := 1024) dX1_countFrom_14 rfl rfl) ?_
  refine zx_cVv (pc' := 20) zcv_X1_86 (cX1_keepTimes_mc N ((zgf s2 56 5) - (1 : Int32)) (1024 : Int32) s2) zob_56 rfl (by decide) (Nat.le_of_ble_eq_true rfl) dX1_countFrom_17 rfl rfl (fun r3 s4 => ?_)
  refine zx_lift (pc' := 21) (fun _ => zq_aload_n rfl rfl dX1_countFrom_20 rfl) ?_
  refine zx_lift (pc' := 24) (fun _ => zt_getI zfr_X1_31 zfd_56_5 dX1_countFrom_21 rfl) ?_
  refine zx_lift (pc' := 25) (fun _ => zq_iconst (v := 2) dX1_countFrom_24 rfl rfl) ?_
  refine zx_lift (pc' := 26) (fun _ => zq_isub dX1_countFrom_25 rfl) ?_
  refine zx_istore_n (pc' := 27) (ls' := fun x5 => [.ref 56, .int p1, .int x5, .null]) rfl (by decide) rfl (fun _ => rfl) dX1_countFrom_26 rfl (fun x5 => ?_)
  refine yX1_countFrom_27 N p1 _ (fun e13 => ?_) N (x5, s4)
  exact xX1_countFrom_j77_j N e13
theorem cX1_countFrom_mc (N : Nat)  (p1 : Int32) (s : zq_S) (v : Unit × zq_S) (h : mX1_countFrom N p1 s = some v) : zq_MC yX1_countFrom cX1_countFrom 4 none ⟨4, 0, 0, 95⟩ 0 0 [.ref 56, .int p1] (zq_en s) (zv_v v.1, zq_en v.2) := zq_MC_x [.ref 56, .int p1, .null, .null] (by decide +kernel) rfl rfl (Nat.le_of_ble_eq_true rfl) (xX1_countFrom N p1 s) h
def mX1_isFurther (N : Nat)  (p0 : Int32) (p1 : Int32) (p2 : Int32) (s : zq_S) : Option (Int32 × zq_S) :=
  zq_b2 (mJ6_bitCount_0f7a4 N p0 s) (fun r1 s2 =>
  zq_b2 (mJ9_max_7cf53 N (0 : Int32) p1 s2) (fun r3 s4 =>
  zq_b2 (mJ6_bitCount_0f7a4 N r3 s4) (fun r5 s6 =>
  zq_let (r1 - r5) (fun x7 =>
  zq_let (if p1 = (-1 : Int32) then (1 : Int32) else (if p2 = (0 : Int32) then (if (0 : Int32) ≤ x7 then (0 : Int32) else (1 : Int32)) else (if x7 ≤ (0 : Int32) then (0 : Int32) else (1 : Int32)))) (fun x8 =>
  zq_bz x8 (some (x8, s6)))))))
set_option maxRecDepth 20000 in
set_option maxHeartbeats 2000000 in
theorem xX1_isFurther (N : Nat)  (p0 : Int32) (p1 : Int32) (p2 : Int32) (s : zq_S) : zq_X yX1_isFurther RX1 cX1_isFurther 4 (some .boolean) ⟨1, 0, 0, 21⟩ zv_i 0 [.int p0, .int p1, .int p2, .null] [] s (mX1_isFurther N p0 p1 p2 s) := by
  unfold mX1_isFurther
  refine zx_lift (pc' := 1) (fun _ => zq_iload_n rfl rfl dX1_isFurther_0 rfl) ?_
  refine zx_cSi (pc' := 4) zcs_X1_72 (cJ6_bitCount_0f7a4_mc N p0 s) rfl (by decide) (Nat.le_of_ble_eq_true rfl) dX1_isFurther_1 rfl rfl (fun r1 s2 => ?_)
  refine zx_lift (pc' := 5) (fun _ => zq_iconst (v := 0) dX1_isFurther_4 rfl rfl) ?_
  refine zx_lift (pc' := 6) (fun _ => zq_iload_n rfl rfl dX1_isFurther_5 rfl) ?_
  refine zx_cSi (pc' := 9) zcs_X1_77 (cJ9_max_7cf53_mc N (0 : Int32) p1 s2) rfl (by decide) (Nat.le_of_ble_eq_true rfl) dX1_isFurther_6 rfl rfl (fun r3 s4 => ?_)
  refine zx_cSi (pc' := 12) zcs_X1_72 (cJ6_bitCount_0f7a4_mc N r3 s4) rfl (by decide) (Nat.le_of_ble_eq_true rfl) dX1_isFurther_9 rfl rfl (fun r5 s6 => ?_)
  refine zx_lift (pc' := 13) (fun _ => zq_isub dX1_isFurther_12 rfl) ?_
  refine zx_istore_n (pc' := 14) (ls' := fun x7 => [.int p0, .int p1, .int p2, .int x7]) rfl (by decide) rfl (fun _ => rfl) dX1_isFurther_13 rfl (fun x7 => ?_)
  refine zx_lift (pc' := 15) (fun _ => zq_iload_n rfl rfl dX1_isFurther_14 rfl) ?_
  refine zx_lift (pc' := 16) (fun _ => zq_iconst (v := (-1)) dX1_isFurther_15 rfl rfl) ?_
  refine zx_tern (pcJ := 39) (lsJ := fun x8 => [.null, .null, .null, .null]) (stJ := fun x8 => [.int x8]) (fun x8 => ?_) (fun f hJ => ?_)
  rotate_left
  · refine zx_licmp_eq (pc' := 19) (tgt := 34) dX1_isFurther_16 rfl rfl (fun _ => ?_) (fun _ => ?_)
    · refine zx_lift (pc' := 35) (fun _ => zq_iconst (v := 1) dX1_isFurther_34 rfl rfl) ?_
      refine zx_lift (pc' := 39) (fun _ => zq_goto dX1_isFurther_35 rfl) ?_
      exact zx_lessJ (zq_cz (zq_cz (zq_cz (zq_cz zq_cn)))) (hJ _)
    · refine zx_lift (pc' := 20) (fun _ => zq_iload_n rfl rfl dX1_isFurther_19 rfl) ?_
      refine zx_lif_eq (pc' := 23) (tgt := 30) dX1_isFurther_20 rfl rfl (fun _ => ?_) (fun _ => ?_)
      · refine zx_lift (pc' := 31) (fun _ => zq_iload_n rfl rfl dX1_isFurther_30 rfl) ?_
        refine zx_lif_ge (pc' := 34) (tgt := 38) dX1_isFurther_31 rfl rfl (fun _ => ?_) (fun _ => ?_)
        · refine zx_lift (pc' := 39) (fun _ => zq_iconst (v := 0) dX1_isFurther_38 rfl rfl) ?_
          exact zx_lessJ (zq_cz (zq_cz (zq_cz (zq_cz zq_cn)))) (hJ _)
        · refine zx_lift (pc' := 35) (fun _ => zq_iconst (v := 1) dX1_isFurther_34 rfl rfl) ?_
          refine zx_lift (pc' := 39) (fun _ => zq_goto dX1_isFurther_35 rfl) ?_
          exact zx_lessJ (zq_cz (zq_cz (zq_cz (zq_cz zq_cn)))) (hJ _)
      · refine zx_lift (pc' := 24) (fun _ => zq_iload_n rfl rfl dX1_isFurther_23 rfl) ?_
        refine zx_lif_le (pc' := 27) (tgt := 38) dX1_isFurther_24 rfl rfl (fun _ => ?_) (fun _ => ?_)
        · refine zx_lift (pc' := 39) (fun _ => zq_iconst (v := 0) dX1_isFurther_38 rfl rfl) ?_
          exact zx_lessJ (zq_cz (zq_cz (zq_cz (zq_cz zq_cn)))) (hJ _)
        · refine zx_lift (pc' := 34) (fun _ => zq_goto dX1_isFurther_27 rfl) ?_
          refine zx_lift (pc' := 35) (fun _ => zq_iconst (v := 1) dX1_isFurther_34 rfl rfl) ?_
          refine zx_lift (pc' := 39) (fun _ => zq_goto dX1_isFurther_35 rfl) ?_
          exact zx_lessJ (zq_cz (zq_cz (zq_cz (zq_cz zq_cn)))) (hJ _)
  exact zx_zretg rfl dX1_isFurther_39
theorem cX1_isFurther_mc (N : Nat)  (p0 : Int32) (p1 : Int32) (p2 : Int32) (s : zq_S) (v : Int32 × zq_S) (h : mX1_isFurther N p0 p1 p2 s = some v) : zq_MC yX1_isFurther cX1_isFurther 4 (some .boolean) ⟨1, 0, 0, 21⟩ 0 0 [.int p0, .int p1, .int p2] (zq_en s) (zv_i v.1, zq_en v.2) := zq_MC_x [.int p0, .int p1, .int p2, .null] (by decide +kernel) rfl rfl (Nat.le_of_ble_eq_true rfl) (xX1_isFurther N p0 p1 p2 s) h
