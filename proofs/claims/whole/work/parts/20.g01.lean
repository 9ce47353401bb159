def jX8_put_j73 (N : Nat) (b0 : Bool)   (s : zq_S) : Option (Unit × zq_S) :=
  some ((), s)
set_option maxRecDepth 20000 in
set_option maxHeartbeats 2000000 in
theorem xX8_put_j73_j (N : Nat) (b0 : Bool)   (s : zq_S) : zq_X yX8_put RX8 cX8_put 4 none ⟨0, 0, 0, 0⟩ zv_v 73 [.null, .null, .null, .null] [] s (jX8_put_j73 N b0 s) := by
  unfold jX8_put_j73
  exact zx_vret rfl dX8_put_73
def mX8_put (N : Nat) (b0 : Bool) (p1 : Int32) (p2 : Int32) (s : zq_S) : Option (Unit × zq_S) :=
  if p1 < (0 : Int32) then
  jX8_put_j73 N b0 s
  else
  if (zgf s (zf b0) 0) ≤ p1 then
  jX8_put_j73 N b0 s
  else
  zq_ck p1 (zfS b0) (
  if (zga s (zf b0 + 2) p1) < (0 : Int32) then
  jX8_put_j73 N b0 s
  else
  zq_ck p1 (zfS b0) (
  if (40 : Int32) ≤ (zga s (zf b0 + 2) p1) then
  jX8_put_j73 N b0 s
  else
  zq_ck p1 (zfS b0) (
  zq_let (zga s (zf b0 + 2) p1) (fun x1 =>
  zq_ck ((p1 * (5 : Int32)) + (x1 >>> ((3 : Int32) &&& 31))) (zfP b0) (
  zq_ck ((p1 * (5 : Int32)) + (x1 >>> ((3 : Int32) &&& 31))) (zfP b0) (
  zq_let (zpl s (zf b0 + 1) ((p1 * (5 : Int32)) + (x1 >>> ((3 : Int32) &&& 31))) ((zgl s (zf b0 + 1) ((p1 * (5 : Int32)) + (x1 >>> ((3 : Int32) &&& 31)))) ||| ((Int32.toInt64 p2) <<< (Int32.toInt64 ((8 : Int32) * (x1 &&& (7 : Int32))) &&& 63)))) (fun s2 =>
  zq_ck p1 (zfS b0) (
  zq_let (zpa s2 (zf b0 + 2) p1 (x1 + (1 : Int32))) (fun s3 =>
  jX8_put_j73 N b0 s3)))))))))
set_option maxRecDepth 20000 in
set_option maxHeartbeats 2000000 in
theorem xX8_put (N : Nat) (b0 : Bool) (p1 : Int32) (p2 : Int32) (s : zq_S) : zq_X yX8_put RX8 cX8_put 4 none ⟨0, 0, 0, 0⟩ zv_v 0 [.ref (zf b0), .int p1, .int p2, .null] [] s (mX8_put N b0 p1 p2 s) := by
  unfold mX8_put
  refine zx_lift (pc' := 1) (fun _ => zq_iload_n rfl rfl dX8_put_0 rfl) ?_
  refine zx_if_lt (pc' := 4) (tgt := 73) dX8_put_1 rfl rfl (fun hc => ?_) (fun hc => ?_)
  · refine zx_less [.null, .null, .null, .null] (zq_cz (zq_cz (zq_cz (zq_cz zq_cn)))) ?_
    exact xX8_put_j73_j N b0 s
  · refine zx_lift (pc' := 5) (fun _ => zq_iload_n rfl rfl dX8_put_4 rfl) ?_
    refine zx_lift (pc' := 6) (fun _ => zq_aload_n rfl rfl dX8_put_5 rfl) ?_
    refine zx_lift (pc' := 9) (fun _ => zt_getI zfr_X8_15 (zfd_f_0 b0) dX8_put_6 rfl) ?_
    refine zx_icmp_ge (pc' := 12) (tgt := 73) dX8_put_9 rfl rfl (fun hc => ?_) (fun hc => ?_)
    · refine zx_less [.null, .null, .null, .null] (zq_cz (zq_cz (zq_cz (zq_cz zq_cn)))) ?_
      exact xX8_put_j73_j N b0 s
    · refine zx_lift (pc' := 13) (fun _ => zq_aload_n rfl rfl dX8_put_12 rfl) ?_
      refine zx_lift (pc' := 16) (fun _ => zt_getR zfr_X8_25 (zfd_f_2 b0) dX8_put_13 rfl) ?_
      refine zx_lift (pc' := 17) (fun _ => zq_iload_n rfl rfl dX8_put_16 rfl) ?_
      refine zx_iaload (pc' := 18) (zsh_f2 b0) dX8_put_17 rfl ?_
      refine zx_if_lt (pc' := 21) (tgt := 73) dX8_put_18 rfl rfl (fun hc => ?_) (fun hc => ?_)
      · refine zx_less [.null, .null, .null, .null] (zq_cz (zq_cz (zq_cz (zq_cz zq_cn)))) ?_
        exact xX8_put_j73_j N b0 s
      · refine zx_lift (pc' := 22) (fun _ => zq_aload_n rfl rfl dX8_put_21 rfl) ?_
        refine zx_lift (pc' := 25) (fun _ => zt_getR zfr_X8_25 (zfd_f_2 b0) dX8_put_22 rfl) ?_
        refine zx_lift (pc' := 26) (fun _ => zq_iload_n rfl rfl dX8_put_25 rfl) ?_
        refine zx_iaload (pc' := 27) (zsh_f2 b0) dX8_put_26 rfl ?_
        refine zx_lift (pc' := 29) (fun _ => zq_bipush (v := 40) dX8_put_27 rfl rfl) ?_
        refine zx_icmp_ge (pc' := 32) (tgt := 73) dX8_put_29 rfl rfl (fun hc => ?_) (fun hc => ?_)
        · refine zx_less [.null, .null, .null, .null] (zq_cz (zq_cz (zq_cz (zq_cz zq_cn)))) ?_
          exact xX8_put_j73_j N b0 s
        · refine zx_lift (pc' := 33) (fun _ => zq_aload_n rfl rfl dX8_put_32 rfl) ?_
          refine zx_lift (pc' := 36) (fun _ => zt_getR zfr_X8_25 (zfd_f_2 b0) dX8_put_33 rfl) ?_
          refine zx_lift (pc' := 37) (fun _ => zq_iload_n rfl rfl dX8_put_36 rfl) ?_
          refine zx_iaload (pc' := 38) (zsh_f2 b0) dX8_put_37 rfl ?_
          refine zx_istore_n (pc' := 39) (ls' := fun x1 => [.ref (zf b0), .int p1, .int p2, .int x1]) rfl (by decide) rfl (fun _ => rfl) dX8_put_38 rfl (fun x1 => ?_)
          refine zx_lift (pc' := 40) (fun _ => zq_aload_n rfl rfl dX8_put_39 rfl) ?_
          refine zx_lift (pc' := 43) (fun _ => zt_getR zfr_X8_21 (zfd_f_1 b0) dX8_put_40 rfl) ?_
          refine zx_lift (pc' := 44) (fun _ => zq_iload_n rfl rfl dX8_put_43 rfl) ?_
          refine zx_lift (pc' := 45) (fun _ => zq_iconst (v := 5) dX8_put_44 rfl rfl) ?_
          refine zx_lift (pc' := 46) (fun _ => zq_imul dX8_put_45 rfl) ?_
          refine zx_lift (pc' := 47) (fun _ => zq_iload_n rfl rfl dX8_put_46 rfl) ?_
          refine zx_lift (pc' := 48) (fun _ => zq_iconst (v := 3) dX8_put_47 rfl rfl) ?_
          refine zx_lift (pc' := 49) (fun _ => zq_ishr dX8_put_48 rfl) ?_
          refine zx_lift (pc' := 50) (fun _ => zq_iadd dX8_put_49 rfl) ?_
          refine zx_lift (pc' := 51) (fun _ => zq_dup2 rfl rfl dX8_put_50 rfl) ?_
          refine zx_laload (pc' := 52) (zsh_f1 b0) dX8_put_51 rfl ?_
          refine zx_lift (pc' := 53) (fun _ => zq_iload_n rfl rfl dX8_put_52 rfl) ?_
          refine zx_lift (pc' := 54) (fun _ => zq_i2l dX8_put_53 rfl) ?_
          refine zx_lift (pc' := 56) (fun _ => zq_bipush (v := 8) dX8_put_54 rfl rfl) ?_
          refine zx_lift (pc' := 57) (fun _ => zq_iload_n rfl rfl dX8_put_56 rfl) ?_
          refine zx_lift (pc' := 59) (fun _ => zq_bipush (v := 7) dX8_put_57 rfl rfl) ?_
          refine zx_lift (pc' := 60) (fun _ => zq_iand dX8_put_59 rfl) ?_
          refine zx_lift (pc' := 61) (fun _ => zq_imul dX8_put_60 rfl) ?_
          refine zx_lift (pc' := 62) (fun _ => zq_lshl dX8_put_61 rfl) ?_
          refine zx_lift (pc' := 63) (fun _ => zq_lor dX8_put_62 rfl) ?_
          refine zx_lastore (pc' := 64) (zsh_f1 b0) dX8_put_63 rfl (fun s2 => ?_)
          refine zx_lift (pc' := 65) (fun _ => zq_aload_n rfl rfl dX8_put_64 rfl) ?_
          refine zx_lift (pc' := 68) (fun _ => zt_getR zfr_X8_25 (zfd_f_2 b0) dX8_put_65 rfl) ?_
          refine zx_lift (pc' := 69) (fun _ => zq_iload_n rfl rfl dX8_put_68 rfl) ?_
          refine zx_lift (pc' := 70) (fun _ => zq_iload_n rfl rfl dX8_put_69 rfl) ?_
          refine zx_lift (pc' := 71) (fun _ => zq_iconst (v := 1) dX8_put_70 rfl rfl) ?_
          refine zx_lift (pc' := 72) (fun _ => zq_iadd dX8_put_71 rfl) ?_
          refine zx_iastore (pc' := 73) (zsh_f2 b0) dX8_put_72 rfl (fun s3 => ?_)
          refine zx_less [.null, .null, .null, .null] (zq_cz (zq_cz (zq_cz (zq_cz zq_cn)))) ?_
          exact xX8_put_j73_j N b0 s3
theorem cX8_put_mc (N : Nat) (b0 : Bool) (p1 : Int32) (p2 : Int32) (s : zq_S) (v : Unit × zq_S) (h : mX8_put N b0 p1 p2 s = some v) : zq_MC yX8_put cX8_put 4 none ⟨0, 0, 0, 0⟩ 0 0 [.ref (zf b0), .int p1, .int p2] (zq_en s) (zv_v v.1, zq_en v.2) := zq_MC_x [.ref (zf b0), .int p1, .int p2, .null] (by decide +kernel) rfl rfl (Nat.le_of_ble_eq_true rfl) (xX8_put N b0 p1 p2 s) h
def mX7_isIn (N : Nat)  (p0 : Int32) (p1 : Int32) (s : zq_S) : Option (Int32 × zq_S) :=
  zq_let (if p1 < (0 : Int32) then (0 : Int32) else (if (10 : Int32) ≤ p1 then (0 : Int32) else (if ((p0 >>> (p1 &&& 31)) &&& (1 : Int32)) = (0 : Int32) then (0 : Int32) else (1 : Int32)))) (fun x1 =>
  zq_bz x1 (some (x1, s)))
set_option maxRecDepth 20000 in
set_option maxHeartbeats 2000000 in
theorem xX7_isIn (N : Nat)  (p0 : Int32) (p1 : Int32) (s : zq_S) : zq_X yX7_isIn RX7 cX7_isIn 2 (some .boolean) ⟨0, 0, 0, 0⟩ zv_i 0 [.int p0, .int p1] [] s (mX7_isIn N p0 p1 s) := by
  unfold mX7_isIn
  refine zx_lift (pc' := 1) (fun _ => zq_iload_n rfl rfl dX7_isIn_0 rfl) ?_
  refine zx_tern (pcJ := 23) (lsJ := fun x1 => [.null, .null]) (stJ := fun x1 => [.int x1]) (fun x1 => ?_) (fun f hJ => ?_)
  rotate_left
  · refine zx_lif_lt (pc' := 4) (tgt := 22) dX7_isIn_1 rfl rfl (fun _ => ?_) (fun _ => ?_)
    · refine zx_lift (pc' := 23) (fun _ => zq_iconst (v := 0) dX7_isIn_22 rfl rfl) ?_
      exact zx_lessJ (zq_cz (zq_cz zq_cn)) (hJ _)
    · refine zx_lift (pc' := 5) (fun _ => zq_iload_n rfl rfl dX7_isIn_4 rfl) ?_
      refine zx_lift (pc' := 7) (fun _ => zq_bipush (v := 10) dX7_isIn_5 rfl rfl) ?_
      refine zx_licmp_ge (pc' := 10) (tgt := 22) dX7_isIn_7 rfl rfl (fun _ => ?_) (fun _ => ?_)
      · refine zx_lift (pc' := 23) (fun _ => zq_iconst (v := 0) dX7_isIn_22 rfl rfl) ?_
        exact zx_lessJ (zq_cz (zq_cz zq_cn)) (hJ _)
      · refine zx_lift (pc' := 11) (fun _ => zq_iload_n rfl rfl dX7_isIn_10 rfl) ?_
        refine zx_lift (pc' := 12) (fun _ => zq_iload_n rfl rfl dX7_isIn_11 rfl) ?_
        refine zx_lift (pc' := 13) (fun _ => zq_ishr dX7_isIn_12 rfl) ?_
        refine zx_lift (pc' := 14) (fun _ => zq_iconst (v := 1) dX7_isIn_13 rfl rfl) ?_
        refine zx_lift (pc' := 15) (fun _ => zq_iand dX7_isIn_14 rfl) ?_
        refine zx_lif_eq (pc' := 18) (tgt := 22) dX7_isIn_15 rfl rfl (fun _ => ?_) (fun _ => ?_)
        · refine zx_lift (pc' := 23) (fun _ => zq_iconst (v := 0) dX7_isIn_22 rfl rfl) ?_
          exact zx_lessJ (zq_cz (zq_cz zq_cn)) (hJ _)
        · refine zx_lift (pc' := 19) (fun _ => zq_iconst (v := 1) dX7_isIn_18 rfl rfl) ?_
          refine zx_lift (pc' := 23) (fun _ => zq_goto dX7_isIn_19 rfl) ?_
          exact zx_lessJ (zq_cz (zq_cz zq_cn)) (hJ _)
  exact zx_zretg rfl dX7_isIn_23
theorem cX7_isIn_mc (N : Nat)  (p0 : Int32) (p1 : Int32) (s : zq_S) (v : Int32 × zq_S) (h : mX7_isIn N p0 p1 s = some v) : zq_MC yX7_isIn cX7_isIn 2 (some .boolean) ⟨0, 0, 0, 0⟩ 0 0 [.int p0, .int p1] (zq_en s) (zv_i v.1, zq_en v.2) := zq_MC_x [.int p0, .int p1] (by decide +kernel) rfl rfl (Nat.le_of_ble_eq_true rfl) (xX7_isIn N p0 p1 s) h
def jX7_spell_j128 (N : Nat) (b0 : Bool) (b2 : Bool) (f1 : Int32) (k143 : zq_S → Option (Unit × zq_S)) (self : Int32 × Int32 × Int32 × zq_S → Option (Unit × zq_S)) (w3 : Int32) (w4 : Int32) (w5 : Int32) (s : zq_S) : Option (Unit × zq_S) :=
  zq_b2 (mX7_after N b0 w4 f1 s) (fun r4 s5 =>
  zq_let (w5 + (1 : Int32)) (fun x6 =>
  self (w3, r4, x6, s5)))
set_option maxRecDepth 20000 in
set_option maxHeartbeats 2000000 in
theorem xX7_spell_j128_j (N : Nat) (b0 : Bool) (b2 : Bool) (f1 : Int32) (k143 : zq_S → Option (Unit × zq_S)) (hk143 : ∀ e, zq_X yX7_spell RX7 cX7_spell 6 none ⟨1, 0, 0, 25⟩ zv_v 143 [.null, .null, .null, .null, .null, .null] [] e (k143 e)) (self : Int32 × Int32 × Int32 × zq_S → Option (Unit × zq_S)) (hself : ∀ v, zq_X yX7_spell RX7 cX7_spell 6 none ⟨1, 0, 0, 25⟩ zv_v 13 [.ref (zs b0), .int f1, .ref (zf b2), .int v.1, .int v.2.1, .int v.2.2.1] [] v.2.2.2 (self v)) (w3 : Int32) (w4 : Int32) (w5 : Int32) (s : zq_S) : zq_X yX7_spell RX7 cX7_spell 6 none ⟨1, 0, 0, 25⟩ zv_v 128 [.ref (zs b0), .int f1, .ref (zf b2), .int w3, .int w4, .int w5] [] s (jX7_spell_j128 N b0 b2 f1 k143 self w3 w4 w5 s) := by
  unfold jX7_spell_j128
  refine zx_lift (pc' := 129) (fun _ => zq_aload_n rfl rfl dX7_spell_128 rfl) ?_
  refine zx_lift (pc' := 131) (fun _ => zq_iload rfl dX7_spell_129 rfl) ?_
  refine zx_lift (pc' := 132) (fun _ => zq_iload_n rfl rfl dX7_spell_131 rfl) ?_
  refine zx_cVi (pc' := 135) zcv_X7_86 (cX7_after_mc N b0 w4 f1 s) (zob_s b0) rfl (by decide) (Nat.le_of_ble_eq_true rfl) dX7_spell_132 rfl rfl (fun r4 s5 => ?_)
  refine zx_lift (pc' := 137) (fun _ => zq_istore (ls' := [.ref (zs b0), .int f1, .ref (zf b2), .int w3, .int r4, .int w5]) (by decide) rfl rfl dX7_spell_135 rfl) ?_
  refine zx_iinc (pc' := 140) (ls' := fun x6 => [.ref (zs b0), .int f1, .ref (zf b2), .int w3, .int r4, .int x6]) rfl rfl (by decide) rfl (fun _ => rfl) dX7_spell_137 rfl (fun x6 => ?_)
  refine zx_lift (pc' := 13) (fun _ => zq_goto dX7_spell_140 rfl) ?_
  exact hself (w3, r4, x6, s5)
def jX7_spell_j99 (N : Nat) (b0 : Bool) (b2 : Bool) (f1 : Int32) (k143 : zq_S → Option (Unit × zq_S)) (self : Int32 × Int32 × Int32 × zq_S → Option (Unit × zq_S)) (w4 : Int32) (w5 : Int32) (s : zq_S) : Option (Unit × zq_S) :=
  zq_ck w4 100 (
  zq_let (zga s (zs b0 + 4) w4) (fun x3 =>
  jX7_spell_j128 N b0 b2 f1 k143 self x3 w4 w5 s))
set_option maxRecDepth 20000 in
set_option maxHeartbeats 2000000 in
theorem xX7_spell_j99_j (N : Nat) (b0 : Bool) (b2 : Bool) (f1 : Int32) (k143 : zq_S → Option (Unit × zq_S)) (hk143 : ∀ e, zq_X yX7_spell RX7 cX7_spell 6 none ⟨1, 0, 0, 25⟩ zv_v 143 [.null, .null, .null, .null, .null, .null] [] e (k143 e)) (self : Int32 × Int32 × Int32 × zq_S → Option (Unit × zq_S)) (hself : ∀ v, zq_X yX7_spell RX7 cX7_spell 6 none ⟨1, 0, 0, 25⟩ zv_v 13 [.ref (zs b0), .int f1, .ref (zf b2), .int v.1, .int v.2.1, .int v.2.2.1] [] v.2.2.2 (self v)) (w4 : Int32) (w5 : Int32) (s : zq_S) : zq_X yX7_spell RX7 cX7_spell 6 none ⟨1, 0, 0, 25⟩ zv_v 99 [.ref (zs b0), .int f1, .ref (zf b2), .null, .int w4, .int w5] [] s (jX7_spell_j99 N b0 b2 f1 k143 self w4 w5 s) := by
  unfold jX7_spell_j99
  refine zx_lift (pc' := 100) (fun _ => zq_aload_n rfl rfl dX7_spell_99 rfl) ?_
  refine zx_lift (pc' := 103) (fun _ => zt_getR zfr_X7_22 (zfd_s_5 b0) dX7_spell_100 rfl) ?_
  refine zx_lift (pc' := 105) (fun _ => zq_iload rfl dX7_spell_103 rfl) ?_
  refine zx_iaload (pc' := 106) (zsh_s4 b0) dX7_spell_105 rfl ?_
  refine zx_istore_n (pc' := 107) (ls' := fun x3 => [.ref (zs b0), .int f1, .ref (zf b2), .int x3, .int w4, .int w5]) rfl (by decide) rfl (fun _ => rfl) dX7_spell_106 rfl (fun x3 => ?_)
  refine zx_lift (pc' := 128) (fun _ => zq_goto dX7_spell_107 rfl) ?_
  exact xX7_spell_j128_j N b0 b2 f1 k143 hk143 self hself x3 w4 w5 s
def jX7_spell_j110 (N : Nat) (b0 : Bool) (b2 : Bool) (f1 : Int32) (k143 : zq_S → Option (Unit × zq_S)) (self : Int32 × Int32 × Int32 × zq_S → Option (Unit × zq_S)) (w3 : Int32) (w4 : Int32) (w5 : Int32) (s : zq_S) : Option (Unit × zq_S) :=
  zq_ck w4 100 (
  if (zga s (zs b0 + 2) w4) = (41 : Int32) then
  zq_b2 (mX8_put N b2 f1 w3 s) (fun r7 s8 =>
  jX7_spell_j128 N b0 b2 f1 k143 self w3 w4 w5 s8)
  else
  jX7_spell_j128 N b0 b2 f1 k143 self w3 w4 w5 s)
set_option maxRecDepth 20000 in
set_option maxHeartbeats 2000000 in
theorem xX7_spell_j110_j (N : Nat) (b0 : Bool) (b2 : Bool) (f1 : Int32) (k143 : zq_S → Option (Unit × zq_S)) (hk143 : ∀ e, zq_X yX7_spell RX7 cX7_spell 6 none ⟨1, 0, 0, 25⟩ zv_v 143 [.null, .null, .null, .null, .null, .null] [] e (k143 e)) (self : Int32 × Int32 × Int32 × zq_S → Option (Unit × zq_S)) (hself : ∀ v, zq_X yX7_spell RX7 cX7_spell 6 none ⟨1, 0, 0, 25⟩ zv_v 13 [.ref (zs b0), .int f1, .ref (zf b2), .int v.1, .int v.2.1, .int v.2.2.1] [] v.2.2.2 (self v)) (w3 : Int32) (w4 : Int32) (w5 : Int32) (s : zq_S) : zq_X yX7_spell RX7 cX7_spell 6 none ⟨1, 0, 0, 25⟩ zv_v 110 [.ref (zs b0), .int f1, .ref (zf b2), .int w3, .int w4, .int w5] [] s (jX7_spell_j110 N b0 b2 f1 k143 self w3 w4 w5 s) := by
  unfold jX7_spell_j110
  refine zx_lift (pc' := 111) (fun _ => zq_aload_n rfl rfl dX7_spell_110 rfl) ?_
  refine zx_lift (pc' := 114) (fun _ => zt_getR zfr_X7_15 (zfd_s_3 b0) dX7_spell_111 rfl) ?_
  refine zx_lift (pc' := 116) (fun _ => zq_iload rfl dX7_spell_114 rfl) ?_
  refine zx_iaload (pc' := 117) (zsh_s2 b0) dX7_spell_116 rfl ?_
  refine zx_lift (pc' := 119) (fun _ => zq_bipush (v := 41) dX7_spell_117 rfl rfl) ?_
  refine zx_icmp_ne (pc' := 122) (tgt := 128) dX7_spell_119 rfl rfl (fun hc => ?_) (fun hc => ?_)
  · exact xX7_spell_j128_j N b0 b2 f1 k143 hk143 self hself w3 w4 w5 s
  · refine zx_lift (pc' := 123) (fun _ => zq_aload_n rfl rfl dX7_spell_122 rfl) ?_
    refine zx_lift (pc' := 124) (fun _ => zq_iload_n rfl rfl dX7_spell_123 rfl) ?_
    refine zx_lift (pc' := 125) (fun _ => zq_iload_n rfl rfl dX7_spell_124 rfl) ?_
    refine zx_cVv (pc' := 128) zcv_X7_78 (cX8_put_mc N b2 f1 w3 s) (zob_f b2) rfl (by decide) (Nat.le_of_ble_eq_true rfl) dX7_spell_125 rfl rfl (fun r7 s8 => ?_)
    exact xX7_spell_j128_j N b0 b2 f1 k143 hk143 self hself w3 w4 w5 s8
def bX7_spell_13 (N : Nat) (b0 : Bool) (b2 : Bool) (f1 : Int32) (k143 : zq_S → Option (Unit × zq_S)) (self : Int32 × Int32 × Int32 × zq_S → Option (Unit × zq_S)) (v : Int32 × Int32 × Int32 × zq_S) : Option (Unit × zq_S) :=
  if (100 : Int32) ≤ v.2.2.1 then
  k143 v.2.2.2
  else
  if v.2.1 < (0 : Int32) then
  k143 v.2.2.2
  else
  if (zgf v.2.2.2 (zs b0) 6) ≤ v.2.1 then
  k143 v.2.2.2
  else
  zq_ck v.2.1 100 (
  if (zga v.2.2.2 (zs b0 + 2) v.2.1) = (119 : Int32) then
  zq_ck v.2.1 100 (
  zq_b2 (mX8_put N b2 f1 (zga v.2.2.2 (zs b0 + 4) v.2.1) v.2.2.2) (fun r11 s12 =>
  jX7_spell_j128 N b0 b2 f1 k143 self v.1 v.2.1 v.2.2.1 s12))
  else
  zq_ck v.2.1 100 (
  if (zga v.2.2.2 (zs b0 + 2) v.2.1) = (40 : Int32) then
  jX7_spell_j99 N b0 b2 f1 k143 self v.2.1 v.2.2.1 v.2.2.2
  else
  zq_ck v.2.1 100 (
  if (zga v.2.2.2 (zs b0 + 2) v.2.1) = (47 : Int32) then
  zq_ck v.2.1 100 (
  zq_b2 (mX7_isIn N f1 (zga v.2.2.2 (zs b0 + 3) v.2.1) v.2.2.2) (fun r9 s10 =>
  if r9 = (0 : Int32) then
  jX7_spell_j110 N b0 b2 f1 k143 self v.1 v.2.1 v.2.2.1 s10
  else
  jX7_spell_j99 N b0 b2 f1 k143 self v.2.1 v.2.2.1 s10))
  else
  jX7_spell_j110 N b0 b2 f1 k143 self v.1 v.2.1 v.2.2.1 v.2.2.2)))
set_option maxRecDepth 20000 in
set_option maxHeartbeats 2000000 in
theorem xX7_spell_13 (N : Nat) (b0 : Bool) (b2 : Bool) (f1 : Int32) (k143 : zq_S → Option (Unit × zq_S)) (hk143 : ∀ e, zq_X yX7_spell RX7 cX7_spell 6 none ⟨1, 0, 0, 25⟩ zv_v 143 [.null, .null, .null, .null, .null, .null] [] e (k143 e)) (self : Int32 × Int32 × Int32 × zq_S → Option (Unit × zq_S)) (hself : ∀ v, zq_X yX7_spell RX7 cX7_spell 6 none ⟨1, 0, 0, 25⟩ zv_v 13 [.ref (zs b0), .int f1, .ref (zf b2), .int v.1, .int v.2.1, .int v.2.2.1] [] v.2.2.2 (self v)) (v : Int32 × Int32 × Int32 × zq_S) : zq_X yX7_spell RX7 cX7_spell 6 none ⟨1, 0, 0, 25⟩ zv_v 13 [.ref (zs b0), .int f1, .ref (zf b2), .int v.1, .int v.2.1, .int v.2.2.1] [] v.2.2.2 (bX7_spell_13 N b0 b2 f1 k143 self v) := by
  unfold bX7_spell_13
  refine zx_lift (pc' := 15) (fun _ => zq_iload rfl dX7_spell_13 rfl) ?_
  refine zx_lift (pc' := 17) (fun _ => zq_bipush (v := 100) dX7_spell_15 rfl rfl) ?_
  refine zx_icmp_ge (pc' := 20) (tgt := 143) dX7_spell_17 rfl rfl (fun hc => ?_) (fun hc => ?_)
  · refine zx_less [.null, .null, .null, .null, .null, .null] (zq_cz (zq_cz (zq_cz (zq_cz (zq_cz (zq_cz zq_cn)))))) ?_
    exact hk143 v.2.2.2
  · refine zx_lift (pc' := 22) (fun _ => zq_iload rfl dX7_spell_20 rfl) ?_
    refine zx_if_lt (pc' := 25) (tgt := 143) dX7_spell_22 rfl rfl (fun hc => ?_) (fun hc => ?_)
    · refine zx_less [.null, .null, .null, .null, .null, .null] (zq_cz (zq_cz (zq_cz (zq_cz (zq_cz (zq_cz zq_cn)))))) ?_
      exact hk143 v.2.2.2
    · refine zx_lift (pc' := 27) (fun _ => zq_iload rfl dX7_spell_25 rfl) ?_
      refine zx_lift (pc' := 28) (fun _ => zq_aload_n rfl rfl dX7_spell_27 rfl) ?_
      refine zx_lift (pc' := 31) (fun _ => zt_getI zfr_X7_54 (zfd_s_6 b0) dX7_spell_28 rfl) ?_
      refine zx_icmp_ge (pc' := 34) (tgt := 143) dX7_spell_31 rfl rfl (fun hc => ?_) (fun hc => ?_)
      · refine zx_less [.null, .null, .null, .null, .null, .null] (zq_cz (zq_cz (zq_cz (zq_cz (zq_cz (zq_cz zq_cn)))))) ?_
        exact hk143 v.2.2.2
      · refine zx_lift (pc' := 35) (fun _ => zq_aload_n rfl rfl dX7_spell_34 rfl) ?_
        refine zx_lift (pc' := 38) (fun _ => zt_getR zfr_X7_15 (zfd_s_3 b0) dX7_spell_35 rfl) ?_
        refine zx_lift (pc' := 40) (fun _ => zq_iload rfl dX7_spell_38 rfl) ?_
        refine zx_iaload (pc' := 41) (zsh_s2 b0) dX7_spell_40 rfl ?_
        refine zx_lift (pc' := 43) (fun _ => zq_bipush (v := 119) dX7_spell_41 rfl rfl) ?_
        refine zx_icmp_ne (pc' := 46) (tgt := 61) dX7_spell_43 rfl rfl (fun hc => ?_) (fun hc => ?_)
        · refine zx_lift (pc' := 62) (fun _ => zq_aload_n rfl rfl dX7_spell_61 rfl) ?_
          refine zx_lift (pc' := 65) (fun _ => zt_getR zfr_X7_15 (zfd_s_3 b0) dX7_spell_62 rfl) ?_
          refine zx_lift (pc' := 67) (fun _ => zq_iload rfl dX7_spell_65 rfl) ?_
          refine zx_iaload (pc' := 68) (zsh_s2 b0) dX7_spell_67 rfl ?_
          refine zx_lift (pc' := 70) (fun _ => zq_bipush (v := 40) dX7_spell_68 rfl rfl) ?_
          refine zx_icmp_eq (pc' := 73) (tgt := 99) dX7_spell_70 rfl rfl (fun hc => ?_) (fun hc => ?_)
          · refine zx_less [.ref (zs b0), .int f1, .ref (zf b2), .null, .int v.2.1, .int v.2.2.1] (zq_cr (zq_cr (zq_cr (zq_cz (zq_cr (zq_cr zq_cn)))))) ?_
            exact xX7_spell_j99_j N b0 b2 f1 k143 hk143 self hself v.2.1 v.2.2.1 v.2.2.2
          · refine zx_lift (pc' := 74) (fun _ => zq_aload_n rfl rfl dX7_spell_73 rfl) ?_
            refine zx_lift (pc' := 77) (fun _ => zt_getR zfr_X7_15 (zfd_s_3 b0) dX7_spell_74 rfl) ?_
            refine zx_lift (pc' := 79) (fun _ => zq_iload rfl dX7_spell_77 rfl) ?_
            refine zx_iaload (pc' := 80) (zsh_s2 b0) dX7_spell_79 rfl ?_
            refine zx_lift (pc' := 82) (fun _ => zq_bipush (v := 47) dX7_spell_80 rfl rfl) ?_
            refine zx_icmp_ne (pc' := 85) (tgt := 110) dX7_spell_82 rfl rfl (fun hc => ?_) (fun hc => ?_)
            · exact xX7_spell_j110_j N b0 b2 f1 k143 hk143 self hself v.1 v.2.1 v.2.2.1 v.2.2.2
            · refine zx_lift (pc' := 86) (fun _ => zq_iload_n rfl rfl dX7_spell_85 rfl) ?_
              refine zx_lift (pc' := 87) (fun _ => zq_aload_n rfl rfl dX7_spell_86 rfl) ?_
              refine zx_lift (pc' := 90) (fun _ => zt_getR zfr_X7_19 (zfd_s_4 b0) dX7_spell_87 rfl) ?_
              refine zx_lift (pc' := 92) (fun _ => zq_iload rfl dX7_spell_90 rfl) ?_
              refine zx_iaload (pc' := 93) (zsh_s3 b0) dX7_spell_92 rfl ?_
              refine zx_cSi (pc' := 96) zcs_X7_82 (cX7_isIn_mc N f1 (zga v.2.2.2 (zs b0 + 3) v.2.1) v.2.2.2) rfl (by decide) (Nat.le_of_ble_eq_true rfl) dX7_spell_93 rfl rfl (fun r9 s10 => ?_)
              refine zx_if_eq (pc' := 99) (tgt := 110) dX7_spell_96 rfl rfl (fun hc => ?_) (fun hc => ?_)
              · exact xX7_spell_j110_j N b0 b2 f1 k143 hk143 self hself v.1 v.2.1 v.2.2.1 s10
              · refine zx_less [.ref (zs b0), .int f1, .ref (zf b2), .null, .int v.2.1, .int v.2.2.1] (zq_cr (zq_cr (zq_cr (zq_cz (zq_cr (zq_cr zq_cn)))))) ?_
                exact xX7_spell_j99_j N b0 b2 f1 k143 hk143 self hself v.2.1 v.2.2.1 s10
        · refine zx_lift (pc' := 47) (fun _ => zq_aload_n rfl rfl dX7_spell_46 rfl) ?_
          refine zx_lift (pc' := 48) (fun _ => zq_iload_n rfl rfl dX7_spell_47 rfl) ?_
          refine zx_lift (pc' := 49) (fun _ => zq_aload_n rfl rfl dX7_spell_48 rfl) ?_
          refine zx_lift (pc' := 52) (fun _ => zt_getR zfr_X7_22 (zfd_s_5 b0) dX7_spell_49 rfl) ?_
          refine zx_lift (pc' := 54) (fun _ => zq_iload rfl dX7_spell_52 rfl) ?_
          refine zx_iaload (pc' := 55) (zsh_s4 b0) dX7_spell_54 rfl ?_
          refine zx_cVv (pc' := 58) zcv_X7_78 (cX8_put_mc N b2 f1 (zga v.2.2.2 (zs b0 + 4) v.2.1) v.2.2.2) (zob_f b2) rfl (by decide) (Nat.le_of_ble_eq_true rfl) dX7_spell_55 rfl rfl (fun r11 s12 => ?_)
          refine zx_lift (pc' := 128) (fun _ => zq_goto dX7_spell_58 rfl) ?_
          exact xX7_spell_j128_j N b0 b2 f1 k143 hk143 self hself v.1 v.2.1 v.2.2.1 s12
theorem yX7_spell_13 (N : Nat) (b0 : Bool) (b2 : Bool) (f1 : Int32) (k143 : zq_S → Option (Unit × zq_S)) (hk143 : ∀ e, zq_X yX7_spell RX7 cX7_spell 6 none ⟨1, 0, 0, 25⟩ zv_v 143 [.null, .null, .null, .null, .null, .null] [] e (k143 e)) (n : Nat) : ∀ v : Int32 × Int32 × Int32 × zq_S, zq_X yX7_spell RX7 cX7_spell 6 none ⟨1, 0, 0, 25⟩ zv_v 13 [.ref (zs b0), .int f1, .ref (zf b2), .int v.1, .int v.2.1, .int v.2.2.1] [] v.2.2.2 (zq_loop (bX7_spell_13 N b0 b2 f1 k143) n v) := by
  induction n with
  | zero => exact fun v u hu => by cases hu
  | succ n ih =>
    intro v
    rw [zq_loop_s]
    exact xX7_spell_13 N b0 b2 f1 k143 hk143 (zq_loop (bX7_spell_13 N b0 b2 f1 k143) n) ih v
def jX7_spell_j143 (N : Nat) (b0 : Bool) (b2 : Bool)   (s : zq_S) : Option (Unit × zq_S) :=
  some ((), s)
set_option maxRecDepth 20000 in
set_option maxHeartbeats 2000000 in
theorem xX7_spell_j143_j (N : Nat) (b0 : Bool) (b2 : Bool)   (s : zq_S) : zq_X yX7_spell RX7 cX7_spell 6 none ⟨1, 0, 0, 25⟩ zv_v 143 [.null, .null, .null, .null, .null, .null] [] s (jX7_spell_j143 N b0 b2 s) := by
  unfold jX7_spell_j143
  exact zx_vret rfl dX7_spell_143
def mX7_spell (N : Nat) (b0 : Bool) (b2 : Bool) (p1 : Int32) (s : zq_S) : Option (Unit × zq_S) :=
  zq_b2 (mX8_clear N b2 p1 s) (fun r1 s2 =>
  zq_loop (bX7_spell_13 N b0 b2 p1 (fun e13 =>
  jX7_spell_j143 N b0 b2 e13)) N ((0 : Int32), (0 : Int32), (0 : Int32), s2))
set_option maxRecDepth 20000 in
set_option maxHeartbeats 2000000 in
theorem xX7_spell (N : Nat) (b0 : Bool) (b2 : Bool) (p1 : Int32) (s : zq_S) : zq_X yX7_spell RX7 cX7_spell 6 none ⟨1, 0, 0, 25⟩ zv_v 0 [.ref (zs b0), .int p1, .ref (zf b2), .null, .null, .null] [] s (mX7_spell N b0 b2 p1 s) := by
  unfold mX7_spell
  refine zx_lift (pc' := 1) (fun _ => zq_aload_n rfl rfl dX7_spell_0 rfl) ?_
  refine zx_lift (pc' := 2) (fun _ => zq_iload_n rfl rfl dX7_spell_1 rfl) ?_
  refine zx_cVv (pc' := 5) zcv_X7_73 (cX8_clear_mc N b2 p1 s) (zob_f b2) rfl (by decide) (Nat.le_of_ble_eq_true rfl) dX7_spell_2 rfl rfl (fun r1 s2 => ?_)
  refine zx_lift (pc' := 6) (fun _ => zq_iconst (v := 0) dX7_spell_5 rfl rfl) ?_
  refine zx_lift (pc' := 7) (fun _ => zq_istore_n (ls' := [.ref (zs b0), .int p1, .ref (zf b2), .int (0 : Int32), .null, .null]) rfl (by decide) rfl rfl dX7_spell_6 rfl) ?_
  refine zx_lift (pc' := 8) (fun _ => zq_iconst (v := 0) dX7_spell_7 rfl rfl) ?_
  refine zx_lift (pc' := 10) (fun _ => zq_istore (ls' := [.ref (zs b0), .int p1, .ref (zf b2), .int (0 : Int32), .int (0 : Int32), .null]) (by decide) rfl rfl dX7_spell_8 rfl) ?_
  refine zx_lift (pc' := 11) (fun _ => zq_iconst (v := 0) dX7_spell_10 rfl rfl) ?_
  refine zx_lift (pc' := 13) (fun _ => zq_istore (ls' := [.ref (zs b0), .int p1, .ref (zf b2), .int (0 : Int32), .int (0 : Int32), .int (0 : Int32)]) (by decide) rfl rfl dX7_spell_11 rfl) ?_
  refine yX7_spell_13 N b0 b2 p1 _ (fun e13 => ?_) N ((0 : Int32), (0 : Int32), (0 : Int32), s2)
  exact xX7_spell_j143_j N b0 b2 e13
theorem cX7_spell_mc (N : Nat) (b0 : Bool) (b2 : Bool) (p1 : Int32) (s : zq_S) (v : Unit × zq_S) (h : mX7_spell N b0 b2 p1 s = some v) : zq_MC yX7_spell cX7_spell 6 none ⟨1, 0, 0, 25⟩ 0 0 [.ref (zs b0), .int p1, .ref (zf b2)] (zq_en s) (zv_v v.1, zq_en v.2) := zq_MC_x [.ref (zs b0), .int p1, .ref (zf b2), .null, .null, .null] (by decide +kernel) rfl rfl (Nat.le_of_ble_eq_true rfl) (xX7_spell N b0 b2 p1 s) h
def jX9_with_j23 (N : Nat)    (s : zq_S) : Option (Unit × zq_S) :=
  some ((), s)
set_option maxRecDepth 20000 in
set_option maxHeartbeats 2000000 in
theorem xX9_with_j23_j (N : Nat)    (s : zq_S) : zq_X yX9_with RX9 cX9_with 2 (some (.object "CrossedSheets$Shelf")) ⟨2, 0, 0, 50⟩ zv_w 23 [.ref 38, .null] [] s (jX9_with_j23 N s) := by
  unfold jX9_with_j23
  refine zx_lift (pc' := 24) (fun _ => zq_aload_n rfl rfl dX9_with_23 rfl) ?_
  refine zx_lift (pc' := 27) (fun _ => zt_getR zfr_X9_14 zfd_38_0 dX9_with_24 rfl) ?_
  exact zx_aret rfl dX9_with_27
def mX9_with (N : Nat)  (p1 : Int32) (s : zq_S) : Option (Unit × zq_S) :=
  zq_b2 (mX8_isMade N false p1 s) (fun r1 s2 =>
  if r1 = (0 : Int32) then
  zq_b2 (mX7_spell N (zgb s2 4) false p1 s2) (fun r3 s4 =>
  jX9_with_j23 N s4)
  else
  jX9_with_j23 N s2)
set_option maxRecDepth 20000 in
set_option maxHeartbeats 2000000 in
theorem xX9_with (N : Nat)  (p1 : Int32) (s : zq_S) : zq_X yX9_with RX9 cX9_with 2 (some (.object "CrossedSheets$Shelf")) ⟨2, 0, 0, 50⟩ zv_w 0 [.ref 38, .int p1] [] s (mX9_with N p1 s) := by
  unfold mX9_with
  refine zx_lift (pc' := 1) (fun _ => zq_aload_n rfl rfl dX9_with_0 rfl) ?_
  refine zx_lift (pc' := 4) (fun _ => zt_getR zfr_X9_14 zfd_38_0 dX9_with_1 rfl) ?_
  refine zx_lift (pc' := 5) (fun _ => zq_iload_n rfl rfl dX9_with_4 rfl) ?_
  refine zx_cVi (pc' := 8) zcv_X9_27 (cX8_isMade_mc N false p1 s) (zob_f false) rfl (by decide) (Nat.le_of_ble_eq_true rfl) dX9_with_5 rfl rfl (fun r1 s2 => ?_)
  refine zx_if_ne (pc' := 11) (tgt := 23) dX9_with_8 rfl rfl (fun hc => ?_) (fun hc => ?_)
  · refine zx_less [.ref 38, .null] (zq_cr (zq_cz zq_cn)) ?_
    exact xX9_with_j23_j N s2
  · refine zx_lift (pc' := 12) (fun _ => zq_aload_n rfl rfl dX9_with_11 rfl) ?_
    refine zx_lift (pc' := 15) (fun _ => zt_getP zfr_X9_20 zfd_38_1 dX9_with_12 rfl) ?_
    refine zx_lift (pc' := 16) (fun _ => zq_iload_n rfl rfl dX9_with_15 rfl) ?_
    refine zx_lift (pc' := 17) (fun _ => zq_aload_n rfl rfl dX9_with_16 rfl) ?_
    refine zx_lift (pc' := 20) (fun _ => zt_getR zfr_X9_14 zfd_38_0 dX9_with_17 rfl) ?_
    refine zx_cVv (pc' := 23) zcv_X9_31 (cX7_spell_mc N (zgb s2 4) false p1 s2) (zob_s (zgb s2 4)) rfl (by decide) (Nat.le_of_ble_eq_true rfl) dX9_with_20 rfl rfl (fun r3 s4 => ?_)
    refine zx_less [.ref 38, .null] (zq_cr (zq_cz zq_cn)) ?_
    exact xX9_with_j23_j N s4
theorem cX9_with_mc (N : Nat)  (p1 : Int32) (s : zq_S) (v : Unit × zq_S) (h : mX9_with N p1 s = some v) : zq_MC yX9_with cX9_with 2 (some (.object "CrossedSheets$Shelf")) ⟨2, 0, 0, 50⟩ 0 0 [.ref 38, .int p1] (zq_en s) (zv_w v.1, zq_en v.2) := zq_MC_x [.ref 38, .int p1] (by decide +kernel) rfl rfl (Nat.le_of_ble_eq_true rfl) (xX9_with N p1 s) h
def jX8_sizeOf_j18 (N : Nat) (b0 : Bool)  (t0 : Int32) (s : zq_S) : Option (Int32 × zq_S) :=
  some (t0, s)
set_option maxRecDepth 20000 in
set_option maxHeartbeats 2000000 in
theorem xX8_sizeOf_j18_j (N : Nat) (b0 : Bool)  (t0 : Int32) (s : zq_S) : zq_X yX8_sizeOf RX8 cX8_sizeOf 2 (some .int) ⟨1, 0, 0, 21⟩ zv_i 18 [.null, .null] [.int t0] s (jX8_sizeOf_j18 N b0 t0 s) := by
  unfold jX8_sizeOf_j18
  exact zx_iret rfl dX8_sizeOf_18
def mX8_sizeOf (N : Nat) (b0 : Bool) (p1 : Int32) (s : zq_S) : Option (Int32 × zq_S) :=
  zq_b2 (mX8_isMade N b0 p1 s) (fun r1 s2 =>
  if r1 = (0 : Int32) then
  jX8_sizeOf_j18 N b0 (0 : Int32) s2
  else
  zq_ck p1 (zfS b0) (
  jX8_sizeOf_j18 N b0 (zga s2 (zf b0 + 2) p1) s2))
set_option maxRecDepth 20000 in
set_option maxHeartbeats 2000000 in
theorem xX8_sizeOf (N : Nat) (b0 : Bool) (p1 : Int32) (s : zq_S) : zq_X yX8_sizeOf RX8 cX8_sizeOf 2 (some .int) ⟨1, 0, 0, 21⟩ zv_i 0 [.ref (zf b0), .int p1] [] s (mX8_sizeOf N b0 p1 s) := by
  unfold mX8_sizeOf
  refine zx_lift (pc' := 1) (fun _ => zq_aload_n rfl rfl dX8_sizeOf_0 rfl) ?_
  refine zx_lift (pc' := 2) (fun _ => zq_iload_n rfl rfl dX8_sizeOf_1 rfl) ?_
  refine zx_cVi (pc' := 5) zcv_X8_35 (cX8_isMade_mc N b0 p1 s) (zob_f b0) rfl (by decide) (Nat.le_of_ble_eq_true rfl) dX8_sizeOf_2 rfl rfl (fun r1 s2 => ?_)
  refine zx_if_eq (pc' := 8) (tgt := 17) dX8_sizeOf_5 rfl rfl (fun hc => ?_) (fun hc => ?_)
  · refine zx_lift (pc' := 18) (fun _ => zq_iconst (v := 0) dX8_sizeOf_17 rfl rfl) ?_
    refine zx_less [.null, .null] (zq_cz (zq_cz zq_cn)) ?_
    exact xX8_sizeOf_j18_j N b0 (0 : Int32) s2
  · refine zx_lift (pc' := 9) (fun _ => zq_aload_n rfl rfl dX8_sizeOf_8 rfl) ?_
    refine zx_lift (pc' := 12) (fun _ => zt_getR zfr_X8_25 (zfd_f_2 b0) dX8_sizeOf_9 rfl) ?_
    refine zx_lift (pc' := 13) (fun _ => zq_iload_n rfl rfl dX8_sizeOf_12 rfl) ?_
    refine zx_iaload (pc' := 14) (zsh_f2 b0) dX8_sizeOf_13 rfl ?_
    refine zx_lift (pc' := 18) (fun _ => zq_goto dX8_sizeOf_14 rfl) ?_
    refine zx_less [.null, .null] (zq_cz (zq_cz zq_cn)) ?_
    exact xX8_sizeOf_j18_j N b0 (zga s2 (zf b0 + 2) p1) s2
theorem cX8_sizeOf_mc (N : Nat) (b0 : Bool) (p1 : Int32) (s : zq_S) (v : Int32 × zq_S) (h : mX8_sizeOf N b0 p1 s = some v) : zq_MC yX8_sizeOf cX8_sizeOf 2 (some .int) ⟨1, 0, 0, 21⟩ 0 0 [.ref (zf b0), .int p1] (zq_en s) (zv_i v.1, zq_en v.2) := zq_MC_x [.ref (zf b0), .int p1] (by decide +kernel) rfl rfl (Nat.le_of_ble_eq_true rfl) (xX8_sizeOf N b0 p1 s) h
def jX8_wordAt_j22 (N : Nat) (b0 : Bool)   (s : zq_S) : Option (Int32 × zq_S) :=
  some ((-1 : Int32), s)
set_option maxRecDepth 20000 in
set_option maxHeartbeats 2000000 in
theorem xX8_wordAt_j22_j (N : Nat) (b0 : Bool)   (s : zq_S) : zq_X yX8_wordAt RX8 cX8_wordAt 3 (some .int) ⟨1, 0, 0, 21⟩ zv_i 22 [.null, .null, .null] [] s (jX8_wordAt_j22 N b0 s) := by
  unfold jX8_wordAt_j22
  refine zx_lift (pc' := 23) (fun _ => zq_iconst (v := (-1)) dX8_wordAt_22 rfl rfl) ?_
  exact zx_iret rfl dX8_wordAt_23
def mX8_wordAt (N : Nat) (b0 : Bool) (p1 : Int32) (p2 : Int32) (s : zq_S) : Option (Int32 × zq_S) :=
  zq_b2 (mX8_isMade N b0 p1 s) (fun r1 s2 =>
  if r1 = (0 : Int32) then
  jX8_wordAt_j22 N b0 s2
  else
  if p2 < (0 : Int32) then
  jX8_wordAt_j22 N b0 s2
  else
  zq_ck p1 (zfS b0) (
  if p2 < (zga s2 (zf b0 + 2) p1) then
  zq_ck ((p1 * (5 : Int32)) + (p2 >>> ((3 : Int32) &&& 31))) (zfP b0) (
  some (((Int64.toInt32 ((Int64.toUInt64 (zgl s2 (zf b0 + 1) ((p1 * (5 : Int32)) + (p2 >>> ((3 : Int32) &&& 31)))) >>> ((Int32.toInt64 ((8 : Int32) * (p2 &&& (7 : Int32)))).toUInt64 &&& Int64.toUInt64 63)).toInt64)) &&& (255 : Int32)), s2))
  else
  jX8_wordAt_j22 N b0 s2))
set_option maxRecDepth 20000 in
set_option maxHeartbeats 2000000 in
theorem xX8_wordAt (N : Nat) (b0 : Bool) (p1 : Int32) (p2 : Int32) (s : zq_S) : zq_X yX8_wordAt RX8 cX8_wordAt 3 (some .int) ⟨1, 0, 0, 21⟩ zv_i 0 [.ref (zf b0), .int p1, .int p2] [] s (mX8_wordAt N b0 p1 p2 s) := by
  unfold mX8_wordAt
  refine zx_lift (pc' := 1) (fun _ => zq_aload_n rfl rfl dX8_wordAt_0 rfl) ?_
  refine zx_lift (pc' := 2) (fun _ => zq_iload_n rfl rfl dX8_wordAt_1 rfl) ?_
  refine zx_cVi (pc' := 5) zcv_X8_35 (cX8_isMade_mc N b0 p1 s) (zob_f b0) rfl (by decide) (Nat.le_of_ble_eq_true rfl) dX8_wordAt_2 rfl rfl (fun r1 s2 => ?_)
  refine zx_if_eq (pc' := 8) (tgt := 22) dX8_wordAt_5 rfl rfl (fun hc => ?_) (fun hc => ?_)
  · refine zx_less [.null, .null, .null] (zq_cz (zq_cz (zq_cz zq_cn))) ?_
    exact xX8_wordAt_j22_j N b0 s2
  · refine zx_lift (pc' := 9) (fun _ => zq_iload_n rfl rfl dX8_wordAt_8 rfl) ?_
    refine zx_if_lt (pc' := 12) (tgt := 22) dX8_wordAt_9 rfl rfl (fun hc => ?_) (fun hc => ?_)
    · refine zx_less [.null, .null, .null] (zq_cz (zq_cz (zq_cz zq_cn))) ?_
      exact xX8_wordAt_j22_j N b0 s2
    · refine zx_lift (pc' := 13) (fun _ => zq_iload_n rfl rfl dX8_wordAt_12 rfl) ?_
      refine zx_lift (pc' := 14) (fun _ => zq_aload_n rfl rfl dX8_wordAt_13 rfl) ?_
      refine zx_lift (pc' := 17) (fun _ => zt_getR zfr_X8_25 (zfd_f_2 b0) dX8_wordAt_14 rfl) ?_
      refine zx_lift (pc' := 18) (fun _ => zq_iload_n rfl rfl dX8_wordAt_17 rfl) ?_
      refine zx_iaload (pc' := 19) (zsh_f2 b0) dX8_wordAt_18 rfl ?_
      refine zx_icmp_lt (pc' := 22) (tgt := 24) dX8_wordAt_19 rfl rfl (fun hc => ?_) (fun hc => ?_)
      · refine zx_lift (pc' := 25) (fun _ => zq_aload_n rfl rfl dX8_wordAt_24 rfl) ?_
        refine zx_lift (pc' := 28) (fun _ => zt_getR zfr_X8_21 (zfd_f_1 b0) dX8_wordAt_25 rfl) ?_
        refine zx_lift (pc' := 29) (fun _ => zq_iload_n rfl rfl dX8_wordAt_28 rfl) ?_
        refine zx_lift (pc' := 30) (fun _ => zq_iconst (v := 5) dX8_wordAt_29 rfl rfl) ?_
        refine zx_lift (pc' := 31) (fun _ => zq_imul dX8_wordAt_30 rfl) ?_
        refine zx_lift (pc' := 32) (fun _ => zq_iload_n rfl rfl dX8_wordAt_31 rfl) ?_
        refine zx_lift (pc' := 33) (fun _ => zq_iconst (v := 3) dX8_wordAt_32 rfl rfl) ?_
        refine zx_lift (pc' := 34) (fun _ => zq_ishr dX8_wordAt_33 rfl) ?_
        refine zx_lift (pc' := 35) (fun _ => zq_iadd dX8_wordAt_34 rfl) ?_
        refine zx_laload (pc' := 36) (zsh_f1 b0) dX8_wordAt_35 rfl ?_
        refine zx_lift (pc' := 38) (fun _ => zq_bipush (v := 8) dX8_wordAt_36 rfl rfl) ?_
        refine zx_lift (pc' := 39) (fun _ => zq_iload_n rfl rfl dX8_wordAt_38 rfl) ?_
        refine zx_lift (pc' := 41) (fun _ => zq_bipush (v := 7) dX8_wordAt_39 rfl rfl) ?_
        refine zx_lift (pc' := 42) (fun _ => zq_iand dX8_wordAt_41 rfl) ?_
        refine zx_lift (pc' := 43) (fun _ => zq_imul dX8_wordAt_42 rfl) ?_
        refine zx_lift (pc' := 44) (fun _ => zq_lushr dX8_wordAt_43 rfl) ?_
        refine zx_lift (pc' := 45) (fun _ => zq_l2i dX8_wordAt_44 rfl) ?_
        refine zx_lift (pc' := 48) (fun _ => zq_sipush (v := 255) dX8_wordAt_45 rfl rfl) ?_
        refine zx_lift (pc' := 49) (fun _ => zq_iand dX8_wordAt_48 rfl) ?_
        exact zx_iret rfl dX8_wordAt_49
      · refine zx_less [.null, .null, .null] (zq_cz (zq_cz (zq_cz zq_cn))) ?_
        exact xX8_wordAt_j22_j N b0 s2
theorem cX8_wordAt_mc (N : Nat) (b0 : Bool) (p1 : Int32) (p2 : Int32) (s : zq_S) (v : Int32 × zq_S) (h : mX8_wordAt N b0 p1 p2 s = some v) : zq_MC yX8_wordAt cX8_wordAt 3 (some .int) ⟨1, 0, 0, 21⟩ 0 0 [.ref (zf b0), .int p1, .int p2] (zq_en s) (zv_i v.1, zq_en v.2) := zq_MC_x [.ref (zf b0), .int p1, .int p2] (by decide +kernel) rfl rfl (Nat.le_of_ble_eq_true rfl) (xX8_wordAt N b0 p1 p2 s) h
def mX11_isWord (N : Nat)  (p0 : Int32) (s : zq_S) : Option (Int32 × zq_S) :=
  zq_let (if p0 < (0 : Int32) then (0 : Int32) else (if (100 : Int32) ≤ p0 then (0 : Int32) else (1 : Int32))) (fun x1 =>
  zq_bz x1 (some (x1, s)))
set_option maxRecDepth 20000 in
set_option maxHeartbeats 2000000 in
theorem xX11_isWord (N : Nat)  (p0 : Int32) (s : zq_S) : zq_X yX11_isWord RX11 cX11_isWord 1 (some .boolean) ⟨0, 0, 0, 0⟩ zv_i 0 [.int p0] [] s (mX11_isWord N p0 s) := by
  unfold mX11_isWord
  refine zx_lift (pc' := 1) (fun _ => zq_iload_n rfl rfl dX11_isWord_0 rfl) ?_
  refine zx_tern (pcJ := 15) (lsJ := fun x1 => [.null]) (stJ := fun x1 => [.int x1]) (fun x1 => ?_) (fun f hJ => ?_)
  rotate_left
  · refine zx_lif_lt (pc' := 4) (tgt := 14) dX11_isWord_1 rfl rfl (fun _ => ?_) (fun _ => ?_)
    · refine zx_lift (pc' := 15) (fun _ => zq_iconst (v := 0) dX11_isWord_14 rfl rfl) ?_
      exact zx_lessJ (zq_cz zq_cn) (hJ _)
    · refine zx_lift (pc' := 5) (fun _ => zq_iload_n rfl rfl dX11_isWord_4 rfl) ?_
      refine zx_lift (pc' := 7) (fun _ => zq_bipush (v := 100) dX11_isWord_5 rfl rfl) ?_
      refine zx_licmp_ge (pc' := 10) (tgt := 14) dX11_isWord_7 rfl rfl (fun _ => ?_) (fun _ => ?_)
      · refine zx_lift (pc' := 15) (fun _ => zq_iconst (v := 0) dX11_isWord_14 rfl rfl) ?_
        exact zx_lessJ (zq_cz zq_cn) (hJ _)
      · refine zx_lift (pc' := 11) (fun _ => zq_iconst (v := 1) dX11_isWord_10 rfl rfl) ?_
        refine zx_lift (pc' := 15) (fun _ => zq_goto dX11_isWord_11 rfl) ?_
        exact zx_lessJ (zq_cz zq_cn) (hJ _)
  exact zx_zretg rfl dX11_isWord_15
theorem cX11_isWord_mc (N : Nat)  (p0 : Int32) (s : zq_S) (v : Int32 × zq_S) (h : mX11_isWord N p0 s = some v) : zq_MC yX11_isWord cX11_isWord 1 (some .boolean) ⟨0, 0, 0, 0⟩ 0 0 [.int p0] (zq_en s) (zv_i v.1, zq_en v.2) := zq_MC_x [.int p0] (by decide +kernel) rfl rfl (Nat.le_of_ble_eq_true rfl) (xX11_isWord N p0 s) h
def jX2_lastCell_j49 (N : Nat) (b2 : Bool) (f1 : Int32) (f3 : Int32) (f4 : Int32)  (self : Int64 × Int64 × Int32 × Int32 × zq_S → Option (Int32 × zq_S)) (w5 : Int64) (w7 : Int64) (w9 : Int32) (w10 : Int32) (t0 : Int64) (s : zq_S) : Option (Int32 × zq_S) :=
  zq_let ((((t0 &&& w5) + w5) ^^^ w5) ||| t0) (fun x5 =>
  zq_let (w7 ||| ((x5 ||| w5) ^^^ (-1 : Int64))) (fun x6 =>
  zq_let (w5 &&& x5) (fun x7 =>
  zq_let (w9 + ((Int64.toInt32 (((Int64.toUInt64 x6 >>> ((Int32.toInt64 (f1 - (1 : Int32))).toUInt64 &&& Int64.toUInt64 63)).toInt64) &&& (1 : Int64))) - (Int64.toInt32 (((Int64.toUInt64 x7 >>> ((Int32.toInt64 (f1 - (1 : Int32))).toUInt64 &&& Int64.toUInt64 63)).toInt64) &&& (1 : Int64))))) (fun x8 =>
  zq_let (t0 ||| w7) (fun x9 =>
  zq_let ((x6 <<< (Int32.toInt64 (1 : Int32) &&& 63)) ||| (1 : Int64)) (fun x10 =>
  zq_let ((x7 <<< (Int32.toInt64 (1 : Int32) &&& 63)) ||| ((x9 ||| x10) ^^^ (-1 : Int64))) (fun x11 =>
  zq_let (x10 &&& x9) (fun x12 =>
  zq_let (w10 + (1 : Int32)) (fun x13 =>
  self (x11, x12, x8, x13, s))))))))))
set_option maxRecDepth 20000 in
set_option maxHeartbeats 2000000 in
theorem xX2_lastCell_j49_j (N : Nat) (b2 : Bool) (f1 : Int32) (f3 : Int32) (f4 : Int32)  (self : Int64 × Int64 × Int32 × Int32 × zq_S → Option (Int32 × zq_S)) (hself : ∀ v, zq_X yX2_lastCell RX2 cX2_lastCell 22 (some .int) ⟨2, 0, 0, 43⟩ zv_i 14 [.ref 54, .int f1, .ref (zf b2), .int f3, .int f4, .long v.1, .null, .long v.2.1, .null, .int v.2.2.1, .int v.2.2.2.1, .null, .null, .null, .null, .null, .null, .null, .null, .null, .null, .null] [] v.2.2.2.2 (self v)) (w5 : Int64) (w7 : Int64) (w9 : Int32) (w10 : Int32) (t0 : Int64) (s : zq_S) : zq_X yX2_lastCell RX2 cX2_lastCell 22 (some .int) ⟨2, 0, 0, 43⟩ zv_i 49 [.ref 54, .int f1, .ref (zf b2), .int f3, .int f4, .long w5, .null, .long w7, .null, .int w9, .int w10, .null, .null, .null, .null, .null, .null, .null, .null, .null, .null, .null] [.long t0] s (jX2_lastCell_j49 N b2 f1 f3 f4 self w5 w7 w9 w10 t0 s) := by
  unfold jX2_lastCell_j49
  refine zx_lift (pc' := 51) (fun _ => zq_lstore (ls' := [.ref 54, .int f1, .ref (zf b2), .int f3, .int f4, .long w5, .null, .long w7, .null, .int w9, .int w10, .null, .long t0, .null, .null, .null, .null, .null, .null, .null, .null, .null]) (by decide) rfl rfl dX2_lastCell_49 rfl) ?_
  refine zx_lift (pc' := 53) (fun _ => zq_lload rfl dX2_lastCell_51 rfl) ?_
  refine zx_lift (pc' := 55) (fun _ => zq_lload rfl dX2_lastCell_53 rfl) ?_
  refine zx_lift (pc' := 56) (fun _ => zq_land dX2_lastCell_55 rfl) ?_
  refine zx_lift (pc' := 58) (fun _ => zq_lload rfl dX2_lastCell_56 rfl) ?_
  refine zx_lift (pc' := 59) (fun _ => zq_ladd dX2_lastCell_58 rfl) ?_
  refine zx_lift (pc' := 61) (fun _ => zq_lload rfl dX2_lastCell_59 rfl) ?_
  refine zx_lift (pc' := 62) (fun _ => zq_lxor dX2_lastCell_61 rfl) ?_
  refine zx_lift (pc' := 64) (fun _ => zq_lload rfl dX2_lastCell_62 rfl) ?_
  refine zx_lift (pc' := 65) (fun _ => zq_lor dX2_lastCell_64 rfl) ?_
  refine zx_lstore (pc' := 67) (ls' := fun x5 => [.ref 54, .int f1, .ref (zf b2), .int f3, .int f4, .long w5, .null, .long w7, .null, .int w9, .int w10, .null, .long t0, .null, .long x5, .null, .null, .null, .null, .null, .null, .null]) (by decide) rfl (fun _ => rfl) dX2_lastCell_65 rfl (fun x5 => ?_)
  refine zx_lift (pc' := 69) (fun _ => zq_lload rfl dX2_lastCell_67 rfl) ?_
  refine zx_lift (pc' := 71) (fun _ => zq_lload rfl dX2_lastCell_69 rfl) ?_
  refine zx_lift (pc' := 73) (fun _ => zq_lload rfl dX2_lastCell_71 rfl) ?_
  refine zx_lift (pc' := 74) (fun _ => zq_lor dX2_lastCell_73 rfl) ?_
  refine zx_lift (pc' := 77) (fun _ => zq_ldc2 zk_X2_39 dX2_lastCell_74 rfl) ?_
  refine zx_lift (pc' := 78) (fun _ => zq_lxor dX2_lastCell_77 rfl) ?_
  refine zx_lift (pc' := 79) (fun _ => zq_lor dX2_lastCell_78 rfl) ?_
  refine zx_lstore (pc' := 81) (ls' := fun x6 => [.ref 54, .int f1, .ref (zf b2), .int f3, .int f4, .long w5, .null, .long w7, .null, .int w9, .int w10, .null, .long t0, .null, .long x5, .null, .long x6, .null, .null, .null, .null, .null]) (by decide) rfl (fun _ => rfl) dX2_lastCell_79 rfl (fun x6 => ?_)
  refine zx_lift (pc' := 83) (fun _ => zq_lload rfl dX2_lastCell_81 rfl) ?_
  refine zx_lift (pc' := 85) (fun _ => zq_lload rfl dX2_lastCell_83 rfl) ?_
  refine zx_lift (pc' := 86) (fun _ => zq_land dX2_lastCell_85 rfl) ?_
  refine zx_lstore (pc' := 88) (ls' := fun x7 => [.ref 54, .int f1, .ref (zf b2), .int f3, .int f4, .long w5, .null, .long w7, .null, .int w9, .int w10, .null, .long t0, .null, .long x5, .null, .long x6, .null, .long x7, .null, .null, .null]) (by decide) rfl (fun _ => rfl) dX2_lastCell_86 rfl (fun x7 => ?_)
  refine zx_lift (pc' := 90) (fun _ => zq_iload rfl dX2_lastCell_88 rfl) ?_
  refine zx_lift (pc' := 92) (fun _ => zq_lload rfl dX2_lastCell_90 rfl) ?_
  refine zx_lift (pc' := 93) (fun _ => zq_iload_n rfl rfl dX2_lastCell_92 rfl) ?_
  refine zx_lift (pc' := 94) (fun _ => zq_iconst (v := 1) dX2_lastCell_93 rfl rfl) ?_
  refine zx_lift (pc' := 95) (fun _ => zq_isub dX2_lastCell_94 rfl) ?_
  refine zx_lift (pc' := 96) (fun _ => zq_lushr dX2_lastCell_95 rfl) ?_
  refine zx_lift (pc' := 97) (fun _ => zq_lconst (v := 1) dX2_lastCell_96 rfl rfl) ?_
  refine zx_lift (pc' := 98) (fun _ => zq_land dX2_lastCell_97 rfl) ?_
  refine zx_lift (pc' := 99) (fun _ => zq_l2i dX2_lastCell_98 rfl) ?_
  refine zx_lift (pc' := 101) (fun _ => zq_lload rfl dX2_lastCell_99 rfl) ?_
  refine zx_lift (pc' := 102) (fun _ => zq_iload_n rfl rfl dX2_lastCell_101 rfl) ?_
  refine zx_lift (pc' := 103) (fun _ => zq_iconst (v := 1) dX2_lastCell_102 rfl rfl) ?_
  refine zx_lift (pc' := 104) (fun _ => zq_isub dX2_lastCell_103 rfl) ?_
  refine zx_lift (pc' := 105) (fun _ => zq_lushr dX2_lastCell_104 rfl) ?_
  refine zx_lift (pc' := 106) (fun _ => zq_lconst (v := 1) dX2_lastCell_105 rfl rfl) ?_
  refine zx_lift (pc' := 107) (fun _ => zq_land dX2_lastCell_106 rfl) ?_
  refine zx_lift (pc' := 108) (fun _ => zq_l2i dX2_lastCell_107 rfl) ?_
  refine zx_lift (pc' := 109) (fun _ => zq_isub dX2_lastCell_108 rfl) ?_
  refine zx_lift (pc' := 110) (fun _ => zq_iadd dX2_lastCell_109 rfl) ?_
  refine zx_istore (pc' := 112) (ls' := fun x8 => [.ref 54, .int f1, .ref (zf b2), .int f3, .int f4, .long w5, .null, .long w7, .null, .int x8, .int w10, .null, .long t0, .null, .long x5, .null, .long x6, .null, .long x7, .null, .null, .null]) (by decide) rfl (fun _ => rfl) dX2_lastCell_110 rfl (fun x8 => ?_)
  refine zx_lift (pc' := 114) (fun _ => zq_lload rfl dX2_lastCell_112 rfl) ?_
  refine zx_lift (pc' := 116) (fun _ => zq_lload rfl dX2_lastCell_114 rfl) ?_
  refine zx_lift (pc' := 117) (fun _ => zq_lor dX2_lastCell_116 rfl) ?_
  refine zx_lstore (pc' := 119) (ls' := fun x9 => [.ref 54, .int f1, .ref (zf b2), .int f3, .int f4, .long w5, .null, .long w7, .null, .int x8, .int w10, .null, .long t0, .null, .long x5, .null, .long x6, .null, .long x7, .null, .long x9, .null]) (by decide) rfl (fun _ => rfl) dX2_lastCell_117 rfl (fun x9 => ?_)
  refine zx_lift (pc' := 121) (fun _ => zq_lload rfl dX2_lastCell_119 rfl) ?_
  refine zx_lift (pc' := 122) (fun _ => zq_iconst (v := 1) dX2_lastCell_121 rfl rfl) ?_
  refine zx_lift (pc' := 123) (fun _ => zq_lshl dX2_lastCell_122 rfl) ?_
  refine zx_lift (pc' := 124) (fun _ => zq_lconst (v := 1) dX2_lastCell_123 rfl rfl) ?_
  refine zx_lift (pc' := 125) (fun _ => zq_lor dX2_lastCell_124 rfl) ?_
  refine zx_lstore (pc' := 127) (ls' := fun x10 => [.ref 54, .int f1, .ref (zf b2), .int f3, .int f4, .long w5, .null, .long w7, .null, .int x8, .int w10, .null, .long t0, .null, .long x5, .null, .long x10, .null, .long x7, .null, .long x9, .null]) (by decide) rfl (fun _ => rfl) dX2_lastCell_125 rfl (fun x10 => ?_)
  refine zx_lift (pc' := 129) (fun _ => zq_lload rfl dX2_lastCell_127 rfl) ?_
  refine zx_lift (pc' := 130) (fun _ => zq_iconst (v := 1) dX2_lastCell_129 rfl rfl) ?_
  refine zx_lift (pc' := 131) (fun _ => zq_lshl dX2_lastCell_130 rfl) ?_
  refine zx_lift (pc' := 133) (fun _ => zq_lload rfl dX2_lastCell_131 rfl) ?_
  refine zx_lift (pc' := 135) (fun _ => zq_lload rfl dX2_lastCell_133 rfl) ?_
  refine zx_lift (pc' := 136) (fun _ => zq_lor dX2_lastCell_135 rfl) ?_
  refine zx_lift (pc' := 139) (fun _ => zq_ldc2 zk_X2_39 dX2_lastCell_136 rfl) ?_
  refine zx_lift (pc' := 140) (fun _ => zq_lxor dX2_lastCell_139 rfl) ?_
  refine zx_lift (pc' := 141) (fun _ => zq_lor dX2_lastCell_140 rfl) ?_
  refine zx_lstore (pc' := 143) (ls' := fun x11 => [.ref 54, .int f1, .ref (zf b2), .int f3, .int f4, .long x11, .null, .long w7, .null, .int x8, .int w10, .null, .long t0, .null, .long x5, .null, .long x10, .null, .long x7, .null, .long x9, .null]) (by decide) rfl (fun _ => rfl) dX2_lastCell_141 rfl (fun x11 => ?_)
  refine zx_lift (pc' := 145) (fun _ => zq_lload rfl dX2_lastCell_143 rfl) ?_
  refine zx_lift (pc' := 147) (fun _ => zq_lload rfl dX2_lastCell_145 rfl) ?_
  refine zx_lift (pc' := 148) (fun _ => zq_land dX2_lastCell_147 rfl) ?_
  refine zx_lstore (pc' := 150) (ls' := fun x12 => [.ref 54, .int f1, .ref (zf b2), .int f3, .int f4, .long x11, .null, .long x12, .null, .int x8, .int w10, .null, .long t0, .null, .long x5, .null, .long x10, .null, .long x7, .null, .long x9, .null]) (by decide) rfl (fun _ => rfl) dX2_lastCell_148 rfl (fun x12 => ?_)
  refine zx_iinc (pc' := 153) (ls' := fun x13 => [.ref 54, .int f1, .ref (zf b2), .int f3, .int f4, .long x11, .null, .long x12, .null, .int x8, .int x13, .null, .long t0, .null, .long x5, .null, .long x10, .null, .long x7, .null, .long x9, .null]) rfl rfl (by decide) rfl (fun _ => rfl) dX2_lastCell_150 rfl (fun x13 => ?_)
  refine zx_lift (pc' := 14) (fun _ => zq_goto dX2_lastCell_153 rfl) ?_
  refine zx_less [.ref 54, .int f1, .ref (zf b2), .int f3, .int f4, .long x11, .null, .long x12, .null, .int x8, .int x13, .null, .null, .null, .null, .null, .null, .null, .null, .null, .null, .null] (zq_cr (zq_cr (zq_cr (zq_cr (zq_cr (zq_cr (zq_cz (zq_cr (zq_cz (zq_cr (zq_cr (zq_cz (zq_cz (zq_cz (zq_cz (zq_cz (zq_cz (zq_cz (zq_cz (zq_cz (zq_cz (zq_cz zq_cn)))))))))))))))))))))) ?_
  exact hself (x11, x12, x8, x13, s)
def bX2_lastCell_14 (N : Nat) (b2 : Bool) (f1 : Int32) (f3 : Int32) (f4 : Int32)  (self : Int64 × Int64 × Int32 × Int32 × zq_S → Option (Int32 × zq_S)) (v : Int64 × Int64 × Int32 × Int32 × zq_S) : Option (Int32 × zq_S) :=
  if f4 ≤ v.2.2.2.1 then
  some (v.2.2.1, v.2.2.2.2)
  else
  zq_b2 (mX8_wordAt N b2 f3 v.2.2.2.1 v.2.2.2.2) (fun r1 s2 =>
  zq_b2 (mX11_isWord N r1 s2) (fun r3 s4 =>
  if r3 = (0 : Int32) then
  jX2_lastCell_j49 N b2 f1 f3 f4 self v.1 v.2.1 v.2.2.1 v.2.2.2.1 (0 : Int64) s4
  else
  zq_ck r1 100 (
  jX2_lastCell_j49 N b2 f1 f3 f4 self v.1 v.2.1 v.2.2.1 v.2.2.2.1 (zgl s4 55 r1) s4)))
set_option maxRecDepth 20000 in
set_option maxHeartbeats 2000000 in
theorem xX2_lastCell_14 (N : Nat) (b2 : Bool) (f1 : Int32) (f3 : Int32) (f4 : Int32)  (self : Int64 × Int64 × Int32 × Int32 × zq_S → Option (Int32 × zq_S)) (hself : ∀ v, zq_X yX2_lastCell RX2 cX2_lastCell 22 (some .int) ⟨2, 0, 0, 43⟩ zv_i 14 [.ref 54, .int f1, .ref (zf b2), .int f3, .int f4, .long v.1, .null, .long v.2.1, .null, .int v.2.2.1, .int v.2.2.2.1, .null, .null, .null, .null, .null, .null, .null, .null, .null, .null, .null] [] v.2.2.2.2 (self v)) (v : Int64 × Int64 × Int32 × Int32 × zq_S) : zq_X yX2_lastCell RX2 cX2_lastCell 22 (some .int) ⟨2, 0, 0, 43⟩ zv_i 14 [.ref 54, .int f1, .ref (zf b2), .int f3, .int f4, .long v.1, .null, .long v.2.1, .null, .int v.2.2.1, .int v.2.2.2.1, .null, .null, .null, .null, .null, .null, .null, .null, .null, .null, .null] [] v.2.2.2.2 (bX2_lastCell_14 N b2 f1 f3 f4 self v) := by
  unfold bX2_lastCell_14
  refine zx_lift (pc' := 16) (fun _ => zq_iload rfl dX2_lastCell_14 rfl) ?_
  refine zx_lift (pc' := 18) (fun _ => zq_iload rfl dX2_lastCell_16 rfl) ?_
  refine zx_icmp_ge (pc' := 21) (tgt := 156) dX2_lastCell_18 rfl rfl (fun hc => ?_) (fun hc => ?_)
  · refine zx_lift (pc' := 158) (fun _ => zq_iload rfl dX2_lastCell_156 rfl) ?_
    exact zx_iret rfl dX2_lastCell_158
  · refine zx_lift (pc' := 22) (fun _ => zq_aload_n rfl rfl dX2_lastCell_21 rfl) ?_
    refine zx_lift (pc' := 23) (fun _ => zq_iload_n rfl rfl dX2_lastCell_22 rfl) ?_
    refine zx_lift (pc' := 25) (fun _ => zq_iload rfl dX2_lastCell_23 rfl) ?_
    refine zx_cVi (pc' := 28) zcv_X2_27 (cX8_wordAt_mc N b2 f3 v.2.2.2.1 v.2.2.2.2) (zob_f b2) rfl (by decide) (Nat.le_of_ble_eq_true rfl) dX2_lastCell_25 rfl rfl (fun r1 s2 => ?_)
    refine zx_lift (pc' := 30) (fun _ => zq_istore (ls' := [.ref 54, .int f1, .ref (zf b2), .int f3, .int f4, .long v.1, .null, .long v.2.1, .null, .int v.2.2.1, .int v.2.2.2.1, .int r1, .null, .null, .null, .null, .null, .null, .null, .null, .null, .null]) (by decide) rfl rfl dX2_lastCell_28 rfl) ?_
    refine zx_lift (pc' := 32) (fun _ => zq_iload rfl dX2_lastCell_30 rfl) ?_
    refine zx_cSNi (pc' := 35) zcs_X2_31 (cX11_isWord_mc N r1 s2) rfl (by decide) (Nat.le_of_ble_eq_true rfl) dX2_lastCell_32 rfl rfl (fun r3 s4 => ?_)
    refine zx_if_eq (pc' := 38) (tgt := 48) dX2_lastCell_35 rfl rfl (fun hc => ?_) (fun hc => ?_)
    · refine zx_lift (pc' := 49) (fun _ => zq_lconst (v := 0) dX2_lastCell_48 rfl rfl) ?_
      refine zx_less [.ref 54, .int f1, .ref (zf b2), .int f3, .int f4, .long v.1, .null, .long v.2.1, .null, .int v.2.2.1, .int v.2.2.2.1, .null, .null, .null, .null, .null, .null, .null, .null, .null, .null, .null] (zq_cr (zq_cr (zq_cr (zq_cr (zq_cr (zq_cr (zq_cz (zq_cr (zq_cz (zq_cr (zq_cr (zq_cz (zq_cz (zq_cz (zq_cz (zq_cz (zq_cz (zq_cz (zq_cz (zq_cz (zq_cz (zq_cz zq_cn)))))))))))))))))))))) ?_
      exact xX2_lastCell_j49_j N b2 f1 f3 f4 self hself v.1 v.2.1 v.2.2.1 v.2.2.2.1 (0 : Int64) s4
    · refine zx_lift (pc' := 39) (fun _ => zq_aload_n rfl rfl dX2_lastCell_38 rfl) ?_
      refine zx_lift (pc' := 42) (fun _ => zt_getR zfr_X2_9 zfd_54_0 dX2_lastCell_39 rfl) ?_
      refine zx_lift (pc' := 44) (fun _ => zq_iload rfl dX2_lastCell_42 rfl) ?_
      refine zx_laload (pc' := 45) zsh_55 dX2_lastCell_44 rfl ?_
      refine zx_lift (pc' := 49) (fun _ => zq_goto dX2_lastCell_45 rfl) ?_
      refine zx_less [.ref 54, .int f1, .ref (zf b2), .int f3, .int f4, .long v.1, .null, .long v.2.1, .null, .int v.2.2.1, .int v.2.2.2.1, .null, .null, .null, .null, .null, .null, .null, .null, .null, .null, .null] (zq_cr (zq_cr (zq_cr (zq_cr (zq_cr (zq_cr (zq_cz (zq_cr (zq_cz (zq_cr (zq_cr (zq_cz (zq_cz (zq_cz (zq_cz (zq_cz (zq_cz (zq_cz (zq_cz (zq_cz (zq_cz (zq_cz zq_cn)))))))))))))))))))))) ?_
      exact xX2_lastCell_j49_j N b2 f1 f3 f4 self hself v.1 v.2.1 v.2.2.1 v.2.2.2.1 (zgl s4 55 r1) s4
theorem yX2_lastCell_14 (N : Nat) (b2 : Bool) (f1 : Int32) (f3 : Int32) (f4 : Int32)  (n : Nat) : ∀ v : Int64 × Int64 × Int32 × Int32 × zq_S, zq_X yX2_lastCell RX2 cX2_lastCell 22 (some .int) ⟨2, 0, 0, 43⟩ zv_i 14 [.ref 54, .int f1, .ref (zf b2), .int f3, .int f4, .long v.1, .null, .long v.2.1, .null, .int v.2.2.1, .int v.2.2.2.1, .null, .null, .null, .null, .null, .null, .null, .null, .null, .null, .null] [] v.2.2.2.2 (zq_loop (bX2_lastCell_14 N b2 f1 f3 f4 ) n v) := by
  induction n with
  | zero => exact fun v u hu => by cases hu
  | succ n ih =>
    intro v
    rw [zq_loop_s]
    exact xX2_lastCell_14 N b2 f1 f3 f4  (zq_loop (bX2_lastCell_14 N b2 f1 f3 f4 ) n) ih v
def mX2_lastCell (N : Nat) (b2 : Bool) (p1 : Int32) (p3 : Int32) (p4 : Int32) (s : zq_S) : Option (Int32 × zq_S) :=
  zq_loop (bX2_lastCell_14 N b2 p1 p3 p4 ) N ((-1 : Int64), (0 : Int64), p1, (0 : Int32), s)
set_option maxRecDepth 20000 in
set_option maxHeartbeats 2000000 in
theorem xX2_lastCell (N : Nat) (b2 : Bool) (p1 : Int32) (p3 : Int32) (p4 : Int32) (s : zq_S) : zq_X yX2_lastCell RX2 cX2_lastCell 22 (some .int) ⟨2, 0, 0, 43⟩ zv_i 0 [.ref 54, .int p1, .ref (zf b2), .int p3, .int p4, .null, .null, .null, .null, .null, .null, .null, .null, .null, .null, .null, .null, .null, .null, .null, .null, .null] [] s (mX2_lastCell N b2 p1 p3 p4 s) := by
  unfold mX2_lastCell
  refine zx_lift (pc' := 3) (fun _ => zq_ldc2 zk_X2_39 dX2_lastCell_0 rfl) ?_
  refine zx_lift (pc' := 5) (fun _ => zq_lstore (ls' := [.ref 54, .int p1, .ref (zf b2), .int p3, .int p4, .long (-1 : Int64), .null, .null, .null, .null, .null, .null, .null, .null, .null, .null, .null, .null, .null, .null, .null, .null]) (by decide) rfl rfl dX2_lastCell_3 rfl) ?_
  refine zx_lift (pc' := 6) (fun _ => zq_lconst (v := 0) dX2_lastCell_5 rfl rfl) ?_
  refine zx_lift (pc' := 8) (fun _ => zq_lstore (ls' := [.ref 54, .int p1, .ref (zf b2), .int p3, .int p4, .long (-1 : Int64), .null, .long (0 : Int64), .null, .null, .null, .null, .null, .null, .null, .null, .null, .null, .null, .null, .null, .null]) (by decide) rfl rfl dX2_lastCell_6 rfl) ?_
  refine zx_lift (pc' := 9) (fun _ => zq_iload_n rfl rfl dX2_lastCell_8 rfl) ?_
  refine zx_lift (pc' := 11) (fun _ => zq_istore (ls' := [.ref 54, .int p1, .ref (zf b2), .int p3, .int p4, .long (-1 : Int64), .null, .long (0 : Int64), .null, .int p1, .null, .null, .null, .null, .null, .null, .null, .null, .null, .null, .null, .null]) (by decide) rfl rfl dX2_lastCell_9 rfl) ?_
  refine zx_lift (pc' := 12) (fun _ => zq_iconst (v := 0) dX2_lastCell_11 rfl rfl) ?_
  refine zx_lift (pc' := 14) (fun _ => zq_istore (ls' := [.ref 54, .int p1, .ref (zf b2), .int p3, .int p4, .long (-1 : Int64), .null, .long (0 : Int64), .null, .int p1, .int (0 : Int32), .null, .null, .null, .null, .null, .null, .null, .null, .null, .null, .null]) (by decide) rfl rfl dX2_lastCell_12 rfl) ?_
  refine yX2_lastCell_14 N b2 p1 p3 p4  N ((-1 : Int64), (0 : Int64), p1, (0 : Int32), s)
theorem cX2_lastCell_mc (N : Nat) (b2 : Bool) (p1 : Int32) (p3 : Int32) (p4 : Int32) (s : zq_S) (v : Int32 × zq_S) (h : mX2_lastCell N b2 p1 p3 p4 s = some v) : zq_MC yX2_lastCell cX2_lastCell 22 (some .int) ⟨2, 0, 0, 43⟩ 0 0 [.ref 54, .int p1, .ref (zf b2), .int p3, .int p4] (zq_en s) (zv_i v.1, zq_en v.2) := zq_MC_x [.ref 54, .int p1, .ref (zf b2), .int p3, .int p4, .null, .null, .null, .null, .null, .null, .null, .null, .null, .null, .null, .null, .null, .null, .null, .null, .null] (by decide +kernel) rfl rfl (Nat.le_of_ble_eq_true rfl) (xX2_lastCell N b2 p1 p3 p4 s) h
def jX2_between_j72 (N : Nat) (b1 : Bool) (b3 : Bool) (f2 : Int32) (f4 : Int32) (f5 : Int32) (f6 : Int32)  (self : Int32 × zq_S → Option (Int32 × zq_S)) (w7 : Int32) (s : zq_S) : Option (Int32 × zq_S) :=
  zq_let (w7 + (1 : Int32)) (fun x12 =>
  self (x12, s))
set_option maxRecDepth 20000 in
set_option maxHeartbeats 2000000 in
theorem xX2_between_j72_j (N : Nat) (b1 : Bool) (b3 : Bool) (f2 : Int32) (f4 : Int32) (f5 : Int32) (f6 : Int32)  (self : Int32 × zq_S → Option (Int32 × zq_S)) (hself : ∀ v, zq_X yX2_between RX2 cX2_between 9 (some .int) ⟨3, 0, 0, 84⟩ zv_i 34 [.ref 54, .ref (zf b1), .int f2, .ref (zf b3), .int f4, .int f5, .int f6, .int v.1, .null] [] v.2 (self v)) (w7 : Int32) (s : zq_S) : zq_X yX2_between RX2 cX2_between 9 (some .int) ⟨3, 0, 0, 84⟩ zv_i 72 [.ref 54, .ref (zf b1), .int f2, .ref (zf b3), .int f4, .int f5, .int f6, .int w7, .null] [] s (jX2_between_j72 N b1 b3 f2 f4 f5 f6 self w7 s) := by
  unfold jX2_between_j72
  refine zx_iinc (pc' := 75) (ls' := fun x12 => [.ref 54, .ref (zf b1), .int f2, .ref (zf b3), .int f4, .int f5, .int f6, .int x12, .null]) rfl rfl (by decide) rfl (fun _ => rfl) dX2_between_72 rfl (fun x12 => ?_)
  refine zx_lift (pc' := 34) (fun _ => zq_goto dX2_between_75 rfl) ?_
  exact hself (x12, s)
def bX2_between_34 (N : Nat) (b1 : Bool) (b3 : Bool) (f2 : Int32) (f4 : Int32) (f5 : Int32) (f6 : Int32)  (self : Int32 × zq_S → Option (Int32 × zq_S)) (v : Int32 × zq_S) : Option (Int32 × zq_S) :=
  if f5 ≤ v.1 then
  zq_b2 (mX2_lastCell N b3 f5 f4 f6 v.2) (fun r6 s7 =>
  some (r6, s7))
  else
  zq_b2 (mX8_wordAt N b1 f2 v.1 v.2) (fun r8 s9 =>
  zq_b2 (mX11_isWord N r8 s9) (fun r10 s11 =>
  if r10 = (0 : Int32) then
  jX2_between_j72 N b1 b3 f2 f4 f5 f6 self v.1 s11
  else
  zq_ck r8 100 (
  zq_ck r8 100 (
  zq_let (zpl s11 55 r8 ((zgl s11 55 r8) ||| ((1 : Int64) <<< (Int32.toInt64 v.1 &&& 63)))) (fun s13 =>
  jX2_between_j72 N b1 b3 f2 f4 f5 f6 self v.1 s13)))))
set_option maxRecDepth 20000 in
set_option maxHeartbeats 2000000 in
theorem xX2_between_34 (N : Nat) (b1 : Bool) (b3 : Bool) (f2 : Int32) (f4 : Int32) (f5 : Int32) (f6 : Int32)  (self : Int32 × zq_S → Option (Int32 × zq_S)) (hself : ∀ v, zq_X yX2_between RX2 cX2_between 9 (some .int) ⟨3, 0, 0, 84⟩ zv_i 34 [.ref 54, .ref (zf b1), .int f2, .ref (zf b3), .int f4, .int f5, .int f6, .int v.1, .null] [] v.2 (self v)) (v : Int32 × zq_S) : zq_X yX2_between RX2 cX2_between 9 (some .int) ⟨3, 0, 0, 84⟩ zv_i 34 [.ref 54, .ref (zf b1), .int f2, .ref (zf b3), .int f4, .int f5, .int f6, .int v.1, .null] [] v.2 (bX2_between_34 N b1 b3 f2 f4 f5 f6 self v) := by
  unfold bX2_between_34
  refine zx_lift (pc' := 36) (fun _ => zq_iload rfl dX2_between_34 rfl) ?_
  refine zx_lift (pc' := 38) (fun _ => zq_iload rfl dX2_between_36 rfl) ?_
  refine zx_icmp_ge (pc' := 41) (tgt := 78) dX2_between_38 rfl rfl (fun hc => ?_) (fun hc => ?_)
  · refine zx_lift (pc' := 79) (fun _ => zq_aload_n rfl rfl dX2_between_78 rfl) ?_
    refine zx_lift (pc' := 81) (fun _ => zq_iload rfl dX2_between_79 rfl) ?_
    refine zx_lift (pc' := 82) (fun _ => zq_aload_n rfl rfl dX2_between_81 rfl) ?_
    refine zx_lift (pc' := 84) (fun _ => zq_iload rfl dX2_between_82 rfl) ?_
    refine zx_lift (pc' := 86) (fun _ => zq_iload rfl dX2_between_84 rfl) ?_
    refine zx_cVi (pc' := 89) zcv_X2_35 (cX2_lastCell_mc N b3 f5 f4 f6 v.2) zob_54 rfl (by decide) (Nat.le_of_ble_eq_true rfl) dX2_between_86 rfl rfl (fun r6 s7 => ?_)
    exact zx_iret rfl dX2_between_89
  · refine zx_lift (pc' := 42) (fun _ => zq_aload_n rfl rfl dX2_between_41 rfl) ?_
    refine zx_lift (pc' := 43) (fun _ => zq_iload_n rfl rfl dX2_between_42 rfl) ?_
    refine zx_lift (pc' := 45) (fun _ => zq_iload rfl dX2_between_43 rfl) ?_
    refine zx_cVi (pc' := 48) zcv_X2_27 (cX8_wordAt_mc N b1 f2 v.1 v.2) (zob_f b1) rfl (by decide) (Nat.le_of_ble_eq_true rfl) dX2_between_45 rfl rfl (fun r8 s9 => ?_)
    refine zx_lift (pc' := 50) (fun _ => zq_istore (ls' := [.ref 54, .ref (zf b1), .int f2, .ref (zf b3), .int f4, .int f5, .int f6, .int v.1, .int r8]) (by decide) rfl rfl dX2_between_48 rfl) ?_
    refine zx_lift (pc' := 52) (fun _ => zq_iload rfl dX2_between_50 rfl) ?_
    refine zx_cSNi (pc' := 55) zcs_X2_31 (cX11_isWord_mc N r8 s9) rfl (by decide) (Nat.le_of_ble_eq_true rfl) dX2_between_52 rfl rfl (fun r10 s11 => ?_)
    refine zx_if_eq (pc' := 58) (tgt := 72) dX2_between_55 rfl rfl (fun hc => ?_) (fun hc => ?_)
    · refine zx_less [.ref 54, .ref (zf b1), .int f2, .ref (zf b3), .int f4, .int f5, .int f6, .int v.1, .null] (zq_cr (zq_cr (zq_cr (zq_cr (zq_cr (zq_cr (zq_cr (zq_cr (zq_cz zq_cn))))))))) ?_
      exact xX2_between_j72_j N b1 b3 f2 f4 f5 f6 self hself v.1 s11
    · refine zx_lift (pc' := 59) (fun _ => zq_aload_n rfl rfl dX2_between_58 rfl) ?_
      refine zx_lift (pc' := 62) (fun _ => zt_getR zfr_X2_9 zfd_54_0 dX2_between_59 rfl) ?_
      refine zx_lift (pc' := 64) (fun _ => zq_iload rfl dX2_between_62 rfl) ?_
      refine zx_lift (pc' := 65) (fun _ => zq_dup2 rfl rfl dX2_between_64 rfl) ?_
      refine zx_laload (pc' := 66) zsh_55 dX2_between_65 rfl ?_
      refine zx_lift (pc' := 67) (fun _ => zq_lconst (v := 1) dX2_between_66 rfl rfl) ?_
      refine zx_lift (pc' := 69) (fun _ => zq_iload rfl dX2_between_67 rfl) ?_
      refine zx_lift (pc' := 70) (fun _ => zq_lshl dX2_between_69 rfl) ?_
      refine zx_lift (pc' := 71) (fun _ => zq_lor dX2_between_70 rfl) ?_
      refine zx_lastore (pc' := 72) zsh_55 dX2_between_71 rfl (fun s13 => ?_)
      refine zx_less [.ref 54, .ref (zf b1), .int f2, .ref (zf b3), .int f4, .int f5, .int f6, .int v.1, .null] (zq_cr (zq_cr (zq_cr (zq_cr (zq_cr (zq_cr (zq_cr (zq_cr (zq_cz zq_cn))))))))) ?_
      exact xX2_between_j72_j N b1 b3 f2 f4 f5 f6 self hself v.1 s13
theorem yX2_between_34 (N : Nat) (b1 : Bool) (b3 : Bool) (f2 : Int32) (f4 : Int32) (f5 : Int32) (f6 : Int32)  (n : Nat) : ∀ v : Int32 × zq_S, zq_X yX2_between RX2 cX2_between 9 (some .int) ⟨3, 0, 0, 84⟩ zv_i 34 [.ref 54, .ref (zf b1), .int f2, .ref (zf b3), .int f4, .int f5, .int f6, .int v.1, .null] [] v.2 (zq_loop (bX2_between_34 N b1 b3 f2 f4 f5 f6 ) n v) := by
  induction n with
  | zero => exact fun v u hu => by cases hu
  | succ n ih =>
    intro v
    rw [zq_loop_s]
    exact xX2_between_34 N b1 b3 f2 f4 f5 f6  (zq_loop (bX2_between_34 N b1 b3 f2 f4 f5 f6 ) n) ih v
def mX2_between (N : Nat) (b1 : Bool) (b3 : Bool) (p2 : Int32) (p4 : Int32) (s : zq_S) : Option (Int32 × zq_S) :=
  zq_b2 (mX8_sizeOf N b1 p2 s) (fun r1 s2 =>
  zq_b2 (mX8_sizeOf N b3 p4 s2) (fun r3 s4 =>
  if r1 = (0 : Int32) then
  some (r3, s4)
  else
  zq_let (zpfl s4 55 100 (0 : Int64)) (fun s5 =>
  zq_loop (bX2_between_34 N b1 b3 p2 p4 r1 r3 ) N ((0 : Int32), s5))))
set_option maxRecDepth 20000 in
set_option maxHeartbeats 2000000 in
theorem xX2_between (N : Nat) (b1 : Bool) (b3 : Bool) (p2 : Int32) (p4 : Int32) (s : zq_S) : zq_X yX2_between RX2 cX2_between 9 (some .int) ⟨3, 0, 0, 84⟩ zv_i 0 [.ref 54, .ref (zf b1), .int p2, .ref (zf b3), .int p4, .null, .null, .null, .null] [] s (mX2_between N b1 b3 p2 p4 s) := by
  unfold mX2_between
  refine zx_lift (pc' := 1) (fun _ => zq_aload_n rfl rfl dX2_between_0 rfl) ?_
  refine zx_lift (pc' := 2) (fun _ => zq_iload_n rfl rfl dX2_between_1 rfl) ?_
  refine zx_cVi (pc' := 5) zcv_X2_15 (cX8_sizeOf_mc N b1 p2 s) (zob_f b1) rfl (by decide) (Nat.le_of_ble_eq_true rfl) dX2_between_2 rfl rfl (fun r1 s2 => ?_)
  refine zx_lift (pc' := 7) (fun _ => zq_istore (ls' := [.ref 54, .ref (zf b1), .int p2, .ref (zf b3), .int p4, .int r1, .null, .null, .null]) (by decide) rfl rfl dX2_between_5 rfl) ?_
  refine zx_lift (pc' := 8) (fun _ => zq_aload_n rfl rfl dX2_between_7 rfl) ?_
  refine zx_lift (pc' := 10) (fun _ => zq_iload rfl dX2_between_8 rfl) ?_
  refine zx_cVi (pc' := 13) zcv_X2_15 (cX8_sizeOf_mc N b3 p4 s2) (zob_f b3) rfl (by decide) (Nat.le_of_ble_eq_true rfl) dX2_between_10 rfl rfl (fun r3 s4 => ?_)
  refine zx_lift (pc' := 15) (fun _ => zq_istore (ls' := [.ref 54, .ref (zf b1), .int p2, .ref (zf b3), .int p4, .int r1, .int r3, .null, .null]) (by decide) rfl rfl dX2_between_13 rfl) ?_
  refine zx_lift (pc' := 17) (fun _ => zq_iload rfl dX2_between_15 rfl) ?_
  refine zx_if_ne (pc' := 20) (tgt := 23) dX2_between_17 rfl rfl (fun hc => ?_) (fun hc => ?_)
  · refine zx_lift (pc' := 24) (fun _ => zq_aload_n rfl rfl dX2_between_23 rfl) ?_
    refine zx_lift (pc' := 27) (fun _ => zt_getR zfr_X2_9 zfd_54_0 dX2_between_24 rfl) ?_
    refine zx_lift (pc' := 28) (fun _ => zq_lconst (v := 0) dX2_between_27 rfl rfl) ?_
    refine zx_fillL (pc' := 31) zcs_X2_21 zsh_55 ⟨by decide, by decide, Nat.le_of_ble_eq_true rfl⟩ dX2_between_28 rfl (fun s5 => ?_)
    refine zx_lift (pc' := 32) (fun _ => zq_iconst (v := 0) dX2_between_31 rfl rfl) ?_
    refine zx_lift (pc' := 34) (fun _ => zq_istore (ls' := [.ref 54, .ref (zf b1), .int p2, .ref (zf b3), .int p4, .int r1, .int r3, .int (0 : Int32), .null]) (by decide) rfl rfl dX2_between_32 rfl) ?_
    refine yX2_between_34 N b1 b3 p2 p4 r1 r3  N ((0 : Int32), s5)
  · refine zx_lift (pc' := 22) (fun _ => zq_iload rfl dX2_between_20 rfl) ?_
    exact zx_iret rfl dX2_between_22
theorem cX2_between_mc (N : Nat) (b1 : Bool) (b3 : Bool) (p2 : Int32) (p4 : Int32) (s : zq_S) (v : Int32 × zq_S) (h : mX2_between N b1 b3 p2 p4 s = some v) : zq_MC yX2_between cX2_between 9 (some .int) ⟨3, 0, 0, 84⟩ 0 0 [.ref 54, .ref (zf b1), .int p2, .ref (zf b3), .int p4] (zq_en s) (zv_i v.1, zq_en v.2) := zq_MC_x [.ref 54, .ref (zf b1), .int p2, .ref (zf b3), .int p4, .null, .null, .null, .null] (by decide +kernel) rfl rfl (Nat.le_of_ble_eq_true rfl) (xX2_between N b1 b3 p2 p4 s) h
def jX11_apart_j22 (N : Nat)    (s : zq_S) : Option (Int32 × zq_S) :=
  some ((-1001 : Int32), s)
set_option maxRecDepth 20000 in
set_option maxHeartbeats 2000000 in
theorem xX11_apart_j22_j (N : Nat)    (s : zq_S) : zq_X yX11_apart RX11 cX11_apart 3 (some .int) ⟨4, 0, 0, 112⟩ zv_i 22 [.null, .null, .null] [] s (jX11_apart_j22 N s) := by
  unfold jX11_apart_j22
  refine zx_lift (pc' := 25) (fun _ => zq_sipush (v := (-1001)) dX11_apart_22 rfl rfl) ?_
  exact zx_iret rfl dX11_apart_25
def jX11_apart_j48 (N : Nat)    (s : zq_S) : Option (Int32 × zq_S) :=
  some ((-1003 : Int32), s)
set_option maxRecDepth 20000 in
set_option maxHeartbeats 2000000 in
theorem xX11_apart_j48_j (N : Nat)    (s : zq_S) : zq_X yX11_apart RX11 cX11_apart 3 (some .int) ⟨4, 0, 0, 112⟩ zv_i 48 [.null, .null, .null] [] s (jX11_apart_j48 N s) := by
  unfold jX11_apart_j48
  refine zx_lift (pc' := 51) (fun _ => zq_sipush (v := (-1003)) dX11_apart_48 rfl rfl) ?_
  exact zx_iret rfl dX11_apart_51
def mX11_apart (N : Nat)  (p1 : Int32) (p2 : Int32) (s : zq_S) : Option (Int32 × zq_S) :=
  zq_b2 (mX3_hasBits N p1 s) (fun r1 s2 =>
  if r1 = (0 : Int32) then
  jX11_apart_j22 N s2
  else
  zq_b2 (mX3_hasBits N p2 s2) (fun r3 s4 =>
  if r3 = (0 : Int32) then
  jX11_apart_j22 N s4
  else
  zq_b2 (mX3_isGood N p1 s4) (fun r5 s6 =>
  if r5 = (0 : Int32) then
  jX11_apart_j48 N s6
  else
  zq_b2 (mX3_isGood N p2 s6) (fun r7 s8 =>
  if r7 = (0 : Int32) then
  jX11_apart_j48 N s8
  else
  zq_b2 (mX9_with N p1 s8) (fun r9 s10 =>
  zq_b2 (mX9_with N p2 s10) (fun r11 s12 =>
  zq_b2 (mX2_between N false false p1 p2 s12) (fun r13 s14 =>
  some (r13, s14))))))))
set_option maxRecDepth 20000 in
set_option maxHeartbeats 2000000 in
theorem xX11_apart (N : Nat)  (p1 : Int32) (p2 : Int32) (s : zq_S) : zq_X yX11_apart RX11 cX11_apart 3 (some .int) ⟨4, 0, 0, 112⟩ zv_i 0 [.ref 0, .int p1, .int p2] [] s (mX11_apart N p1 p2 s) := by
  unfold mX11_apart
  refine zx_lift (pc' := 1) (fun _ => zq_aload_n rfl rfl dX11_apart_0 rfl) ?_
  refine zx_lift (pc' := 4) (fun _ => zt_getR zfr_X11_31 zfd_0_1 dX11_apart_1 rfl) ?_
  refine zx_lift (pc' := 5) (fun _ => zq_iload_n rfl rfl dX11_apart_4 rfl) ?_
  refine zx_cVi (pc' := 8) zcv_X11_246 (cX3_hasBits_mc N p1 s) zob_31 rfl (by decide) (Nat.le_of_ble_eq_true rfl) dX11_apart_5 rfl rfl (fun r1 s2 => ?_)
  refine zx_if_eq (pc' := 11) (tgt := 22) dX11_apart_8 rfl rfl (fun hc => ?_) (fun hc => ?_)
  · refine zx_less [.null, .null, .null] (zq_cz (zq_cz (zq_cz zq_cn))) ?_
    exact xX11_apart_j22_j N s2
  · refine zx_lift (pc' := 12) (fun _ => zq_aload_n rfl rfl dX11_apart_11 rfl) ?_
    refine zx_lift (pc' := 15) (fun _ => zt_getR zfr_X11_31 zfd_0_1 dX11_apart_12 rfl) ?_
    refine zx_lift (pc' := 16) (fun _ => zq_iload_n rfl rfl dX11_apart_15 rfl) ?_
    refine zx_cVi (pc' := 19) zcv_X11_246 (cX3_hasBits_mc N p2 s2) zob_31 rfl (by decide) (Nat.le_of_ble_eq_true rfl) dX11_apart_16 rfl rfl (fun r3 s4 => ?_)
    refine zx_if_ne (pc' := 22) (tgt := 26) dX11_apart_19 rfl rfl (fun hc => ?_) (fun hc => ?_)
    · refine zx_lift (pc' := 27) (fun _ => zq_aload_n rfl rfl dX11_apart_26 rfl) ?_
      refine zx_lift (pc' := 30) (fun _ => zt_getR zfr_X11_31 zfd_0_1 dX11_apart_27 rfl) ?_
      refine zx_lift (pc' := 31) (fun _ => zq_iload_n rfl rfl dX11_apart_30 rfl) ?_
      refine zx_cVi (pc' := 34) zcv_X11_249 (cX3_isGood_mc N p1 s4) zob_31 rfl (by decide) (Nat.le_of_ble_eq_true rfl) dX11_apart_31 rfl rfl (fun r5 s6 => ?_)
      refine zx_if_eq (pc' := 37) (tgt := 48) dX11_apart_34 rfl rfl (fun hc => ?_) (fun hc => ?_)
      · refine zx_less [.null, .null, .null] (zq_cz (zq_cz (zq_cz zq_cn))) ?_
        exact xX11_apart_j48_j N s6
      · refine zx_lift (pc' := 38) (fun _ => zq_aload_n rfl rfl dX11_apart_37 rfl) ?_
        refine zx_lift (pc' := 41) (fun _ => zt_getR zfr_X11_31 zfd_0_1 dX11_apart_38 rfl) ?_
        refine zx_lift (pc' := 42) (fun _ => zq_iload_n rfl rfl dX11_apart_41 rfl) ?_
        refine zx_cVi (pc' := 45) zcv_X11_249 (cX3_isGood_mc N p2 s6) zob_31 rfl (by decide) (Nat.le_of_ble_eq_true rfl) dX11_apart_42 rfl rfl (fun r7 s8 => ?_)
        refine zx_if_ne (pc' := 48) (tgt := 52) dX11_apart_45 rfl rfl (fun hc => ?_) (fun hc => ?_)
        · refine zx_lift (pc' := 53) (fun _ => zq_aload_n rfl rfl dX11_apart_52 rfl) ?_
          refine zx_lift (pc' := 56) (fun _ => zt_getR zfr_X11_86 zfd_0_9 dX11_apart_53 rfl) ?_
          refine zx_lift (pc' := 57) (fun _ => zq_aload_n rfl rfl dX11_apart_56 rfl) ?_
          refine zx_lift (pc' := 60) (fun _ => zt_getR zfr_X11_38 zfd_0_2 dX11_apart_57 rfl) ?_
          refine zx_lift (pc' := 61) (fun _ => zq_iload_n rfl rfl dX11_apart_60 rfl) ?_
          refine zx_cVw (pc' := 64) zcv_X11_252 (cX9_with_mc N p1 s8) zob_38 rfl (by decide) (Nat.le_of_ble_eq_true rfl) dX11_apart_61 rfl rfl (fun r9 s10 => ?_)
          refine zx_lift (pc' := 65) (fun _ => zq_iload_n rfl rfl dX11_apart_64 rfl) ?_
          refine zx_lift (pc' := 66) (fun _ => zq_aload_n rfl rfl dX11_apart_65 rfl) ?_
          refine zx_lift (pc' := 69) (fun _ => zt_getR zfr_X11_38 zfd_0_2 dX11_apart_66 rfl) ?_
          refine zx_lift (pc' := 70) (fun _ => zq_iload_n rfl rfl dX11_apart_69 rfl) ?_
          refine zx_cVw (pc' := 73) zcv_X11_252 (cX9_with_mc N p2 s10) zob_38 rfl (by decide) (Nat.le_of_ble_eq_true rfl) dX11_apart_70 rfl rfl (fun r11 s12 => ?_)
          refine zx_lift (pc' := 74) (fun _ => zq_iload_n rfl rfl dX11_apart_73 rfl) ?_
          refine zx_cVi (pc' := 77) zcv_X11_256 (cX2_between_mc N false false p1 p2 s12) zob_54 rfl (by decide) (Nat.le_of_ble_eq_true rfl) dX11_apart_74 rfl rfl (fun r13 s14 => ?_)
          exact zx_iret rfl dX11_apart_77
        · refine zx_less [.null, .null, .null] (zq_cz (zq_cz (zq_cz zq_cn))) ?_
          exact xX11_apart_j48_j N s8
    · refine zx_less [.null, .null, .null] (zq_cz (zq_cz (zq_cz zq_cn))) ?_
      exact xX11_apart_j22_j N s4
theorem cX11_apart_mc (N : Nat)  (p1 : Int32) (p2 : Int32) (s : zq_S) (v : Int32 × zq_S) (h : mX11_apart N p1 p2 s = some v) : zq_MC yX11_apart cX11_apart 3 (some .int) ⟨4, 0, 0, 112⟩ 0 0 [.ref 0, .int p1, .int p2] (zq_en s) (zv_i v.1, zq_en v.2) := zq_MC_x [.ref 0, .int p1, .int p2] (by decide +kernel) rfl rfl (Nat.le_of_ble_eq_true rfl) (xX11_apart N p1 p2 s) h
def jX0_isBarred_j14 (N : Nat)    (s : zq_S) : Option (Int32 × zq_S) :=
  some ((0 : Int32), s)
set_option maxRecDepth 20000 in
set_option maxHeartbeats 2000000 in
theorem xX0_isBarred_j14_j (N : Nat)    (s : zq_S) : zq_X yX0_isBarred RX0 cX0_isBarred 3 (some .boolean) ⟨1, 0, 0, 20⟩ zv_i 14 [.null, .null, .null] [] s (jX0_isBarred_j14 N s) := by
  unfold jX0_isBarred_j14
  refine zx_lift (pc' := 15) (fun _ => zq_iconst (v := 0) dX0_isBarred_14 rfl rfl) ?_
  exact zx_zret rfl (by decide) dX0_isBarred_15
def mX0_isBarred (N : Nat)  (p1 : Int32) (p2 : Int32) (s : zq_S) : Option (Int32 × zq_S) :=
  zq_b2 (mX11_isWord N p1 s) (fun r1 s2 =>
  if r1 = (0 : Int32) then
  jX0_isBarred_j14 N s2
  else
  zq_b2 (mX11_isWord N p2 s2) (fun r3 s4 =>
  if r3 = (0 : Int32) then
  jX0_isBarred_j14 N s4
  else
  zq_ck (((2 : Int32) * p1) + (p2 >>> ((6 : Int32) &&& 31))) 200 (
  zq_let (if (lg_cmp (((Int64.toUInt64 (zgl s4 43 (((2 : Int32) * p1) + (p2 >>> ((6 : Int32) &&& 31)))) >>> ((Int32.toInt64 (p2 &&& (63 : Int32))).toUInt64 &&& Int64.toUInt64 63)).toInt64) &&& (1 : Int64)) (0 : Int64)) = (0 : Int32) then (0 : Int32) else (1 : Int32)) (fun x5 =>
  zq_bz x5 (some (x5, s4))))))
set_option maxRecDepth 20000 in
set_option maxHeartbeats 2000000 in
theorem xX0_isBarred (N : Nat)  (p1 : Int32) (p2 : Int32) (s : zq_S) : zq_X yX0_isBarred RX0 cX0_isBarred 3 (some .boolean) ⟨1, 0, 0, 20⟩ zv_i 0 [.ref 42, .int p1, .int p2] [] s (mX0_isBarred N p1 p2 s) := by
  unfold mX0_isBarred
  refine zx_lift (pc' := 1) (fun _ => zq_iload_n rfl rfl dX0_isBarred_0 rfl) ?_
  refine zx_cSNi (pc' := 4) zcs_X0_15 (cX11_isWord_mc N p1 s) rfl (by decide) (Nat.le_of_ble_eq_true rfl) dX0_isBarred_1 rfl rfl (fun r1 s2 => ?_)
  refine zx_if_eq (pc' := 7) (tgt := 14) dX0_isBarred_4 rfl rfl (fun hc => ?_) (fun hc => ?_)
  · refine zx_less [.null, .null, .null] (zq_cz (zq_cz (zq_cz zq_cn))) ?_
    exact xX0_isBarred_j14_j N s2
  · refine zx_lift (pc' := 8) (fun _ => zq_iload_n rfl rfl dX0_isBarred_7 rfl) ?_
    refine zx_cSNi (pc' := 11) zcs_X0_15 (cX11_isWord_mc N p2 s2) rfl (by decide) (Nat.le_of_ble_eq_true rfl) dX0_isBarred_8 rfl rfl (fun r3 s4 => ?_)
    refine zx_if_ne (pc' := 14) (tgt := 16) dX0_isBarred_11 rfl rfl (fun hc => ?_) (fun hc => ?_)
    · refine zx_lift (pc' := 17) (fun _ => zq_aload_n rfl rfl dX0_isBarred_16 rfl) ?_
      refine zx_lift (pc' := 20) (fun _ => zt_getR zfr_X0_9 zfd_42_0 dX0_isBarred_17 rfl) ?_
      refine zx_lift (pc' := 21) (fun _ => zq_iconst (v := 2) dX0_isBarred_20 rfl rfl) ?_
      refine zx_lift (pc' := 22) (fun _ => zq_iload_n rfl rfl dX0_isBarred_21 rfl) ?_
      refine zx_lift (pc' := 23) (fun _ => zq_imul dX0_isBarred_22 rfl) ?_
      refine zx_lift (pc' := 24) (fun _ => zq_iload_n rfl rfl dX0_isBarred_23 rfl) ?_
      refine zx_lift (pc' := 26) (fun _ => zq_bipush (v := 6) dX0_isBarred_24 rfl rfl) ?_
      refine zx_lift (pc' := 27) (fun _ => zq_ishr dX0_isBarred_26 rfl) ?_
      refine zx_lift (pc' := 28) (fun _ => zq_iadd dX0_isBarred_27 rfl) ?_
      refine zx_laload (pc' := 29) zsh_43 dX0_isBarred_28 rfl ?_
      refine zx_lift (pc' := 30) (fun _ => zq_iload_n rfl rfl dX0_isBarred_29 rfl) ?_
      refine zx_lift (pc' := 32) (fun _ => zq_bipush (v := 63) dX0_isBarred_30 rfl rfl) ?_
      refine zx_lift (pc' := 33) (fun _ => zq_iand dX0_isBarred_32 rfl) ?_
      refine zx_lift (pc' := 34) (fun _ => zq_lushr dX0_isBarred_33 rfl) ?_
      refine zx_lift (pc' := 35) (fun _ => zq_lconst (v := 1) dX0_isBarred_34 rfl rfl) ?_
      refine zx_lift (pc' := 36) (fun _ => zq_land dX0_isBarred_35 rfl) ?_
      refine zx_lift (pc' := 37) (fun _ => zq_lconst (v := 0) dX0_isBarred_36 rfl rfl) ?_
      refine zx_lift (pc' := 38) (fun _ => zq_lcmp dX0_isBarred_37 rfl) ?_
      refine zx_tern (pcJ := 46) (lsJ := fun x5 => [.null, .null, .null]) (stJ := fun x5 => [.int x5]) (fun x5 => ?_) (fun f hJ => ?_)
      rotate_left
      · refine zx_lif_eq (pc' := 41) (tgt := 45) dX0_isBarred_38 rfl rfl (fun _ => ?_) (fun _ => ?_)
        · refine zx_lift (pc' := 46) (fun _ => zq_iconst (v := 0) dX0_isBarred_45 rfl rfl) ?_
          exact zx_lessJ (zq_cz (zq_cz (zq_cz zq_cn))) (hJ _)
        · refine zx_lift (pc' := 42) (fun _ => zq_iconst (v := 1) dX0_isBarred_41 rfl rfl) ?_
          refine zx_lift (pc' := 46) (fun _ => zq_goto dX0_isBarred_42 rfl) ?_
          exact zx_lessJ (zq_cz (zq_cz (zq_cz zq_cn))) (hJ _)
      exact zx_zretg rfl dX0_isBarred_46
    · refine zx_less [.null, .null, .null] (zq_cz (zq_cz (zq_cz zq_cn))) ?_
      exact xX0_isBarred_j14_j N s4
theorem cX0_isBarred_mc (N : Nat)  (p1 : Int32) (p2 : Int32) (s : zq_S) (v : Int32 × zq_S) (h : mX0_isBarred N p1 p2 s = some v) : zq_MC yX0_isBarred cX0_isBarred 3 (some .boolean) ⟨1, 0, 0, 20⟩ 0 0 [.ref 42, .int p1, .int p2] (zq_en s) (zv_i v.1, zq_en v.2) := zq_MC_x [.ref 42, .int p1, .int p2] (by decide +kernel) rfl rfl (Nat.le_of_ble_eq_true rfl) (xX0_isBarred N p1 p2 s) h
def jX0_turn_j59 (N : Nat)    (s : zq_S) : Option (Unit × zq_S) :=
  some ((), s)
set_option maxRecDepth 20000 in
set_option maxHeartbeats 2000000 in
theorem xX0_turn_j59_j (N : Nat)    (s : zq_S) : zq_X yX0_turn RX0 cX0_turn 3 none ⟨2, 0, 0, 42⟩ zv_v 59 [.null, .null, .null] [] s (jX0_turn_j59 N s) := by
  unfold jX0_turn_j59
  exact zx_vret rfl dX0_turn_59
def mX0_turn (N : Nat)  (p1 : Int32) (p2 : Int32) (s : zq_S) : Option (Unit × zq_S) :=
  zq_b2 (mX11_isWord N p1 s) (fun r1 s2 =>
  if r1 = (0 : Int32) then
  jX0_turn_j59 N s2
  else
  zq_b2 (mX11_isWord N p2 s2) (fun r3 s4 =>
  if r3 = (0 : Int32) then
  jX0_turn_j59 N s4
  else
  zq_b2 (mX0_isBarred N p1 p2 s4) (fun r5 s6 =>
  zq_let (if r5 = (0 : Int32) then (1 : Int32) else (-1 : Int32)) (fun x7 =>
  zq_let (zpf s6 42 1 ((zgf s4 42 1) + x7)) (fun s8 =>
  zq_ck (((2 : Int32) * p1) + (p2 >>> ((6 : Int32) &&& 31))) 200 (
  zq_ck (((2 : Int32) * p1) + (p2 >>> ((6 : Int32) &&& 31))) 200 (
  zq_let (zpl s8 43 (((2 : Int32) * p1) + (p2 >>> ((6 : Int32) &&& 31))) ((zgl s8 43 (((2 : Int32) * p1) + (p2 >>> ((6 : Int32) &&& 31)))) ^^^ ((1 : Int64) <<< (Int32.toInt64 (p2 &&& (63 : Int32)) &&& 63)))) (fun s9 =>
  jX0_turn_j59 N s9))))))))
set_option maxRecDepth 20000 in
set_option maxHeartbeats 2000000 in
theorem xX0_turn (N : Nat)  (p1 : Int32) (p2 : Int32) (s : zq_S) : zq_X yX0_turn RX0 cX0_turn 3 none ⟨2, 0, 0, 42⟩ zv_v 0 [.ref 42, .int p1, .int p2] [] s (mX0_turn N p1 p2 s) := by
  unfold mX0_turn
  refine zx_lift (pc' := 1) (fun _ => zq_iload_n rfl rfl dX0_turn_0 rfl) ?_
  refine zx_cSNi (pc' := 4) zcs_X0_15 (cX11_isWord_mc N p1 s) rfl (by decide) (Nat.le_of_ble_eq_true rfl) dX0_turn_1 rfl rfl (fun r1 s2 => ?_)
  refine zx_if_eq (pc' := 7) (tgt := 59) dX0_turn_4 rfl rfl (fun hc => ?_) (fun hc => ?_)
  · refine zx_less [.null, .null, .null] (zq_cz (zq_cz (zq_cz zq_cn))) ?_
    exact xX0_turn_j59_j N s2
  · refine zx_lift (pc' := 8) (fun _ => zq_iload_n rfl rfl dX0_turn_7 rfl) ?_
    refine zx_cSNi (pc' := 11) zcs_X0_15 (cX11_isWord_mc N p2 s2) rfl (by decide) (Nat.le_of_ble_eq_true rfl) dX0_turn_8 rfl rfl (fun r3 s4 => ?_)
    refine zx_if_eq (pc' := 14) (tgt := 59) dX0_turn_11 rfl rfl (fun hc => ?_) (fun hc => ?_)
    · refine zx_less [.null, .null, .null] (zq_cz (zq_cz (zq_cz zq_cn))) ?_
      exact xX0_turn_j59_j N s4
    · refine zx_lift (pc' := 15) (fun _ => zq_aload_n rfl rfl dX0_turn_14 rfl) ?_
      refine zx_lift (pc' := 16) (fun _ => zq_dup rfl dX0_turn_15 rfl) ?_
      refine zx_lift (pc' := 19) (fun _ => zt_getI zfr_X0_19 zfd_42_1 dX0_turn_16 rfl) ?_
      refine zx_lift (pc' := 20) (fun _ => zq_aload_n rfl rfl dX0_turn_19 rfl) ?_
      refine zx_lift (pc' := 21) (fun _ => zq_iload_n rfl rfl dX0_turn_20 rfl) ?_
      refine zx_lift (pc' := 22) (fun _ => zq_iload_n rfl rfl dX0_turn_21 rfl) ?_
      refine zx_cVi (pc' := 25) zcv_X0_23 (cX0_isBarred_mc N p1 p2 s4) zob_42 rfl (by decide) (Nat.le_of_ble_eq_true rfl) dX0_turn_22 rfl rfl (fun r5 s6 => ?_)
      refine zx_tern (pcJ := 33) (lsJ := fun x7 => [.ref 42, .int p1, .int p2]) (stJ := fun x7 => [.int x7, .int (zgf s4 42 1), .ref 42]) (fun x7 => ?_) (fun f hJ => ?_)
      rotate_left
      · refine zx_lif_eq (pc' := 28) (tgt := 32) dX0_turn_25 rfl rfl (fun _ => ?_) (fun _ => ?_)
        · refine zx_lift (pc' := 33) (fun _ => zq_iconst (v := 1) dX0_turn_32 rfl rfl) ?_
          exact zx_lessJ (zq_cr (zq_cr (zq_cr zq_cn))) (hJ _)
        · refine zx_lift (pc' := 29) (fun _ => zq_iconst (v := (-1)) dX0_turn_28 rfl rfl) ?_
          refine zx_lift (pc' := 33) (fun _ => zq_goto dX0_turn_29 rfl) ?_
          exact zx_lessJ (zq_cr (zq_cr (zq_cr zq_cn))) (hJ _)
      refine zx_lift (pc' := 34) (fun _ => zq_iadd dX0_turn_33 rfl) ?_
      refine zx_putI (pc' := 37) zfr_X0_19 (fun _ => ⟨rfl, rfl⟩) zfd_42_1 dX0_turn_34 rfl (fun s8 => ?_)
      refine zx_lift (pc' := 38) (fun _ => zq_aload_n rfl rfl dX0_turn_37 rfl) ?_
      refine zx_lift (pc' := 41) (fun _ => zt_getR zfr_X0_9 zfd_42_0 dX0_turn_38 rfl) ?_
      refine zx_lift (pc' := 42) (fun _ => zq_iconst (v := 2) dX0_turn_41 rfl rfl) ?_
      refine zx_lift (pc' := 43) (fun _ => zq_iload_n rfl rfl dX0_turn_42 rfl) ?_
      refine zx_lift (pc' := 44) (fun _ => zq_imul dX0_turn_43 rfl) ?_
      refine zx_lift (pc' := 45) (fun _ => zq_iload_n rfl rfl dX0_turn_44 rfl) ?_
      refine zx_lift (pc' := 47) (fun _ => zq_bipush (v := 6) dX0_turn_45 rfl rfl) ?_
      refine zx_lift (pc' := 48) (fun _ => zq_ishr dX0_turn_47 rfl) ?_
      refine zx_lift (pc' := 49) (fun _ => zq_iadd dX0_turn_48 rfl) ?_
      refine zx_lift (pc' := 50) (fun _ => zq_dup2 rfl rfl dX0_turn_49 rfl) ?_
      refine zx_laload (pc' := 51) zsh_43 dX0_turn_50 rfl ?_
      refine zx_lift (pc' := 52) (fun _ => zq_lconst (v := 1) dX0_turn_51 rfl rfl) ?_
      refine zx_lift (pc' := 53) (fun _ => zq_iload_n rfl rfl dX0_turn_52 rfl) ?_
      refine zx_lift (pc' := 55) (fun _ => zq_bipush (v := 63) dX0_turn_53 rfl rfl) ?_
      refine zx_lift (pc' := 56) (fun _ => zq_iand dX0_turn_55 rfl) ?_
      refine zx_lift (pc' := 57) (fun _ => zq_lshl dX0_turn_56 rfl) ?_
      refine zx_lift (pc' := 58) (fun _ => zq_lxor dX0_turn_57 rfl) ?_
      refine zx_lastore (pc' := 59) zsh_43 dX0_turn_58 rfl (fun s9 => ?_)
      refine zx_less [.null, .null, .null] (zq_cz (zq_cz (zq_cz zq_cn))) ?_
      exact xX0_turn_j59_j N s9
theorem cX0_turn_mc (N : Nat)  (p1 : Int32) (p2 : Int32) (s : zq_S) (v : Unit × zq_S) (h : mX0_turn N p1 p2 s = some v) : zq_MC yX0_turn cX0_turn 3 none ⟨2, 0, 0, 42⟩ 0 0 [.ref 42, .int p1, .int p2] (zq_en s) (zv_v v.1, zq_en v.2) := zq_MC_x [.ref 42, .int p1, .int p2] (by decide +kernel) rfl rfl (Nat.le_of_ble_eq_true rfl) (xX0_turn N p1 p2 s) h
def jX11_bar_j14 (N : Nat)    (s : zq_S) : Option (Int32 × zq_S) :=
  some ((-1002 : Int32), s)
set_option maxRecDepth 20000 in
set_option maxHeartbeats 2000000 in
theorem xX11_bar_j14_j (N : Nat)    (s : zq_S) : zq_X yX11_bar RX11 cX11_bar 5 (some .int) ⟨3, 0, 0, 64⟩ zv_i 14 [.null, .null, .null, .null, .null] [] s (jX11_bar_j14 N s) := by
  unfold jX11_bar_j14
  refine zx_lift (pc' := 17) (fun _ => zq_sipush (v := (-1002)) dX11_bar_14 rfl rfl) ?_
  exact zx_iret rfl dX11_bar_17
def jX11_bar_j69 (N : Nat)   (w4 : Int32) (s : zq_S) : Option (Int32 × zq_S) :=
  zq_let (if w4 = (0 : Int32) then (0 : Int32) else (1 : Int32)) (fun x7 =>
  some (x7, s))
set_option maxRecDepth 20000 in
set_option maxHeartbeats 2000000 in
theorem xX11_bar_j69_j (N : Nat)   (w4 : Int32) (s : zq_S) : zq_X yX11_bar RX11 cX11_bar 5 (some .int) ⟨3, 0, 0, 64⟩ zv_i 69 [.null, .null, .null, .null, .int w4] [] s (jX11_bar_j69 N w4 s) := by
  unfold jX11_bar_j69
  refine zx_lift (pc' := 71) (fun _ => zq_iload rfl dX11_bar_69 rfl) ?_
  refine zx_tern (pcJ := 79) (lsJ := fun x7 => [.null, .null, .null, .null, .null]) (stJ := fun x7 => [.int x7]) (fun x7 => ?_) (fun f hJ => ?_)
  rotate_left
  · refine zx_lif_eq (pc' := 74) (tgt := 78) dX11_bar_71 rfl rfl (fun _ => ?_) (fun _ => ?_)
    · refine zx_lift (pc' := 79) (fun _ => zq_iconst (v := 0) dX11_bar_78 rfl rfl) ?_
      exact zx_lessJ (zq_cz (zq_cz (zq_cz (zq_cz (zq_cz zq_cn))))) (hJ _)
    · refine zx_lift (pc' := 75) (fun _ => zq_iconst (v := 1) dX11_bar_74 rfl rfl) ?_
      refine zx_lift (pc' := 79) (fun _ => zq_goto dX11_bar_75 rfl) ?_
      exact zx_lessJ (zq_cz (zq_cz (zq_cz (zq_cz (zq_cz zq_cn))))) (hJ _)
  exact zx_iret rfl dX11_bar_79
def jX11_bar_j54 (N : Nat)   (w1 : Int32) (w2 : Int32) (w3 : Int32) (w4 : Int32) (s : zq_S) : Option (Int32 × zq_S) :=
  if w3 = w4 then
  jX11_bar_j69 N w4 s
  else
  zq_b2 (mX0_turn N w1 w2 s) (fun r8 s9 =>
  jX11_bar_j69 N w4 s9)
set_option maxRecDepth 20000 in
set_option maxHeartbeats 2000000 in
theorem xX11_bar_j54_j (N : Nat)   (w1 : Int32) (w2 : Int32) (w3 : Int32) (w4 : Int32) (s : zq_S) : zq_X yX11_bar RX11 cX11_bar 5 (some .int) ⟨3, 0, 0, 64⟩ zv_i 54 [.ref 0, .int w1, .int w2, .int w3, .int w4] [] s (jX11_bar_j54 N w1 w2 w3 w4 s) := by
  unfold jX11_bar_j54
  refine zx_lift (pc' := 55) (fun _ => zq_iload_n rfl rfl dX11_bar_54 rfl) ?_
  refine zx_lift (pc' := 57) (fun _ => zq_iload rfl dX11_bar_55 rfl) ?_
  refine zx_icmp_eq (pc' := 60) (tgt := 69) dX11_bar_57 rfl rfl (fun hc => ?_) (fun hc => ?_)
  · refine zx_less [.null, .null, .null, .null, .int w4] (zq_cz (zq_cz (zq_cz (zq_cz (zq_cr zq_cn))))) ?_
    exact xX11_bar_j69_j N w4 s
  · refine zx_lift (pc' := 61) (fun _ => zq_aload_n rfl rfl dX11_bar_60 rfl) ?_
    refine zx_lift (pc' := 64) (fun _ => zt_getR zfr_X11_45 zfd_0_3 dX11_bar_61 rfl) ?_
    refine zx_lift (pc' := 65) (fun _ => zq_iload_n rfl rfl dX11_bar_64 rfl) ?_
    refine zx_lift (pc' := 66) (fun _ => zq_iload_n rfl rfl dX11_bar_65 rfl) ?_
    refine zx_cVv (pc' := 69) zcv_X11_293 (cX0_turn_mc N w1 w2 s) zob_42 rfl (by decide) (Nat.le_of_ble_eq_true rfl) dX11_bar_66 rfl rfl (fun r8 s9 => ?_)
    refine zx_less [.null, .null, .null, .null, .int w4] (zq_cz (zq_cz (zq_cz (zq_cz (zq_cr zq_cn))))) ?_
    exact xX11_bar_j69_j N w4 s9
def mX11_bar (N : Nat)  (p1 : Int32) (p2 : Int32) (p3 : Int32) (s : zq_S) : Option (Int32 × zq_S) :=
  zq_b2 (mX11_isWord N p1 s) (fun r1 s2 =>
  if r1 = (0 : Int32) then
  jX11_bar_j14 N s2
  else
  zq_b2 (mX11_isWord N p2 s2) (fun r3 s4 =>
  if r3 = (0 : Int32) then
  jX11_bar_j14 N s4
  else
  zq_b2 (mX0_isBarred N p1 p2 s4) (fun r5 s6 =>
  if p3 = (0 : Int32) then
  jX11_bar_j54 N p1 p2 p3 r5 s6
  else
  if r5 = (0 : Int32) then
  if (zgf s6 42 1) < (20 : Int32) then
  jX11_bar_j54 N p1 p2 p3 r5 s6
  else
  some ((-1004 : Int32), s6)
  else
  jX11_bar_j54 N p1 p2 p3 r5 s6)))
set_option maxRecDepth 20000 in
set_option maxHeartbeats 2000000 in
theorem xX11_bar (N : Nat)  (p1 : Int32) (p2 : Int32) (p3 : Int32) (s : zq_S) : zq_X yX11_bar RX11 cX11_bar 5 (some .int) ⟨3, 0, 0, 64⟩ zv_i 0 [.ref 0, .int p1, .int p2, .int p3, .null] [] s (mX11_bar N p1 p2 p3 s) := by
  unfold mX11_bar
  refine zx_lift (pc' := 1) (fun _ => zq_iload_n rfl rfl dX11_bar_0 rfl) ?_
  refine zx_cSi (pc' := 4) zcs_X11_224 (cX11_isWord_mc N p1 s) rfl (by decide) (Nat.le_of_ble_eq_true rfl) dX11_bar_1 rfl rfl (fun r1 s2 => ?_)
  refine zx_if_eq (pc' := 7) (tgt := 14) dX11_bar_4 rfl rfl (fun hc => ?_) (fun hc => ?_)
  · refine zx_less [.null, .null, .null, .null, .null] (zq_cz (zq_cz (zq_cz (zq_cz (zq_cz zq_cn))))) ?_
    exact xX11_bar_j14_j N s2
  · refine zx_lift (pc' := 8) (fun _ => zq_iload_n rfl rfl dX11_bar_7 rfl) ?_
    refine zx_cSi (pc' := 11) zcs_X11_224 (cX11_isWord_mc N p2 s2) rfl (by decide) (Nat.le_of_ble_eq_true rfl) dX11_bar_8 rfl rfl (fun r3 s4 => ?_)
    refine zx_if_ne (pc' := 14) (tgt := 18) dX11_bar_11 rfl rfl (fun hc => ?_) (fun hc => ?_)
    · refine zx_lift (pc' := 19) (fun _ => zq_aload_n rfl rfl dX11_bar_18 rfl) ?_
      refine zx_lift (pc' := 22) (fun _ => zt_getR zfr_X11_45 zfd_0_3 dX11_bar_19 rfl) ?_
      refine zx_lift (pc' := 23) (fun _ => zq_iload_n rfl rfl dX11_bar_22 rfl) ?_
      refine zx_lift (pc' := 24) (fun _ => zq_iload_n rfl rfl dX11_bar_23 rfl) ?_
      refine zx_cVi (pc' := 27) zcv_X11_290 (cX0_isBarred_mc N p1 p2 s4) zob_42 rfl (by decide) (Nat.le_of_ble_eq_true rfl) dX11_bar_24 rfl rfl (fun r5 s6 => ?_)
      refine zx_lift (pc' := 29) (fun _ => zq_istore (ls' := [.ref 0, .int p1, .int p2, .int p3, .int r5]) (by decide) rfl rfl dX11_bar_27 rfl) ?_
      refine zx_lift (pc' := 30) (fun _ => zq_iload_n rfl rfl dX11_bar_29 rfl) ?_
      refine zx_if_eq (pc' := 33) (tgt := 54) dX11_bar_30 rfl rfl (fun hc => ?_) (fun hc => ?_)
      · exact xX11_bar_j54_j N p1 p2 p3 r5 s6
      · refine zx_lift (pc' := 35) (fun _ => zq_iload rfl dX11_bar_33 rfl) ?_
        refine zx_if_ne (pc' := 38) (tgt := 54) dX11_bar_35 rfl rfl (fun hc => ?_) (fun hc => ?_)
        · exact xX11_bar_j54_j N p1 p2 p3 r5 s6
        · refine zx_lift (pc' := 39) (fun _ => zq_aload_n rfl rfl dX11_bar_38 rfl) ?_
          refine zx_lift (pc' := 42) (fun _ => zt_getR zfr_X11_45 zfd_0_3 dX11_bar_39 rfl) ?_
          refine zx_lift (pc' := 45) (fun _ => zt_getI zfr_X11_173 zfd_42_1 dX11_bar_42 rfl) ?_
          refine zx_lift (pc' := 47) (fun _ => zq_bipush (v := 20) dX11_bar_45 rfl rfl) ?_
          refine zx_icmp_lt (pc' := 50) (tgt := 54) dX11_bar_47 rfl rfl (fun hc => ?_) (fun hc => ?_)
          · exact xX11_bar_j54_j N p1 p2 p3 r5 s6
          · refine zx_lift (pc' := 53) (fun _ => zq_sipush (v := (-1004)) dX11_bar_50 rfl rfl) ?_
            exact zx_iret rfl dX11_bar_53
    · refine zx_less [.null, .null, .null, .null, .null] (zq_cz (zq_cz (zq_cz (zq_cz (zq_cz zq_cn))))) ?_
      exact xX11_bar_j14_j N s4
theorem cX11_bar_mc (N : Nat)  (p1 : Int32) (p2 : Int32) (p3 : Int32) (s : zq_S) (v : Int32 × zq_S) (h : mX11_bar N p1 p2 p3 s = some v) : zq_MC yX11_bar cX11_bar 5 (some .int) ⟨3, 0, 0, 64⟩ 0 0 [.ref 0, .int p1, .int p2, .int p3] (zq_en s) (zv_i v.1, zq_en v.2) := zq_MC_x [.ref 0, .int p1, .int p2, .int p3, .null] (by decide +kernel) rfl rfl (Nat.le_of_ble_eq_true rfl) (xX11_bar N p1 p2 p3 s) h
