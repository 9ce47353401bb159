def mX5_openBracket (N : Nat)  (p1 : Int32) (s : zq_S) : Option (Int32 × zq_S) :=
  if (zgf s 26 6) < (8 : Int32) then
  zq_ck (zgf s 26 6) 8 (
  zq_let (zpa s 28 (zgf s 26 6) (zgf s (zs (zgb s 2)) 6)) (fun s1 =>
  zq_let (zpf s1 26 6 ((zgf s1 26 6) + (1 : Int32))) (fun s2 =>
  zq_b2 (mX7_addItem N (zgb s2 2) p1 s2) (fun r3 s4 =>
  zq_b2 (mX5_go N (5 : Int32) s4) (fun r5 s6 =>
  some (r5, s6))))))
  else
  some ((5 : Int32), s)
set_option maxRecDepth 20000 in
set_option maxHeartbeats 2000000 in
theorem xX5_openBracket (N : Nat)  (p1 : Int32) (s : zq_S) : zq_X yX5_openBracket RX5 cX5_openBracket 2 (some .int) ⟨1, 0, 0, 21⟩ zv_i 0 [.ref 26, .int p1] [] s (mX5_openBracket N p1 s) := by
  unfold mX5_openBracket
  refine zx_lift (pc' := 1) (fun _ => zq_aload_n rfl rfl dX5_openBracket_0 rfl) ?_
  refine zx_lift (pc' := 4) (fun _ => zt_getI zfr_X5_51 zfd_26_6 dX5_openBracket_1 rfl) ?_
  refine zx_lift (pc' := 6) (fun _ => zq_bipush (v := 8) dX5_openBracket_4 rfl rfl) ?_
  refine zx_icmp_lt (pc' := 9) (tgt := 11) dX5_openBracket_6 rfl rfl (fun hc => ?_) (fun hc => ?_)
  · refine zx_lift (pc' := 12) (fun _ => zq_aload_n rfl rfl dX5_openBracket_11 rfl) ?_
    refine zx_lift (pc' := 15) (fun _ => zt_getR zfr_X5_19 zfd_26_5 dX5_openBracket_12 rfl) ?_
    refine zx_lift (pc' := 16) (fun _ => zq_aload_n rfl rfl dX5_openBracket_15 rfl) ?_
    refine zx_lift (pc' := 19) (fun _ => zt_getI zfr_X5_51 zfd_26_6 dX5_openBracket_16 rfl) ?_
    refine zx_lift (pc' := 20) (fun _ => zq_aload_n rfl rfl dX5_openBracket_19 rfl) ?_
    refine zx_lift (pc' := 23) (fun _ => zt_getP zfr_X5_29 zfd_26_3 dX5_openBracket_20 rfl) ?_
    refine zx_lift (pc' := 26) (fun _ => zt_getI zfr_X5_149 (zfd_s_6 (zgb s 2)) dX5_openBracket_23 rfl) ?_
    refine zx_iastore (pc' := 27) zsh_28 dX5_openBracket_26 rfl (fun s1 => ?_)
    refine zx_lift (pc' := 28) (fun _ => zq_aload_n rfl rfl dX5_openBracket_27 rfl) ?_
    refine zx_lift (pc' := 29) (fun _ => zq_dup rfl dX5_openBracket_28 rfl) ?_
    refine zx_lift (pc' := 32) (fun _ => zt_getI zfr_X5_51 zfd_26_6 dX5_openBracket_29 rfl) ?_
    refine zx_lift (pc' := 33) (fun _ => zq_iconst (v := 1) dX5_openBracket_32 rfl rfl) ?_
    refine zx_lift (pc' := 34) (fun _ => zq_iadd dX5_openBracket_33 rfl) ?_
    refine zx_putI (pc' := 37) zfr_X5_51 (fun _ => ⟨rfl, rfl⟩) zfd_26_6 dX5_openBracket_34 rfl (fun s2 => ?_)
    refine zx_lift (pc' := 38) (fun _ => zq_aload_n rfl rfl dX5_openBracket_37 rfl) ?_
    refine zx_lift (pc' := 41) (fun _ => zt_getP zfr_X5_29 zfd_26_3 dX5_openBracket_38 rfl) ?_
    refine zx_lift (pc' := 42) (fun _ => zq_iload_n rfl rfl dX5_openBracket_41 rfl) ?_
    refine zx_cVv (pc' := 45) zcv_X5_169 (cX7_addItem_mc N (zgb s2 2) p1 s2) (zob_s (zgb s2 2)) rfl (by decide) (Nat.le_of_ble_eq_true rfl) dX5_openBracket_42 rfl rfl (fun r3 s4 => ?_)
    refine zx_lift (pc' := 46) (fun _ => zq_aload_n rfl rfl dX5_openBracket_45 rfl) ?_
    refine zx_lift (pc' := 47) (fun _ => zq_iconst (v := 5) dX5_openBracket_46 rfl rfl) ?_
    refine zx_cVi (pc' := 50) zcv_X5_178 (cX5_go_mc N (5 : Int32) s4) zob_26 rfl (by decide) (Nat.le_of_ble_eq_true rfl) dX5_openBracket_47 rfl rfl (fun r5 s6 => ?_)
    exact zx_iret rfl dX5_openBracket_50
  · refine zx_lift (pc' := 10) (fun _ => zq_iconst (v := 5) dX5_openBracket_9 rfl rfl) ?_
    exact zx_iret rfl dX5_openBracket_10
theorem cX5_openBracket_mc (N : Nat)  (p1 : Int32) (s : zq_S) (v : Int32 × zq_S) (h : mX5_openBracket N p1 s = some v) : zq_MC yX5_openBracket cX5_openBracket 2 (some .int) ⟨1, 0, 0, 21⟩ 0 0 [.ref 26, .int p1] (zq_en s) (zv_i v.1, zq_en v.2) := zq_MC_x [.ref 26, .int p1] (by decide +kernel) rfl rfl (Nat.le_of_ble_eq_true rfl) (xX5_openBracket N p1 s) h
def jX5_innermost_j22 (N : Nat)   (t0 : Int32) (s : zq_S) : Option (Int32 × zq_S) :=
  some (t0, s)
set_option maxRecDepth 20000 in
set_option maxHeartbeats 2000000 in
theorem xX5_innermost_j22_j (N : Nat)   (t0 : Int32) (s : zq_S) : zq_X yX5_innermost RX5 cX5_innermost 1 (some .int) ⟨0, 0, 0, 0⟩ zv_i 22 [.null] [.int t0] s (jX5_innermost_j22 N t0 s) := by
  unfold jX5_innermost_j22
  exact zx_iret rfl dX5_innermost_22
def mX5_innermost (N : Nat)   (s : zq_S) : Option (Int32 × zq_S) :=
  if (zgf s 26 6) ≤ (0 : Int32) then
  jX5_innermost_j22 N (0 : Int32) s
  else
  zq_ck ((zgf s 26 6) - (1 : Int32)) 8 (
  jX5_innermost_j22 N (zga s 28 ((zgf s 26 6) - (1 : Int32))) s)
set_option maxRecDepth 20000 in
set_option maxHeartbeats 2000000 in
theorem xX5_innermost (N : Nat)   (s : zq_S) : zq_X yX5_innermost RX5 cX5_innermost 1 (some .int) ⟨0, 0, 0, 0⟩ zv_i 0 [.ref 26] [] s (mX5_innermost N s) := by
  unfold mX5_innermost
  refine zx_lift (pc' := 1) (fun _ => zq_aload_n rfl rfl dX5_innermost_0 rfl) ?_
  refine zx_lift (pc' := 4) (fun _ => zt_getI zfr_X5_51 zfd_26_6 dX5_innermost_1 rfl) ?_
  refine zx_if_le (pc' := 7) (tgt := 21) dX5_innermost_4 rfl rfl (fun hc => ?_) (fun hc => ?_)
  · refine zx_lift (pc' := 22) (fun _ => zq_iconst (v := 0) dX5_innermost_21 rfl rfl) ?_
    refine zx_less [.null] (zq_cz zq_cn) ?_
    exact xX5_innermost_j22_j N (0 : Int32) s
  · refine zx_lift (pc' := 8) (fun _ => zq_aload_n rfl rfl dX5_innermost_7 rfl) ?_
    refine zx_lift (pc' := 11) (fun _ => zt_getR zfr_X5_19 zfd_26_5 dX5_innermost_8 rfl) ?_
    refine zx_lift (pc' := 12) (fun _ => zq_aload_n rfl rfl dX5_innermost_11 rfl) ?_
    refine zx_lift (pc' := 15) (fun _ => zt_getI zfr_X5_51 zfd_26_6 dX5_innermost_12 rfl) ?_
    refine zx_lift (pc' := 16) (fun _ => zq_iconst (v := 1) dX5_innermost_15 rfl rfl) ?_
    refine zx_lift (pc' := 17) (fun _ => zq_isub dX5_innermost_16 rfl) ?_
    refine zx_iaload (pc' := 18) zsh_28 dX5_innermost_17 rfl ?_
    refine zx_lift (pc' := 22) (fun _ => zq_goto dX5_innermost_18 rfl) ?_
    refine zx_less [.null] (zq_cz zq_cn) ?_
    exact xX5_innermost_j22_j N (zga s 28 ((zgf s 26 6) - (1 : Int32))) s
theorem cX5_innermost_mc (N : Nat)   (s : zq_S) (v : Int32 × zq_S) (h : mX5_innermost N s = some v) : zq_MC yX5_innermost cX5_innermost 1 (some .int) ⟨0, 0, 0, 0⟩ 0 0 [.ref 26] (zq_en s) (zv_i v.1, zq_en v.2) := zq_MC_x [.ref 26] (by decide +kernel) rfl rfl (Nat.le_of_ble_eq_true rfl) (xX5_innermost N s) h
def mX5_closerOf (N : Nat)  (p0 : Int32) (s : zq_S) : Option (Int32 × zq_S) :=
  zq_let (if p0 = (123 : Int32) then (125 : Int32) else (if p0 = (91 : Int32) then (93 : Int32) else (62 : Int32))) (fun x1 =>
  some (x1, s))
set_option maxRecDepth 20000 in
set_option maxHeartbeats 2000000 in
theorem xX5_closerOf (N : Nat)  (p0 : Int32) (s : zq_S) : zq_X yX5_closerOf RX5 cX5_closerOf 1 (some .int) ⟨0, 0, 0, 0⟩ zv_i 0 [.int p0] [] s (mX5_closerOf N p0 s) := by
  unfold mX5_closerOf
  refine zx_lift (pc' := 1) (fun _ => zq_iload_n rfl rfl dX5_closerOf_0 rfl) ?_
  refine zx_lift (pc' := 3) (fun _ => zq_bipush (v := 123) dX5_closerOf_1 rfl rfl) ?_
  refine zx_tern (pcJ := 24) (lsJ := fun x1 => [.null]) (stJ := fun x1 => [.int x1]) (fun x1 => ?_) (fun f hJ => ?_)
  rotate_left
  · refine zx_licmp_ne (pc' := 6) (tgt := 11) dX5_closerOf_3 rfl rfl (fun _ => ?_) (fun _ => ?_)
    · refine zx_lift (pc' := 12) (fun _ => zq_iload_n rfl rfl dX5_closerOf_11 rfl) ?_
      refine zx_lift (pc' := 14) (fun _ => zq_bipush (v := 91) dX5_closerOf_12 rfl rfl) ?_
      refine zx_licmp_ne (pc' := 17) (tgt := 22) dX5_closerOf_14 rfl rfl (fun _ => ?_) (fun _ => ?_)
      · refine zx_lift (pc' := 24) (fun _ => zq_bipush (v := 62) dX5_closerOf_22 rfl rfl) ?_
        exact zx_lessJ (zq_cz zq_cn) (hJ _)
      · refine zx_lift (pc' := 19) (fun _ => zq_bipush (v := 93) dX5_closerOf_17 rfl rfl) ?_
        refine zx_lift (pc' := 24) (fun _ => zq_goto dX5_closerOf_19 rfl) ?_
        exact zx_lessJ (zq_cz zq_cn) (hJ _)
    · refine zx_lift (pc' := 8) (fun _ => zq_bipush (v := 125) dX5_closerOf_6 rfl rfl) ?_
      refine zx_lift (pc' := 24) (fun _ => zq_goto dX5_closerOf_8 rfl) ?_
      exact zx_lessJ (zq_cz zq_cn) (hJ _)
  exact zx_iret rfl dX5_closerOf_24
theorem cX5_closerOf_mc (N : Nat)  (p0 : Int32) (s : zq_S) (v : Int32 × zq_S) (h : mX5_closerOf N p0 s = some v) : zq_MC yX5_closerOf cX5_closerOf 1 (some .int) ⟨0, 0, 0, 0⟩ 0 0 [.int p0] (zq_en s) (zv_i v.1, zq_en v.2) := zq_MC_x [.int p0] (by decide +kernel) rfl rfl (Nat.le_of_ble_eq_true rfl) (xX5_closerOf N p0 s) h
def jX5_closeBracket_j51 (N : Nat)    (s : zq_S) : Option (Int32 × zq_S) :=
  some ((1 : Int32), s)
set_option maxRecDepth 20000 in
set_option maxHeartbeats 2000000 in
theorem xX5_closeBracket_j51_j (N : Nat)    (s : zq_S) : zq_X yX5_closeBracket RX5 cX5_closeBracket 4 (some .int) ⟨1, 0, 0, 21⟩ zv_i 51 [.null, .null, .null, .null] [] s (jX5_closeBracket_j51 N s) := by
  unfold jX5_closeBracket_j51
  refine zx_lift (pc' := 52) (fun _ => zq_iconst (v := 1) dX5_closeBracket_51 rfl rfl) ?_
  exact zx_iret rfl dX5_closeBracket_52
def mX5_closeBracket (N : Nat)  (p1 : Int32) (s : zq_S) : Option (Int32 × zq_S) :=
  zq_b2 (mX5_innermost N s) (fun r1 s2 =>
  zq_let (if (zgf s2 (zs (zgb s2 2)) 6) = (r1 + (1 : Int32)) then (1 : Int32) else (0 : Int32)) (fun x3 =>
  if (zgf s2 26 6) = (0 : Int32) then
  jX5_closeBracket_j51 N s2
  else
  if x3 = (0 : Int32) then
  zq_ck r1 100 (
  zq_b2 (mX5_closerOf N (zga s2 (zs (zgb s2 2) + 2) r1) s2) (fun r4 s5 =>
  if p1 = r4 then
  zq_ck r1 100 (
  zq_let (zpa s5 (zs (zgb s5 2) + 4) r1 (zgf s5 (zs (zgb s5 2)) 6)) (fun s6 =>
  zq_b2 (mX7_addItem N (zgb s6 2) p1 s6) (fun r7 s8 =>
  zq_ck r1 100 (
  zq_ck r1 100 (
  zq_ck (zga s8 (zs (zgb s8 2) + 4) r1) 100 (
  zq_let (zpa s8 (zs (zgb s8 2) + 3) (zga s8 (zs (zgb s8 2) + 4) r1) (zga s8 (zs (zgb s8 2) + 3) r1)) (fun s9 =>
  zq_let (zpf s9 26 6 ((zgf s9 26 6) - (1 : Int32))) (fun s10 =>
  some ((0 : Int32), s10)))))))))
  else
  jX5_closeBracket_j51 N s5))
  else
  jX5_closeBracket_j51 N s2))
set_option maxRecDepth 20000 in
set_option maxHeartbeats 2000000 in
theorem xX5_closeBracket (N : Nat)  (p1 : Int32) (s : zq_S) : zq_X yX5_closeBracket RX5 cX5_closeBracket 4 (some .int) ⟨1, 0, 0, 21⟩ zv_i 0 [.ref 26, .int p1, .null, .null] [] s (mX5_closeBracket N p1 s) := by
  unfold mX5_closeBracket
  refine zx_lift (pc' := 1) (fun _ => zq_aload_n rfl rfl dX5_closeBracket_0 rfl) ?_
  refine zx_cVi (pc' := 4) zcv_X5_127 (cX5_innermost_mc N s) zob_26 rfl (by decide) (Nat.le_of_ble_eq_true rfl) dX5_closeBracket_1 rfl rfl (fun r1 s2 => ?_)
  refine zx_lift (pc' := 5) (fun _ => zq_istore_n (ls' := [.ref 26, .int p1, .int r1, .null]) rfl (by decide) rfl rfl dX5_closeBracket_4 rfl) ?_
  refine zx_lift (pc' := 6) (fun _ => zq_aload_n rfl rfl dX5_closeBracket_5 rfl) ?_
  refine zx_lift (pc' := 9) (fun _ => zt_getP zfr_X5_29 zfd_26_3 dX5_closeBracket_6 rfl) ?_
  refine zx_lift (pc' := 12) (fun _ => zt_getI zfr_X5_149 (zfd_s_6 (zgb s2 2)) dX5_closeBracket_9 rfl) ?_
  refine zx_lift (pc' := 13) (fun _ => zq_iload_n rfl rfl dX5_closeBracket_12 rfl) ?_
  refine zx_lift (pc' := 14) (fun _ => zq_iconst (v := 1) dX5_closeBracket_13 rfl rfl) ?_
  refine zx_lift (pc' := 15) (fun _ => zq_iadd dX5_closeBracket_14 rfl) ?_
  refine zx_tern (pcJ := 23) (lsJ := fun x3 => [.ref 26, .int p1, .int r1, .null]) (stJ := fun x3 => [.int x3]) (fun x3 => ?_) (fun f hJ => ?_)
  rotate_left
  · refine zx_licmp_ne (pc' := 18) (tgt := 22) dX5_closeBracket_15 rfl rfl (fun _ => ?_) (fun _ => ?_)
    · refine zx_lift (pc' := 23) (fun _ => zq_iconst (v := 0) dX5_closeBracket_22 rfl rfl) ?_
      exact zx_lessJ (zq_cr (zq_cr (zq_cr (zq_cz zq_cn)))) (hJ _)
    · refine zx_lift (pc' := 19) (fun _ => zq_iconst (v := 1) dX5_closeBracket_18 rfl rfl) ?_
      refine zx_lift (pc' := 23) (fun _ => zq_goto dX5_closeBracket_19 rfl) ?_
      exact zx_lessJ (zq_cr (zq_cr (zq_cr (zq_cz zq_cn)))) (hJ _)
  refine zx_lift (pc' := 24) (fun _ => zq_istore_n (ls' := [.ref 26, .int p1, .int r1, .int x3]) rfl (by decide) rfl rfl dX5_closeBracket_23 rfl) ?_
  refine zx_lift (pc' := 25) (fun _ => zq_aload_n rfl rfl dX5_closeBracket_24 rfl) ?_
  refine zx_lift (pc' := 28) (fun _ => zt_getI zfr_X5_51 zfd_26_6 dX5_closeBracket_25 rfl) ?_
  refine zx_if_eq (pc' := 31) (tgt := 51) dX5_closeBracket_28 rfl rfl (fun hc => ?_) (fun hc => ?_)
  · refine zx_less [.null, .null, .null, .null] (zq_cz (zq_cz (zq_cz (zq_cz zq_cn)))) ?_
    exact xX5_closeBracket_j51_j N s2
  · refine zx_lift (pc' := 32) (fun _ => zq_iload_n rfl rfl dX5_closeBracket_31 rfl) ?_
    refine zx_if_ne (pc' := 35) (tgt := 51) dX5_closeBracket_32 rfl rfl (fun hc => ?_) (fun hc => ?_)
    · refine zx_less [.null, .null, .null, .null] (zq_cz (zq_cz (zq_cz (zq_cz zq_cn)))) ?_
      exact xX5_closeBracket_j51_j N s2
    · refine zx_lift (pc' := 36) (fun _ => zq_iload_n rfl rfl dX5_closeBracket_35 rfl) ?_
      refine zx_lift (pc' := 37) (fun _ => zq_aload_n rfl rfl dX5_closeBracket_36 rfl) ?_
      refine zx_lift (pc' := 40) (fun _ => zt_getP zfr_X5_29 zfd_26_3 dX5_closeBracket_37 rfl) ?_
      refine zx_lift (pc' := 43) (fun _ => zt_getR zfr_X5_130 (zfd_s_3 (zgb s2 2)) dX5_closeBracket_40 rfl) ?_
      refine zx_lift (pc' := 44) (fun _ => zq_iload_n rfl rfl dX5_closeBracket_43 rfl) ?_
      refine zx_iaload (pc' := 45) (zsh_s2 (zgb s2 2)) dX5_closeBracket_44 rfl ?_
      refine zx_cSi (pc' := 48) zcs_X5_194 (cX5_closerOf_mc N (zga s2 (zs (zgb s2 2) + 2) r1) s2) rfl (by decide) (Nat.le_of_ble_eq_true rfl) dX5_closeBracket_45 rfl rfl (fun r4 s5 => ?_)
      refine zx_icmp_eq (pc' := 51) (tgt := 53) dX5_closeBracket_48 rfl rfl (fun hc => ?_) (fun hc => ?_)
      · refine zx_lift (pc' := 54) (fun _ => zq_aload_n rfl rfl dX5_closeBracket_53 rfl) ?_
        refine zx_lift (pc' := 57) (fun _ => zt_getP zfr_X5_29 zfd_26_3 dX5_closeBracket_54 rfl) ?_
        refine zx_lift (pc' := 60) (fun _ => zt_getR zfr_X5_172 (zfd_s_5 (zgb s5 2)) dX5_closeBracket_57 rfl) ?_
        refine zx_lift (pc' := 61) (fun _ => zq_iload_n rfl rfl dX5_closeBracket_60 rfl) ?_
        refine zx_lift (pc' := 62) (fun _ => zq_aload_n rfl rfl dX5_closeBracket_61 rfl) ?_
        refine zx_lift (pc' := 65) (fun _ => zt_getP zfr_X5_29 zfd_26_3 dX5_closeBracket_62 rfl) ?_
        refine zx_lift (pc' := 68) (fun _ => zt_getI zfr_X5_149 (zfd_s_6 (zgb s5 2)) dX5_closeBracket_65 rfl) ?_
        refine zx_iastore (pc' := 69) (zsh_s4 (zgb s5 2)) dX5_closeBracket_68 rfl (fun s6 => ?_)
        refine zx_lift (pc' := 70) (fun _ => zq_aload_n rfl rfl dX5_closeBracket_69 rfl) ?_
        refine zx_lift (pc' := 73) (fun _ => zt_getP zfr_X5_29 zfd_26_3 dX5_closeBracket_70 rfl) ?_
        refine zx_lift (pc' := 74) (fun _ => zq_iload_n rfl rfl dX5_closeBracket_73 rfl) ?_
        refine zx_cVv (pc' := 77) zcv_X5_169 (cX7_addItem_mc N (zgb s6 2) p1 s6) (zob_s (zgb s6 2)) rfl (by decide) (Nat.le_of_ble_eq_true rfl) dX5_closeBracket_74 rfl rfl (fun r7 s8 => ?_)
        refine zx_lift (pc' := 78) (fun _ => zq_aload_n rfl rfl dX5_closeBracket_77 rfl) ?_
        refine zx_lift (pc' := 81) (fun _ => zt_getP zfr_X5_29 zfd_26_3 dX5_closeBracket_78 rfl) ?_
        refine zx_lift (pc' := 84) (fun _ => zt_getR zfr_X5_133 (zfd_s_4 (zgb s8 2)) dX5_closeBracket_81 rfl) ?_
        refine zx_lift (pc' := 85) (fun _ => zq_aload_n rfl rfl dX5_closeBracket_84 rfl) ?_
        refine zx_lift (pc' := 88) (fun _ => zt_getP zfr_X5_29 zfd_26_3 dX5_closeBracket_85 rfl) ?_
        refine zx_lift (pc' := 91) (fun _ => zt_getR zfr_X5_172 (zfd_s_5 (zgb s8 2)) dX5_closeBracket_88 rfl) ?_
        refine zx_lift (pc' := 92) (fun _ => zq_iload_n rfl rfl dX5_closeBracket_91 rfl) ?_
        refine zx_iaload (pc' := 93) (zsh_s4 (zgb s8 2)) dX5_closeBracket_92 rfl ?_
        refine zx_lift (pc' := 94) (fun _ => zq_aload_n rfl rfl dX5_closeBracket_93 rfl) ?_
        refine zx_lift (pc' := 97) (fun _ => zt_getP zfr_X5_29 zfd_26_3 dX5_closeBracket_94 rfl) ?_
        refine zx_lift (pc' := 100) (fun _ => zt_getR zfr_X5_133 (zfd_s_4 (zgb s8 2)) dX5_closeBracket_97 rfl) ?_
        refine zx_lift (pc' := 101) (fun _ => zq_iload_n rfl rfl dX5_closeBracket_100 rfl) ?_
        refine zx_iaload (pc' := 102) (zsh_s3 (zgb s8 2)) dX5_closeBracket_101 rfl ?_
        refine zx_iastore (pc' := 103) (zsh_s3 (zgb s8 2)) dX5_closeBracket_102 rfl (fun s9 => ?_)
        refine zx_lift (pc' := 104) (fun _ => zq_aload_n rfl rfl dX5_closeBracket_103 rfl) ?_
        refine zx_lift (pc' := 105) (fun _ => zq_dup rfl dX5_closeBracket_104 rfl) ?_
        refine zx_lift (pc' := 108) (fun _ => zt_getI zfr_X5_51 zfd_26_6 dX5_closeBracket_105 rfl) ?_
        refine zx_lift (pc' := 109) (fun _ => zq_iconst (v := 1) dX5_closeBracket_108 rfl rfl) ?_
        refine zx_lift (pc' := 110) (fun _ => zq_isub dX5_closeBracket_109 rfl) ?_
        refine zx_putI (pc' := 113) zfr_X5_51 (fun _ => ⟨rfl, rfl⟩) zfd_26_6 dX5_closeBracket_110 rfl (fun s10 => ?_)
        refine zx_lift (pc' := 114) (fun _ => zq_iconst (v := 0) dX5_closeBracket_113 rfl rfl) ?_
        exact zx_iret rfl dX5_closeBracket_114
      · refine zx_less [.null, .null, .null, .null] (zq_cz (zq_cz (zq_cz (zq_cz zq_cn)))) ?_
        exact xX5_closeBracket_j51_j N s5
theorem cX5_closeBracket_mc (N : Nat)  (p1 : Int32) (s : zq_S) (v : Int32 × zq_S) (h : mX5_closeBracket N p1 s = some v) : zq_MC yX5_closeBracket cX5_closeBracket 4 (some .int) ⟨1, 0, 0, 21⟩ 0 0 [.ref 26, .int p1] (zq_en s) (zv_i v.1, zq_en v.2) := zq_MC_x [.ref 26, .int p1, .null, .null] (by decide +kernel) rfl rfl (Nat.le_of_ble_eq_true rfl) (xX5_closeBracket N p1 s) h
def mX5_takeItemSign (N : Nat)  (p1 : Int32) (p2 : Int32) (s : zq_S) : Option (Int32 × zq_S) :=
  zq_let (zpf s 26 9 p2) (fun s1 =>
  if p1 = (40 : Int32) then
  zq_b2 (mX7_addItem N (zgb s1 2) p1 s1) (fun r2 s3 =>
  zq_let (zpf s3 26 8 (-1 : Int32)) (fun s4 =>
  zq_b2 (mX5_go N (9 : Int32) s4) (fun r5 s6 =>
  some (r5, s6))))
  else if p1 = (42 : Int32) then
  zq_b2 (mX5_isWithinArrow N s1) (fun r8 s9 =>
  if r8 = (0 : Int32) then
  zq_b2 (mX7_addItem N (zgb s9 2) p1 s9) (fun r10 s11 =>
  zq_b2 (mX5_go N (7 : Int32) s11) (fun r12 s13 =>
  some (r12, s13)))
  else
  some ((1 : Int32), s9))
  else if p1 = (60 : Int32) then
  zq_b2 (mX5_openBracket N p1 s1) (fun r15 s16 =>
  some (r15, s16))
  else if p1 = (62 : Int32) then
  zq_b2 (mX5_closeBracket N p1 s1) (fun r18 s19 =>
  some (r18, s19))
  else if p1 = (91 : Int32) then
  zq_b2 (mX5_openBracket N p1 s1) (fun r21 s22 =>
  some (r21, s22))
  else if p1 = (93 : Int32) then
  zq_b2 (mX5_closeBracket N p1 s1) (fun r24 s25 =>
  some (r24, s25))
  else if p1 = (123 : Int32) then
  zq_b2 (mX5_openBracket N p1 s1) (fun r27 s28 =>
  some (r27, s28))
  else if p1 = (125 : Int32) then
  zq_b2 (mX5_closeBracket N p1 s1) (fun r30 s31 =>
  some (r30, s31))
  else 
  some ((1 : Int32), s1))
set_option maxRecDepth 20000 in
set_option maxHeartbeats 2000000 in
theorem xX5_takeItemSign (N : Nat)  (p1 : Int32) (p2 : Int32) (s : zq_S) : zq_X yX5_takeItemSign RX5 cX5_takeItemSign 3 (some .int) ⟨2, 0, 0, 44⟩ zv_i 0 [.ref 26, .int p1, .int p2] [] s (mX5_takeItemSign N p1 p2 s) := by
  unfold mX5_takeItemSign
  refine zx_lift (pc' := 1) (fun _ => zq_aload_n rfl rfl dX5_takeItemSign_0 rfl) ?_
  refine zx_lift (pc' := 2) (fun _ => zq_iload_n rfl rfl dX5_takeItemSign_1 rfl) ?_
  refine zx_putI (pc' := 5) zfr_X5_77 (fun _ => ⟨rfl, rfl⟩) zfd_26_9 dX5_takeItemSign_2 rfl (fun s1 => ?_)
  refine zx_lift (pc' := 6) (fun _ => zq_iload_n rfl rfl dX5_takeItemSign_5 rfl) ?_
  refine zx_ite (fun hc => ?_) (fun hn7 => ?_)
  · refine zx_look (tgt := 116) hc dX5_takeItemSign_6 (by decide) (by decide) trivial ?_
    refine zx_lift (pc' := 117) (fun _ => zq_aload_n rfl rfl dX5_takeItemSign_116 rfl) ?_
    refine zx_lift (pc' := 120) (fun _ => zt_getP zfr_X5_29 zfd_26_3 dX5_takeItemSign_117 rfl) ?_
    refine zx_lift (pc' := 121) (fun _ => zq_iload_n rfl rfl dX5_takeItemSign_120 rfl) ?_
    refine zx_cVv (pc' := 124) zcv_X5_169 (cX7_addItem_mc N (zgb s1 2) p1 s1) (zob_s (zgb s1 2)) rfl (by decide) (Nat.le_of_ble_eq_true rfl) dX5_takeItemSign_121 rfl rfl (fun r2 s3 => ?_)
    refine zx_lift (pc' := 125) (fun _ => zq_aload_n rfl rfl dX5_takeItemSign_124 rfl) ?_
    refine zx_lift (pc' := 126) (fun _ => zq_iconst (v := (-1)) dX5_takeItemSign_125 rfl rfl) ?_
    refine zx_putI (pc' := 129) zfr_X5_74 (fun _ => ⟨rfl, rfl⟩) zfd_26_8 dX5_takeItemSign_126 rfl (fun s4 => ?_)
    refine zx_lift (pc' := 130) (fun _ => zq_aload_n rfl rfl dX5_takeItemSign_129 rfl) ?_
    refine zx_lift (pc' := 132) (fun _ => zq_bipush (v := 9) dX5_takeItemSign_130 rfl rfl) ?_
    refine zx_cVi (pc' := 135) zcv_X5_178 (cX5_go_mc N (9 : Int32) s4) zob_26 rfl (by decide) (Nat.le_of_ble_eq_true rfl) dX5_takeItemSign_132 rfl rfl (fun r5 s6 => ?_)
    exact zx_iret rfl dX5_takeItemSign_135
  refine zx_ite (fun hc => ?_) (fun hn14 => ?_)
  · refine zx_look (tgt := 92) hc dX5_takeItemSign_6 (by decide) (by decide) trivial ?_
    refine zx_lift (pc' := 93) (fun _ => zq_aload_n rfl rfl dX5_takeItemSign_92 rfl) ?_
    refine zx_cVi (pc' := 96) zcv_X5_190 (cX5_isWithinArrow_mc N s1) zob_26 rfl (by decide) (Nat.le_of_ble_eq_true rfl) dX5_takeItemSign_93 rfl rfl (fun r8 s9 => ?_)
    refine zx_if_eq (pc' := 99) (tgt := 101) dX5_takeItemSign_96 rfl rfl (fun hc => ?_) (fun hc => ?_)
    · refine zx_lift (pc' := 102) (fun _ => zq_aload_n rfl rfl dX5_takeItemSign_101 rfl) ?_
      refine zx_lift (pc' := 105) (fun _ => zt_getP zfr_X5_29 zfd_26_3 dX5_takeItemSign_102 rfl) ?_
      refine zx_lift (pc' := 106) (fun _ => zq_iload_n rfl rfl dX5_takeItemSign_105 rfl) ?_
      refine zx_cVv (pc' := 109) zcv_X5_169 (cX7_addItem_mc N (zgb s9 2) p1 s9) (zob_s (zgb s9 2)) rfl (by decide) (Nat.le_of_ble_eq_true rfl) dX5_takeItemSign_106 rfl rfl (fun r10 s11 => ?_)
      refine zx_lift (pc' := 110) (fun _ => zq_aload_n rfl rfl dX5_takeItemSign_109 rfl) ?_
      refine zx_lift (pc' := 112) (fun _ => zq_bipush (v := 7) dX5_takeItemSign_110 rfl rfl) ?_
      refine zx_cVi (pc' := 115) zcv_X5_178 (cX5_go_mc N (7 : Int32) s11) zob_26 rfl (by decide) (Nat.le_of_ble_eq_true rfl) dX5_takeItemSign_112 rfl rfl (fun r12 s13 => ?_)
      exact zx_iret rfl dX5_takeItemSign_115
    · refine zx_lift (pc' := 100) (fun _ => zq_iconst (v := 1) dX5_takeItemSign_99 rfl rfl) ?_
      exact zx_iret rfl dX5_takeItemSign_100
  refine zx_ite (fun hc => ?_) (fun hn17 => ?_)
  · refine zx_look (tgt := 80) hc dX5_takeItemSign_6 (by decide) (by decide) trivial ?_
    refine zx_lift (pc' := 81) (fun _ => zq_aload_n rfl rfl dX5_takeItemSign_80 rfl) ?_
    refine zx_lift (pc' := 82) (fun _ => zq_iload_n rfl rfl dX5_takeItemSign_81 rfl) ?_
    refine zx_cVi (pc' := 85) zcv_X5_184 (cX5_openBracket_mc N p1 s1) zob_26 rfl (by decide) (Nat.le_of_ble_eq_true rfl) dX5_takeItemSign_82 rfl rfl (fun r15 s16 => ?_)
    exact zx_iret rfl dX5_takeItemSign_85
  refine zx_ite (fun hc => ?_) (fun hn20 => ?_)
  · refine zx_look (tgt := 86) hc dX5_takeItemSign_6 (by decide) (by decide) trivial ?_
    refine zx_lift (pc' := 87) (fun _ => zq_aload_n rfl rfl dX5_takeItemSign_86 rfl) ?_
    refine zx_lift (pc' := 88) (fun _ => zq_iload_n rfl rfl dX5_takeItemSign_87 rfl) ?_
    refine zx_cVi (pc' := 91) zcv_X5_187 (cX5_closeBracket_mc N p1 s1) zob_26 rfl (by decide) (Nat.le_of_ble_eq_true rfl) dX5_takeItemSign_88 rfl rfl (fun r18 s19 => ?_)
    exact zx_iret rfl dX5_takeItemSign_91
  refine zx_ite (fun hc => ?_) (fun hn23 => ?_)
  · refine zx_look (tgt := 80) hc dX5_takeItemSign_6 (by decide) (by decide) trivial ?_
    refine zx_lift (pc' := 81) (fun _ => zq_aload_n rfl rfl dX5_takeItemSign_80 rfl) ?_
    refine zx_lift (pc' := 82) (fun _ => zq_iload_n rfl rfl dX5_takeItemSign_81 rfl) ?_
    refine zx_cVi (pc' := 85) zcv_X5_184 (cX5_openBracket_mc N p1 s1) zob_26 rfl (by decide) (Nat.le_of_ble_eq_true rfl) dX5_takeItemSign_82 rfl rfl (fun r21 s22 => ?_)
    exact zx_iret rfl dX5_takeItemSign_85
  refine zx_ite (fun hc => ?_) (fun hn26 => ?_)
  · refine zx_look (tgt := 86) hc dX5_takeItemSign_6 (by decide) (by decide) trivial ?_
    refine zx_lift (pc' := 87) (fun _ => zq_aload_n rfl rfl dX5_takeItemSign_86 rfl) ?_
    refine zx_lift (pc' := 88) (fun _ => zq_iload_n rfl rfl dX5_takeItemSign_87 rfl) ?_
    refine zx_cVi (pc' := 91) zcv_X5_187 (cX5_closeBracket_mc N p1 s1) zob_26 rfl (by decide) (Nat.le_of_ble_eq_true rfl) dX5_takeItemSign_88 rfl rfl (fun r24 s25 => ?_)
    exact zx_iret rfl dX5_takeItemSign_91
  refine zx_ite (fun hc => ?_) (fun hn29 => ?_)
  · refine zx_look (tgt := 80) hc dX5_takeItemSign_6 (by decide) (by decide) trivial ?_
    refine zx_lift (pc' := 81) (fun _ => zq_aload_n rfl rfl dX5_takeItemSign_80 rfl) ?_
    refine zx_lift (pc' := 82) (fun _ => zq_iload_n rfl rfl dX5_takeItemSign_81 rfl) ?_
    refine zx_cVi (pc' := 85) zcv_X5_184 (cX5_openBracket_mc N p1 s1) zob_26 rfl (by decide) (Nat.le_of_ble_eq_true rfl) dX5_takeItemSign_82 rfl rfl (fun r27 s28 => ?_)
    exact zx_iret rfl dX5_takeItemSign_85
  refine zx_ite (fun hc => ?_) (fun hn32 => ?_)
  · refine zx_look (tgt := 86) hc dX5_takeItemSign_6 (by decide) (by decide) trivial ?_
    refine zx_lift (pc' := 87) (fun _ => zq_aload_n rfl rfl dX5_takeItemSign_86 rfl) ?_
    refine zx_lift (pc' := 88) (fun _ => zq_iload_n rfl rfl dX5_takeItemSign_87 rfl) ?_
    refine zx_cVi (pc' := 91) zcv_X5_187 (cX5_closeBracket_mc N p1 s1) zob_26 rfl (by decide) (Nat.le_of_ble_eq_true rfl) dX5_takeItemSign_88 rfl rfl (fun r30 s31 => ?_)
    exact zx_iret rfl dX5_takeItemSign_91
  refine zx_lookD (tgt := 136) dX5_takeItemSign_6 (by decide) (by have hn7 := zq_tks (k := 40) hn7 (by decide); have hn14 := zq_tks (k := 42) hn14 (by decide); have hn17 := zq_tks (k := 60) hn17 (by decide); have hn20 := zq_tks (k := 62) hn20 (by decide); have hn23 := zq_tks (k := 91) hn23 (by decide); have hn26 := zq_tks (k := 93) hn26 (by decide); have hn29 := zq_tks (k := 123) hn29 (by decide); have hn32 := zq_tks (k := 125) hn32 (by decide); simp [Op.lookupswitch.offset, hn7, hn14, hn17, hn20, hn23, hn26, hn29, hn32]) rfl ?_
  refine zx_lift (pc' := 137) (fun _ => zq_iconst (v := 1) dX5_takeItemSign_136 rfl rfl) ?_
  exact zx_iret rfl dX5_takeItemSign_137
theorem cX5_takeItemSign_mc (N : Nat)  (p1 : Int32) (p2 : Int32) (s : zq_S) (v : Int32 × zq_S) (h : mX5_takeItemSign N p1 p2 s = some v) : zq_MC yX5_takeItemSign cX5_takeItemSign 3 (some .int) ⟨2, 0, 0, 44⟩ 0 0 [.ref 26, .int p1, .int p2] (zq_en s) (zv_i v.1, zq_en v.2) := zq_MC_x [.ref 26, .int p1, .int p2] (by decide +kernel) rfl rfl (Nat.le_of_ble_eq_true rfl) (xX5_takeItemSign N p1 p2 s) h
def jX5_takeSign_j160 (N : Nat)   (w3 : Int32) (s : zq_S) : Option (Int32 × zq_S) :=
  some (w3, s)
set_option maxRecDepth 20000 in
set_option maxHeartbeats 2000000 in
theorem xX5_takeSign_j160_j (N : Nat)   (w3 : Int32) (s : zq_S) : zq_X yX5_takeSign RX5 cX5_takeSign 4 (some .int) ⟨3, 0, 0, 66⟩ zv_i 160 [.null, .null, .null, .int w3] [] s (jX5_takeSign_j160 N w3 s) := by
  unfold jX5_takeSign_j160
  refine zx_lift (pc' := 161) (fun _ => zq_iload_n rfl rfl dX5_takeSign_160 rfl) ?_
  exact zx_iret rfl dX5_takeSign_161
def jX5_takeSign_j148 (N : Nat)   (w2 : Int32) (w3 : Int32) (s : zq_S) : Option (Int32 × zq_S) :=
  if w3 = (0 : Int32) then
  zq_b2 (mX7_printSign N (zgb s 2) w2 s) (fun r3 s4 =>
  jX5_takeSign_j160 N w3 s4)
  else
  jX5_takeSign_j160 N w3 s
set_option maxRecDepth 20000 in
set_option maxHeartbeats 2000000 in
theorem xX5_takeSign_j148_j (N : Nat)   (w2 : Int32) (w3 : Int32) (s : zq_S) : zq_X yX5_takeSign RX5 cX5_takeSign 4 (some .int) ⟨3, 0, 0, 66⟩ zv_i 148 [.ref 26, .null, .int w2, .int w3] [] s (jX5_takeSign_j148 N w2 w3 s) := by
  unfold jX5_takeSign_j148
  refine zx_lift (pc' := 149) (fun _ => zq_iload_n rfl rfl dX5_takeSign_148 rfl) ?_
  refine zx_if_ne (pc' := 152) (tgt := 160) dX5_takeSign_149 rfl rfl (fun hc => ?_) (fun hc => ?_)
  · refine zx_less [.null, .null, .null, .int w3] (zq_cz (zq_cz (zq_cz (zq_cr zq_cn)))) ?_
    exact xX5_takeSign_j160_j N w3 s
  · refine zx_lift (pc' := 153) (fun _ => zq_aload_n rfl rfl dX5_takeSign_152 rfl) ?_
    refine zx_lift (pc' := 156) (fun _ => zt_getP zfr_X5_29 zfd_26_3 dX5_takeSign_153 rfl) ?_
    refine zx_lift (pc' := 157) (fun _ => zq_iload_n rfl rfl dX5_takeSign_156 rfl) ?_
    refine zx_cVv (pc' := 160) zcv_X5_181 (cX7_printSign_mc N (zgb s 2) w2 s) (zob_s (zgb s 2)) rfl (by decide) (Nat.le_of_ble_eq_true rfl) dX5_takeSign_157 rfl rfl (fun r3 s4 => ?_)
    refine zx_less [.null, .null, .null, .int w3] (zq_cz (zq_cz (zq_cz (zq_cr zq_cn)))) ?_
    exact xX5_takeSign_j160_j N w3 s4
def jX5_takeSign_j120 (N : Nat)   (w2 : Int32) (w3 : Int32) (s : zq_S) : Option (Int32 × zq_S) :=
  if w2 = (41 : Int32) then
  if (zgf s 26 4) = (4 : Int32) then
  zq_b2 (mX7_addItem N (zgb s 2) w2 s) (fun r5 s6 =>
  zq_b2 (mX5_go N (0 : Int32) s6) (fun r7 s8 =>
  jX5_takeSign_j148 N w2 r7 s8))
  else
  jX5_takeSign_j148 N w2 w3 s
  else
  jX5_takeSign_j148 N w2 w3 s
set_option maxRecDepth 20000 in
set_option maxHeartbeats 2000000 in
theorem xX5_takeSign_j120_j (N : Nat)   (w2 : Int32) (w3 : Int32) (s : zq_S) : zq_X yX5_takeSign RX5 cX5_takeSign 4 (some .int) ⟨3, 0, 0, 66⟩ zv_i 120 [.ref 26, .null, .int w2, .int w3] [] s (jX5_takeSign_j120 N w2 w3 s) := by
  unfold jX5_takeSign_j120
  refine zx_lift (pc' := 121) (fun _ => zq_iload_n rfl rfl dX5_takeSign_120 rfl) ?_
  refine zx_lift (pc' := 123) (fun _ => zq_bipush (v := 41) dX5_takeSign_121 rfl rfl) ?_
  refine zx_icmp_ne (pc' := 126) (tgt := 148) dX5_takeSign_123 rfl rfl (fun hc => ?_) (fun hc => ?_)
  · exact xX5_takeSign_j148_j N w2 w3 s
  · refine zx_lift (pc' := 127) (fun _ => zq_aload_n rfl rfl dX5_takeSign_126 rfl) ?_
    refine zx_lift (pc' := 130) (fun _ => zt_getI zfr_X5_48 zfd_26_4 dX5_takeSign_127 rfl) ?_
    refine zx_lift (pc' := 131) (fun _ => zq_iconst (v := 4) dX5_takeSign_130 rfl rfl) ?_
    refine zx_icmp_ne (pc' := 134) (tgt := 148) dX5_takeSign_131 rfl rfl (fun hc => ?_) (fun hc => ?_)
    · exact xX5_takeSign_j148_j N w2 w3 s
    · refine zx_lift (pc' := 135) (fun _ => zq_aload_n rfl rfl dX5_takeSign_134 rfl) ?_
      refine zx_lift (pc' := 138) (fun _ => zt_getP zfr_X5_29 zfd_26_3 dX5_takeSign_135 rfl) ?_
      refine zx_lift (pc' := 139) (fun _ => zq_iload_n rfl rfl dX5_takeSign_138 rfl) ?_
      refine zx_cVv (pc' := 142) zcv_X5_169 (cX7_addItem_mc N (zgb s 2) w2 s) (zob_s (zgb s 2)) rfl (by decide) (Nat.le_of_ble_eq_true rfl) dX5_takeSign_139 rfl rfl (fun r5 s6 => ?_)
      refine zx_lift (pc' := 143) (fun _ => zq_aload_n rfl rfl dX5_takeSign_142 rfl) ?_
      refine zx_lift (pc' := 144) (fun _ => zq_iconst (v := 0) dX5_takeSign_143 rfl rfl) ?_
      refine zx_cVi (pc' := 147) zcv_X5_178 (cX5_go_mc N (0 : Int32) s6) zob_26 rfl (by decide) (Nat.le_of_ble_eq_true rfl) dX5_takeSign_144 rfl rfl (fun r7 s8 => ?_)
      refine zx_lift (pc' := 148) (fun _ => zq_istore_n (ls' := [.ref 26, .null, .int w2, .int r7]) rfl (by decide) rfl rfl dX5_takeSign_147 rfl) ?_
      exact xX5_takeSign_j148_j N w2 r7 s8
def jX5_takeSign_j102 (N : Nat)   (w2 : Int32) (s : zq_S) : Option (Int32 × zq_S) :=
  zq_b2 (mX7_addItem N (zgb s 2) w2 s) (fun r9 s10 =>
  zq_b2 (mX5_go N (8 : Int32) s10) (fun r11 s12 =>
  jX5_takeSign_j148 N w2 r11 s12))
set_option maxRecDepth 20000 in
set_option maxHeartbeats 2000000 in
theorem xX5_takeSign_j102_j (N : Nat)   (w2 : Int32) (s : zq_S) : zq_X yX5_takeSign RX5 cX5_takeSign 4 (some .int) ⟨3, 0, 0, 66⟩ zv_i 102 [.ref 26, .null, .int w2, .null] [] s (jX5_takeSign_j102 N w2 s) := by
  unfold jX5_takeSign_j102
  refine zx_lift (pc' := 103) (fun _ => zq_aload_n rfl rfl dX5_takeSign_102 rfl) ?_
  refine zx_lift (pc' := 106) (fun _ => zt_getP zfr_X5_29 zfd_26_3 dX5_takeSign_103 rfl) ?_
  refine zx_lift (pc' := 107) (fun _ => zq_iload_n rfl rfl dX5_takeSign_106 rfl) ?_
  refine zx_cVv (pc' := 110) zcv_X5_169 (cX7_addItem_mc N (zgb s 2) w2 s) (zob_s (zgb s 2)) rfl (by decide) (Nat.le_of_ble_eq_true rfl) dX5_takeSign_107 rfl rfl (fun r9 s10 => ?_)
  refine zx_lift (pc' := 111) (fun _ => zq_aload_n rfl rfl dX5_takeSign_110 rfl) ?_
  refine zx_lift (pc' := 113) (fun _ => zq_bipush (v := 8) dX5_takeSign_111 rfl rfl) ?_
  refine zx_cVi (pc' := 116) zcv_X5_178 (cX5_go_mc N (8 : Int32) s10) zob_26 rfl (by decide) (Nat.le_of_ble_eq_true rfl) dX5_takeSign_113 rfl rfl (fun r11 s12 => ?_)
  refine zx_lift (pc' := 117) (fun _ => zq_istore_n (ls' := [.ref 26, .null, .int w2, .int r11]) rfl (by decide) rfl rfl dX5_takeSign_116 rfl) ?_
  refine zx_lift (pc' := 148) (fun _ => zq_goto dX5_takeSign_117 rfl) ?_
  exact xX5_takeSign_j148_j N w2 r11 s12
def jX5_takeSign_j80 (N : Nat)   (w2 : Int32) (w3 : Int32) (s : zq_S) : Option (Int32 × zq_S) :=
  if w2 = (47 : Int32) then
  if (zgf s 26 4) = (3 : Int32) then
  jX5_takeSign_j102 N w2 s
  else
  if (zgf s 26 4) = (4 : Int32) then
  jX5_takeSign_j102 N w2 s
  else
  jX5_takeSign_j120 N w2 w3 s
  else
  jX5_takeSign_j120 N w2 w3 s
set_option maxRecDepth 20000 in
set_option maxHeartbeats 2000000 in
theorem xX5_takeSign_j80_j (N : Nat)   (w2 : Int32) (w3 : Int32) (s : zq_S) : zq_X yX5_takeSign RX5 cX5_takeSign 4 (some .int) ⟨3, 0, 0, 66⟩ zv_i 80 [.ref 26, .null, .int w2, .int w3] [] s (jX5_takeSign_j80 N w2 w3 s) := by
  unfold jX5_takeSign_j80
  refine zx_lift (pc' := 81) (fun _ => zq_iload_n rfl rfl dX5_takeSign_80 rfl) ?_
  refine zx_lift (pc' := 83) (fun _ => zq_bipush (v := 47) dX5_takeSign_81 rfl rfl) ?_
  refine zx_icmp_ne (pc' := 86) (tgt := 120) dX5_takeSign_83 rfl rfl (fun hc => ?_) (fun hc => ?_)
  · exact xX5_takeSign_j120_j N w2 w3 s
  · refine zx_lift (pc' := 87) (fun _ => zq_aload_n rfl rfl dX5_takeSign_86 rfl) ?_
    refine zx_lift (pc' := 90) (fun _ => zt_getI zfr_X5_48 zfd_26_4 dX5_takeSign_87 rfl) ?_
    refine zx_lift (pc' := 91) (fun _ => zq_iconst (v := 3) dX5_takeSign_90 rfl rfl) ?_
    refine zx_icmp_eq (pc' := 94) (tgt := 102) dX5_takeSign_91 rfl rfl (fun hc => ?_) (fun hc => ?_)
    · refine zx_less [.ref 26, .null, .int w2, .null] (zq_cr (zq_cz (zq_cr (zq_cz zq_cn)))) ?_
      exact xX5_takeSign_j102_j N w2 s
    · refine zx_lift (pc' := 95) (fun _ => zq_aload_n rfl rfl dX5_takeSign_94 rfl) ?_
      refine zx_lift (pc' := 98) (fun _ => zt_getI zfr_X5_48 zfd_26_4 dX5_takeSign_95 rfl) ?_
      refine zx_lift (pc' := 99) (fun _ => zq_iconst (v := 4) dX5_takeSign_98 rfl rfl) ?_
      refine zx_icmp_ne (pc' := 102) (tgt := 120) dX5_takeSign_99 rfl rfl (fun hc => ?_) (fun hc => ?_)
      · exact xX5_takeSign_j120_j N w2 w3 s
      · refine zx_less [.ref 26, .null, .int w2, .null] (zq_cr (zq_cz (zq_cr (zq_cz zq_cn)))) ?_
        exact xX5_takeSign_j102_j N w2 s
def jX5_takeSign_j56 (N : Nat)   (w2 : Int32) (w3 : Int32) (s : zq_S) : Option (Int32 × zq_S) :=
  if w2 = (33 : Int32) then
  if (zgf s 26 4) = (2 : Int32) then
  zq_b2 (mX5_go N (6 : Int32) s) (fun r13 s14 =>
  jX5_takeSign_j148 N w2 r13 s14)
  else
  jX5_takeSign_j80 N w2 w3 s
  else
  jX5_takeSign_j80 N w2 w3 s
set_option maxRecDepth 20000 in
set_option maxHeartbeats 2000000 in
theorem xX5_takeSign_j56_j (N : Nat)   (w2 : Int32) (w3 : Int32) (s : zq_S) : zq_X yX5_takeSign RX5 cX5_takeSign 4 (some .int) ⟨3, 0, 0, 66⟩ zv_i 56 [.ref 26, .null, .int w2, .int w3] [] s (jX5_takeSign_j56 N w2 w3 s) := by
  unfold jX5_takeSign_j56
  refine zx_lift (pc' := 57) (fun _ => zq_iload_n rfl rfl dX5_takeSign_56 rfl) ?_
  refine zx_lift (pc' := 59) (fun _ => zq_bipush (v := 33) dX5_takeSign_57 rfl rfl) ?_
  refine zx_icmp_ne (pc' := 62) (tgt := 80) dX5_takeSign_59 rfl rfl (fun hc => ?_) (fun hc => ?_)
  · exact xX5_takeSign_j80_j N w2 w3 s
  · refine zx_lift (pc' := 63) (fun _ => zq_aload_n rfl rfl dX5_takeSign_62 rfl) ?_
    refine zx_lift (pc' := 66) (fun _ => zt_getI zfr_X5_48 zfd_26_4 dX5_takeSign_63 rfl) ?_
    refine zx_lift (pc' := 67) (fun _ => zq_iconst (v := 2) dX5_takeSign_66 rfl rfl) ?_
    refine zx_icmp_ne (pc' := 70) (tgt := 80) dX5_takeSign_67 rfl rfl (fun hc => ?_) (fun hc => ?_)
    · exact xX5_takeSign_j80_j N w2 w3 s
    · refine zx_lift (pc' := 71) (fun _ => zq_aload_n rfl rfl dX5_takeSign_70 rfl) ?_
      refine zx_lift (pc' := 73) (fun _ => zq_bipush (v := 6) dX5_takeSign_71 rfl rfl) ?_
      refine zx_cVi (pc' := 76) zcv_X5_178 (cX5_go_mc N (6 : Int32) s) zob_26 rfl (by decide) (Nat.le_of_ble_eq_true rfl) dX5_takeSign_73 rfl rfl (fun r13 s14 => ?_)
      refine zx_lift (pc' := 77) (fun _ => zq_istore_n (ls' := [.ref 26, .null, .int w2, .int r13]) rfl (by decide) rfl rfl dX5_takeSign_76 rfl) ?_
      refine zx_lift (pc' := 148) (fun _ => zq_goto dX5_takeSign_77 rfl) ?_
      exact xX5_takeSign_j148_j N w2 r13 s14
def jX5_takeSign_j47 (N : Nat)   (w2 : Int32) (s : zq_S) : Option (Int32 × zq_S) :=
  zq_b2 (mX5_go N (0 : Int32) s) (fun r15 s16 =>
  jX5_takeSign_j148 N w2 r15 s16)
set_option maxRecDepth 20000 in
set_option maxHeartbeats 2000000 in
theorem xX5_takeSign_j47_j (N : Nat)   (w2 : Int32) (s : zq_S) : zq_X yX5_takeSign RX5 cX5_takeSign 4 (some .int) ⟨3, 0, 0, 66⟩ zv_i 47 [.ref 26, .null, .int w2, .null] [] s (jX5_takeSign_j47 N w2 s) := by
  unfold jX5_takeSign_j47
  refine zx_lift (pc' := 48) (fun _ => zq_aload_n rfl rfl dX5_takeSign_47 rfl) ?_
  refine zx_lift (pc' := 49) (fun _ => zq_iconst (v := 0) dX5_takeSign_48 rfl rfl) ?_
  refine zx_cVi (pc' := 52) zcv_X5_178 (cX5_go_mc N (0 : Int32) s) zob_26 rfl (by decide) (Nat.le_of_ble_eq_true rfl) dX5_takeSign_49 rfl rfl (fun r15 s16 => ?_)
  refine zx_lift (pc' := 53) (fun _ => zq_istore_n (ls' := [.ref 26, .null, .int w2, .int r15]) rfl (by decide) rfl rfl dX5_takeSign_52 rfl) ?_
  refine zx_lift (pc' := 148) (fun _ => zq_goto dX5_takeSign_53 rfl) ?_
  exact xX5_takeSign_j148_j N w2 r15 s16
def mX5_takeSign (N : Nat)  (p1 : Int32) (s : zq_S) : Option (Int32 × zq_S) :=
  zq_b2 (mX5_byteAt N p1 s) (fun r1 s2 =>
  if (zgf s2 26 4) = (0 : Int32) then
  zq_b2 (mX5_takeItemSign N r1 p1 s2) (fun r17 s18 =>
  jX5_takeSign_j148 N r1 r17 s18)
  else
  if r1 = (58 : Int32) then
  if (zgf s2 26 4) = (1 : Int32) then
  jX5_takeSign_j47 N r1 s2
  else
  if (zgf s2 26 4) = (2 : Int32) then
  jX5_takeSign_j47 N r1 s2
  else
  jX5_takeSign_j56 N r1 (1 : Int32) s2
  else
  jX5_takeSign_j56 N r1 (1 : Int32) s2)
set_option maxRecDepth 20000 in
set_option maxHeartbeats 2000000 in
theorem xX5_takeSign (N : Nat)  (p1 : Int32) (s : zq_S) : zq_X yX5_takeSign RX5 cX5_takeSign 4 (some .int) ⟨3, 0, 0, 66⟩ zv_i 0 [.ref 26, .int p1, .null, .null] [] s (mX5_takeSign N p1 s) := by
  unfold mX5_takeSign
  refine zx_lift (pc' := 1) (fun _ => zq_aload_n rfl rfl dX5_takeSign_0 rfl) ?_
  refine zx_lift (pc' := 2) (fun _ => zq_iload_n rfl rfl dX5_takeSign_1 rfl) ?_
  refine zx_cVi (pc' := 5) zcv_X5_86 (cX5_byteAt_mc N p1 s) zob_26 rfl (by decide) (Nat.le_of_ble_eq_true rfl) dX5_takeSign_2 rfl rfl (fun r1 s2 => ?_)
  refine zx_lift (pc' := 6) (fun _ => zq_istore_n (ls' := [.ref 26, .int p1, .int r1, .null]) rfl (by decide) rfl rfl dX5_takeSign_5 rfl) ?_
  refine zx_lift (pc' := 7) (fun _ => zq_iconst (v := 1) dX5_takeSign_6 rfl rfl) ?_
  refine zx_lift (pc' := 8) (fun _ => zq_istore_n (ls' := [.ref 26, .int p1, .int r1, .int (1 : Int32)]) rfl (by decide) rfl rfl dX5_takeSign_7 rfl) ?_
  refine zx_lift (pc' := 9) (fun _ => zq_aload_n rfl rfl dX5_takeSign_8 rfl) ?_
  refine zx_lift (pc' := 12) (fun _ => zt_getI zfr_X5_48 zfd_26_4 dX5_takeSign_9 rfl) ?_
  refine zx_if_ne (pc' := 15) (tgt := 25) dX5_takeSign_12 rfl rfl (fun hc => ?_) (fun hc => ?_)
  · refine zx_lift (pc' := 26) (fun _ => zq_iload_n rfl rfl dX5_takeSign_25 rfl) ?_
    refine zx_lift (pc' := 28) (fun _ => zq_bipush (v := 58) dX5_takeSign_26 rfl rfl) ?_
    refine zx_icmp_ne (pc' := 31) (tgt := 56) dX5_takeSign_28 rfl rfl (fun hc => ?_) (fun hc => ?_)
    · refine zx_less [.ref 26, .null, .int r1, .int (1 : Int32)] (zq_cr (zq_cz (zq_cr (zq_cr zq_cn)))) ?_
      exact xX5_takeSign_j56_j N r1 (1 : Int32) s2
    · refine zx_lift (pc' := 32) (fun _ => zq_aload_n rfl rfl dX5_takeSign_31 rfl) ?_
      refine zx_lift (pc' := 35) (fun _ => zt_getI zfr_X5_48 zfd_26_4 dX5_takeSign_32 rfl) ?_
      refine zx_lift (pc' := 36) (fun _ => zq_iconst (v := 1) dX5_takeSign_35 rfl rfl) ?_
      refine zx_icmp_eq (pc' := 39) (tgt := 47) dX5_takeSign_36 rfl rfl (fun hc => ?_) (fun hc => ?_)
      · refine zx_less [.ref 26, .null, .int r1, .null] (zq_cr (zq_cz (zq_cr (zq_cz zq_cn)))) ?_
        exact xX5_takeSign_j47_j N r1 s2
      · refine zx_lift (pc' := 40) (fun _ => zq_aload_n rfl rfl dX5_takeSign_39 rfl) ?_
        refine zx_lift (pc' := 43) (fun _ => zt_getI zfr_X5_48 zfd_26_4 dX5_takeSign_40 rfl) ?_
        refine zx_lift (pc' := 44) (fun _ => zq_iconst (v := 2) dX5_takeSign_43 rfl rfl) ?_
        refine zx_icmp_ne (pc' := 47) (tgt := 56) dX5_takeSign_44 rfl rfl (fun hc => ?_) (fun hc => ?_)
        · refine zx_less [.ref 26, .null, .int r1, .int (1 : Int32)] (zq_cr (zq_cz (zq_cr (zq_cr zq_cn)))) ?_
          exact xX5_takeSign_j56_j N r1 (1 : Int32) s2
        · refine zx_less [.ref 26, .null, .int r1, .null] (zq_cr (zq_cz (zq_cr (zq_cz zq_cn)))) ?_
          exact xX5_takeSign_j47_j N r1 s2
  · refine zx_lift (pc' := 16) (fun _ => zq_aload_n rfl rfl dX5_takeSign_15 rfl) ?_
    refine zx_lift (pc' := 17) (fun _ => zq_iload_n rfl rfl dX5_takeSign_16 rfl) ?_
    refine zx_lift (pc' := 18) (fun _ => zq_iload_n rfl rfl dX5_takeSign_17 rfl) ?_
    refine zx_cVi (pc' := 21) zcv_X5_175 (cX5_takeItemSign_mc N r1 p1 s2) zob_26 rfl (by decide) (Nat.le_of_ble_eq_true rfl) dX5_takeSign_18 rfl rfl (fun r17 s18 => ?_)
    refine zx_lift (pc' := 22) (fun _ => zq_istore_n (ls' := [.ref 26, .int p1, .int r1, .int r17]) rfl (by decide) rfl rfl dX5_takeSign_21 rfl) ?_
    refine zx_lift (pc' := 148) (fun _ => zq_goto dX5_takeSign_22 rfl) ?_
    refine zx_less [.ref 26, .null, .int r1, .int r17] (zq_cr (zq_cz (zq_cr (zq_cr zq_cn)))) ?_
    exact xX5_takeSign_j148_j N r1 r17 s18
theorem cX5_takeSign_mc (N : Nat)  (p1 : Int32) (s : zq_S) (v : Int32 × zq_S) (h : mX5_takeSign N p1 s = some v) : zq_MC yX5_takeSign cX5_takeSign 4 (some .int) ⟨3, 0, 0, 66⟩ 0 0 [.ref 26, .int p1] (zq_en s) (zv_i v.1, zq_en v.2) := zq_MC_x [.ref 26, .int p1, .null, .null] (by decide +kernel) rfl rfl (Nat.le_of_ble_eq_true rfl) (xX5_takeSign N p1 s) h
def jX7_printNumber_j30 (N : Nat) (b0 : Bool)  (w1 : Int32) (s : zq_S) : Option (Unit × zq_S) :=
  zq_b2 (mX7_printSign N b0 ((48 : Int32) + (w1 - w1 / (10 : Int32) * (10 : Int32))) s) (fun r1 s2 =>
  zq_let (zpf s2 (zs b0) 2 (1 : Int32)) (fun s3 =>
  some ((), s3)))
set_option maxRecDepth 20000 in
set_option maxHeartbeats 2000000 in
theorem xX7_printNumber_j30_j (N : Nat) (b0 : Bool)  (w1 : Int32) (s : zq_S) : zq_X yX7_printNumber RX7 cX7_printNumber 2 none ⟨1, 0, 0, 21⟩ zv_v 30 [.ref (zs b0), .int w1] [] s (jX7_printNumber_j30 N b0 w1 s) := by
  unfold jX7_printNumber_j30
  refine zx_lift (pc' := 31) (fun _ => zq_aload_n rfl rfl dX7_printNumber_30 rfl) ?_
  refine zx_lift (pc' := 33) (fun _ => zq_bipush (v := 48) dX7_printNumber_31 rfl rfl) ?_
  refine zx_lift (pc' := 34) (fun _ => zq_iload_n rfl rfl dX7_printNumber_33 rfl) ?_
  refine zx_lift (pc' := 36) (fun _ => zq_bipush (v := 10) dX7_printNumber_34 rfl rfl) ?_
  refine zx_lift (pc' := 37) (fun _ => zq_irem (by decide) dX7_printNumber_36 rfl) ?_
  refine zx_lift (pc' := 38) (fun _ => zq_iadd dX7_printNumber_37 rfl) ?_
  refine zx_cVv (pc' := 41) zcv_X7_69 (cX7_printSign_mc N b0 ((48 : Int32) + (w1 - w1 / (10 : Int32) * (10 : Int32))) s) (zob_s b0) rfl (by decide) (Nat.le_of_ble_eq_true rfl) dX7_printNumber_38 rfl rfl (fun r1 s2 => ?_)
  refine zx_lift (pc' := 42) (fun _ => zq_aload_n rfl rfl dX7_printNumber_41 rfl) ?_
  refine zx_lift (pc' := 43) (fun _ => zq_iconst (v := 1) dX7_printNumber_42 rfl rfl) ?_
  refine zx_putI (pc' := 46) zfr_X7_50 (fun _ => ⟨by decide, rfl⟩) (zfd_s_2 b0) dX7_printNumber_43 rfl (fun s3 => ?_)
  exact zx_vret rfl dX7_printNumber_46
def jX7_printNumber_j13 (N : Nat) (b0 : Bool)  (w1 : Int32) (s : zq_S) : Option (Unit × zq_S) :=
  if w1 < (10 : Int32) then
  jX7_printNumber_j30 N b0 w1 s
  else
  zq_b2 (mX7_printSign N b0 ((48 : Int32) + (w1 / (10 : Int32))) s) (fun r4 s5 =>
  jX7_printNumber_j30 N b0 w1 s5)
set_option maxRecDepth 20000 in
set_option maxHeartbeats 2000000 in
theorem xX7_printNumber_j13_j (N : Nat) (b0 : Bool)  (w1 : Int32) (s : zq_S) : zq_X yX7_printNumber RX7 cX7_printNumber 2 none ⟨1, 0, 0, 21⟩ zv_v 13 [.ref (zs b0), .int w1] [] s (jX7_printNumber_j13 N b0 w1 s) := by
  unfold jX7_printNumber_j13
  refine zx_lift (pc' := 14) (fun _ => zq_iload_n rfl rfl dX7_printNumber_13 rfl) ?_
  refine zx_lift (pc' := 16) (fun _ => zq_bipush (v := 10) dX7_printNumber_14 rfl rfl) ?_
  refine zx_icmp_lt (pc' := 19) (tgt := 30) dX7_printNumber_16 rfl rfl (fun hc => ?_) (fun hc => ?_)
  · exact xX7_printNumber_j30_j N b0 w1 s
  · refine zx_lift (pc' := 20) (fun _ => zq_aload_n rfl rfl dX7_printNumber_19 rfl) ?_
    refine zx_lift (pc' := 22) (fun _ => zq_bipush (v := 48) dX7_printNumber_20 rfl rfl) ?_
    refine zx_lift (pc' := 23) (fun _ => zq_iload_n rfl rfl dX7_printNumber_22 rfl) ?_
    refine zx_lift (pc' := 25) (fun _ => zq_bipush (v := 10) dX7_printNumber_23 rfl rfl) ?_
    refine zx_lift (pc' := 26) (fun _ => zq_idiv (by decide) dX7_printNumber_25 rfl) ?_
    refine zx_lift (pc' := 27) (fun _ => zq_iadd dX7_printNumber_26 rfl) ?_
    refine zx_cVv (pc' := 30) zcv_X7_69 (cX7_printSign_mc N b0 ((48 : Int32) + (w1 / (10 : Int32))) s) (zob_s b0) rfl (by decide) (Nat.le_of_ble_eq_true rfl) dX7_printNumber_27 rfl rfl (fun r4 s5 => ?_)
    exact xX7_printNumber_j30_j N b0 w1 s5
def mX7_printNumber (N : Nat) (b0 : Bool) (p1 : Int32) (s : zq_S) : Option (Unit × zq_S) :=
  if (zgf s (zs b0) 2) = (0 : Int32) then
  jX7_printNumber_j13 N b0 p1 s
  else
  zq_b2 (mX7_printSign N b0 (32 : Int32) s) (fun r6 s7 =>
  jX7_printNumber_j13 N b0 p1 s7)
set_option maxRecDepth 20000 in
set_option maxHeartbeats 2000000 in
theorem xX7_printNumber (N : Nat) (b0 : Bool) (p1 : Int32) (s : zq_S) : zq_X yX7_printNumber RX7 cX7_printNumber 2 none ⟨1, 0, 0, 21⟩ zv_v 0 [.ref (zs b0), .int p1] [] s (mX7_printNumber N b0 p1 s) := by
  unfold mX7_printNumber
  refine zx_lift (pc' := 1) (fun _ => zq_aload_n rfl rfl dX7_printNumber_0 rfl) ?_
  refine zx_lift (pc' := 4) (fun _ => zt_getI zfr_X7_50 (zfd_s_2 b0) dX7_printNumber_1 rfl) ?_
  refine zx_if_eq (pc' := 7) (tgt := 13) dX7_printNumber_4 rfl rfl (fun hc => ?_) (fun hc => ?_)
  · exact xX7_printNumber_j13_j N b0 p1 s
  · refine zx_lift (pc' := 8) (fun _ => zq_aload_n rfl rfl dX7_printNumber_7 rfl) ?_
    refine zx_lift (pc' := 10) (fun _ => zq_bipush (v := 32) dX7_printNumber_8 rfl rfl) ?_
    refine zx_cVv (pc' := 13) zcv_X7_69 (cX7_printSign_mc N b0 (32 : Int32) s) (zob_s b0) rfl (by decide) (Nat.le_of_ble_eq_true rfl) dX7_printNumber_10 rfl rfl (fun r6 s7 => ?_)
    exact xX7_printNumber_j13_j N b0 p1 s7
theorem cX7_printNumber_mc (N : Nat) (b0 : Bool) (p1 : Int32) (s : zq_S) (v : Unit × zq_S) (h : mX7_printNumber N b0 p1 s = some v) : zq_MC yX7_printNumber cX7_printNumber 2 none ⟨1, 0, 0, 21⟩ 0 0 [.ref (zs b0), .int p1] (zq_en s) (zv_v v.1, zq_en v.2) := zq_MC_x [.ref (zs b0), .int p1] (by decide +kernel) rfl rfl (Nat.le_of_ble_eq_true rfl) (xX7_printNumber N b0 p1 s) h
def jX5_countInside_j50 (N : Nat)    (s : zq_S) : Option (Unit × zq_S) :=
  some ((), s)
set_option maxRecDepth 20000 in
set_option maxHeartbeats 2000000 in
theorem xX5_countInside_j50_j (N : Nat)    (s : zq_S) : zq_X yX5_countInside RX5 cX5_countInside 2 none ⟨0, 0, 0, 0⟩ zv_v 50 [.null, .null] [] s (jX5_countInside_j50 N s) := by
  unfold jX5_countInside_j50
  exact zx_vret rfl dX5_countInside_50
def mX5_countInside (N : Nat)  (p1 : Int32) (s : zq_S) : Option (Unit × zq_S) :=
  if p1 < (0 : Int32) then
  jX5_countInside_j50 N s
  else
  zq_ck p1 10 (
  zq_ck p1 10 (
  zq_let (zpa s (zs (zgb s 2) + 7) p1 ((zga s (zs (zgb s 2) + 7) p1) + (1 : Int32))) (fun s1 =>
  zq_ck p1 10 (
  if (zga s1 (zs (zgb s1 2) + 11) p1) < (0 : Int32) then
  jX5_countInside_j50 N s1
  else
  zq_ck p1 10 (
  zq_ck (zga s1 (zs (zgb s1 2) + 11) p1) 10 (
  zq_ck (zga s1 (zs (zgb s1 2) + 11) p1) 10 (
  zq_let (zpa s1 (zs (zgb s1 2) + 7) (zga s1 (zs (zgb s1 2) + 11) p1) ((zga s1 (zs (zgb s1 2) + 7) (zga s1 (zs (zgb s1 2) + 11) p1)) + (1 : Int32))) (fun s2 =>
  jX5_countInside_j50 N s2))))))))
set_option maxRecDepth 20000 in
set_option maxHeartbeats 2000000 in
theorem xX5_countInside (N : Nat)  (p1 : Int32) (s : zq_S) : zq_X yX5_countInside RX5 cX5_countInside 2 none ⟨0, 0, 0, 0⟩ zv_v 0 [.ref 26, .int p1] [] s (mX5_countInside N p1 s) := by
  unfold mX5_countInside
  refine zx_lift (pc' := 1) (fun _ => zq_iload_n rfl rfl dX5_countInside_0 rfl) ?_
  refine zx_if_lt (pc' := 4) (tgt := 50) dX5_countInside_1 rfl rfl (fun hc => ?_) (fun hc => ?_)
  · refine zx_less [.null, .null] (zq_cz (zq_cz zq_cn)) ?_
    exact xX5_countInside_j50_j N s
  · refine zx_lift (pc' := 5) (fun _ => zq_aload_n rfl rfl dX5_countInside_4 rfl) ?_
    refine zx_lift (pc' := 8) (fun _ => zt_getP zfr_X5_29 zfd_26_3 dX5_countInside_5 rfl) ?_
    refine zx_lift (pc' := 11) (fun _ => zt_getR zfr_X5_163 (zfd_s_11 (zgb s 2)) dX5_countInside_8 rfl) ?_
    refine zx_lift (pc' := 12) (fun _ => zq_iload_n rfl rfl dX5_countInside_11 rfl) ?_
    refine zx_lift (pc' := 13) (fun _ => zq_dup2 rfl rfl dX5_countInside_12 rfl) ?_
    refine zx_iaload (pc' := 14) (zsh_s7 (zgb s 2)) dX5_countInside_13 rfl ?_
    refine zx_lift (pc' := 15) (fun _ => zq_iconst (v := 1) dX5_countInside_14 rfl rfl) ?_
    refine zx_lift (pc' := 16) (fun _ => zq_iadd dX5_countInside_15 rfl) ?_
    refine zx_iastore (pc' := 17) (zsh_s7 (zgb s 2)) dX5_countInside_16 rfl (fun s1 => ?_)
    refine zx_lift (pc' := 18) (fun _ => zq_aload_n rfl rfl dX5_countInside_17 rfl) ?_
    refine zx_lift (pc' := 21) (fun _ => zt_getP zfr_X5_29 zfd_26_3 dX5_countInside_18 rfl) ?_
    refine zx_lift (pc' := 24) (fun _ => zt_getR zfr_X5_146 (zfd_s_15 (zgb s1 2)) dX5_countInside_21 rfl) ?_
    refine zx_lift (pc' := 25) (fun _ => zq_iload_n rfl rfl dX5_countInside_24 rfl) ?_
    refine zx_iaload (pc' := 26) (zsh_s11 (zgb s1 2)) dX5_countInside_25 rfl ?_
    refine zx_if_lt (pc' := 29) (tgt := 50) dX5_countInside_26 rfl rfl (fun hc => ?_) (fun hc => ?_)
    · refine zx_less [.null, .null] (zq_cz (zq_cz zq_cn)) ?_
      exact xX5_countInside_j50_j N s1
    · refine zx_lift (pc' := 30) (fun _ => zq_aload_n rfl rfl dX5_countInside_29 rfl) ?_
      refine zx_lift (pc' := 33) (fun _ => zt_getP zfr_X5_29 zfd_26_3 dX5_countInside_30 rfl) ?_
      refine zx_lift (pc' := 36) (fun _ => zt_getR zfr_X5_163 (zfd_s_11 (zgb s1 2)) dX5_countInside_33 rfl) ?_
      refine zx_lift (pc' := 37) (fun _ => zq_aload_n rfl rfl dX5_countInside_36 rfl) ?_
      refine zx_lift (pc' := 40) (fun _ => zt_getP zfr_X5_29 zfd_26_3 dX5_countInside_37 rfl) ?_
      refine zx_lift (pc' := 43) (fun _ => zt_getR zfr_X5_146 (zfd_s_15 (zgb s1 2)) dX5_countInside_40 rfl) ?_
      refine zx_lift (pc' := 44) (fun _ => zq_iload_n rfl rfl dX5_countInside_43 rfl) ?_
      refine zx_iaload (pc' := 45) (zsh_s11 (zgb s1 2)) dX5_countInside_44 rfl ?_
      refine zx_lift (pc' := 46) (fun _ => zq_dup2 rfl rfl dX5_countInside_45 rfl) ?_
      refine zx_iaload (pc' := 47) (zsh_s7 (zgb s1 2)) dX5_countInside_46 rfl ?_
      refine zx_lift (pc' := 48) (fun _ => zq_iconst (v := 1) dX5_countInside_47 rfl rfl) ?_
      refine zx_lift (pc' := 49) (fun _ => zq_iadd dX5_countInside_48 rfl) ?_
      refine zx_iastore (pc' := 50) (zsh_s7 (zgb s1 2)) dX5_countInside_49 rfl (fun s2 => ?_)
      refine zx_less [.null, .null] (zq_cz (zq_cz zq_cn)) ?_
      exact xX5_countInside_j50_j N s2
theorem cX5_countInside_mc (N : Nat)  (p1 : Int32) (s : zq_S) (v : Unit × zq_S) (h : mX5_countInside N p1 s = some v) : zq_MC yX5_countInside cX5_countInside 2 none ⟨0, 0, 0, 0⟩ 0 0 [.ref 26, .int p1] (zq_en s) (zv_v v.1, zq_en v.2) := zq_MC_x [.ref 26, .int p1] (by decide +kernel) rfl rfl (Nat.le_of_ble_eq_true rfl) (xX5_countInside N p1 s) h
def mJ9_max_7cf53 (N : Nat)  (p0 : Int32) (p1 : Int32) (s : zq_S) : Option (Int32 × zq_S) :=
  zq_let (if p0 < p1 then p1 else p0) (fun x1 =>
  some (x1, s))
set_option maxRecDepth 20000 in
set_option maxHeartbeats 2000000 in
theorem xJ9_max_7cf53 (N : Nat)  (p0 : Int32) (p1 : Int32) (s : zq_S) : zq_X yJ9_max_7cf53 RJ9 cJ9_max_7cf53 2 (some .int) ⟨0, 0, 0, 0⟩ zv_i 0 [.int p0, .int p1] [] s (mJ9_max_7cf53 N p0 p1 s) := by
  unfold mJ9_max_7cf53
  refine zx_lift (pc' := 1) (fun _ => zq_iload_n rfl rfl dJ9_max_7cf53_0 rfl) ?_
  refine zx_lift (pc' := 2) (fun _ => zq_iload_n rfl rfl dJ9_max_7cf53_1 rfl) ?_
  refine zx_tern (pcJ := 10) (lsJ := fun x1 => [.null, .null]) (stJ := fun x1 => [.int x1]) (fun x1 => ?_) (fun f hJ => ?_)
  rotate_left
  · refine zx_licmp_lt (pc' := 5) (tgt := 9) dJ9_max_7cf53_2 rfl rfl (fun _ => ?_) (fun _ => ?_)
    · refine zx_lift (pc' := 10) (fun _ => zq_iload_n rfl rfl dJ9_max_7cf53_9 rfl) ?_
      exact zx_lessJ (zq_cz (zq_cz zq_cn)) (hJ _)
    · refine zx_lift (pc' := 6) (fun _ => zq_iload_n rfl rfl dJ9_max_7cf53_5 rfl) ?_
      refine zx_lift (pc' := 10) (fun _ => zq_goto dJ9_max_7cf53_6 rfl) ?_
      exact zx_lessJ (zq_cz (zq_cz zq_cn)) (hJ _)
  exact zx_iret rfl dJ9_max_7cf53_10
theorem cJ9_max_7cf53_mc (N : Nat)  (p0 : Int32) (p1 : Int32) (s : zq_S) (v : Int32 × zq_S) (h : mJ9_max_7cf53 N p0 p1 s = some v) : zq_MC yJ9_max_7cf53 cJ9_max_7cf53 2 (some .int) ⟨0, 0, 0, 0⟩ 0 0 [.int p0, .int p1] (zq_en s) (zv_i v.1, zq_en v.2) := zq_MC_xF [.int p0, .int p1] (by decide +kernel) rfl rfl (Nat.le_of_ble_eq_true rfl) (xJ9_max_7cf53 N p0 p1 s) h
def bX5_takeWord_15 (N : Nat)  (f1 : Int32) (k53 : zq_S → Option (Unit × zq_S)) (self : Int32 × zq_S → Option (Unit × zq_S)) (v : Int32 × zq_S) : Option (Unit × zq_S) :=
  if (zgf v.2 26 6) ≤ v.1 then
  k53 v.2
  else
  if (8 : Int32) ≤ v.1 then
  k53 v.2
  else
  zq_ck v.1 8 (
  zq_ck (zga v.2 28 v.1) 100 (
  zq_b2 (mX5_countInside N (zga v.2 (zs (zgb v.2 2) + 3) (zga v.2 28 v.1)) v.2) (fun r2 s3 =>
  zq_let (v.1 + (1 : Int32)) (fun x4 =>
  self (x4, s3)))))
set_option maxRecDepth 20000 in
set_option maxHeartbeats 2000000 in
theorem xX5_takeWord_15 (N : Nat)  (f1 : Int32) (k53 : zq_S → Option (Unit × zq_S)) (hk53 : ∀ e, zq_X yX5_takeWord RX5 cX5_takeWord 3 none ⟨1, 0, 0, 21⟩ zv_v 53 [.ref 26, .int f1, .null] [] e (k53 e)) (self : Int32 × zq_S → Option (Unit × zq_S)) (hself : ∀ v, zq_X yX5_takeWord RX5 cX5_takeWord 3 none ⟨1, 0, 0, 21⟩ zv_v 15 [.ref 26, .int f1, .int v.1] [] v.2 (self v)) (v : Int32 × zq_S) : zq_X yX5_takeWord RX5 cX5_takeWord 3 none ⟨1, 0, 0, 21⟩ zv_v 15 [.ref 26, .int f1, .int v.1] [] v.2 (bX5_takeWord_15 N f1 k53 self v) := by
  unfold bX5_takeWord_15
  refine zx_lift (pc' := 16) (fun _ => zq_iload_n rfl rfl dX5_takeWord_15 rfl) ?_
  refine zx_lift (pc' := 17) (fun _ => zq_aload_n rfl rfl dX5_takeWord_16 rfl) ?_
  refine zx_lift (pc' := 20) (fun _ => zt_getI zfr_X5_51 zfd_26_6 dX5_takeWord_17 rfl) ?_
  refine zx_icmp_ge (pc' := 23) (tgt := 53) dX5_takeWord_20 rfl rfl (fun hc => ?_) (fun hc => ?_)
  · refine zx_less [.ref 26, .int f1, .null] (zq_cr (zq_cr (zq_cz zq_cn))) ?_
    exact hk53 v.2
  · refine zx_lift (pc' := 24) (fun _ => zq_iload_n rfl rfl dX5_takeWord_23 rfl) ?_
    refine zx_lift (pc' := 26) (fun _ => zq_bipush (v := 8) dX5_takeWord_24 rfl rfl) ?_
    refine zx_icmp_ge (pc' := 29) (tgt := 53) dX5_takeWord_26 rfl rfl (fun hc => ?_) (fun hc => ?_)
    · refine zx_less [.ref 26, .int f1, .null] (zq_cr (zq_cr (zq_cz zq_cn))) ?_
      exact hk53 v.2
    · refine zx_lift (pc' := 30) (fun _ => zq_aload_n rfl rfl dX5_takeWord_29 rfl) ?_
      refine zx_lift (pc' := 31) (fun _ => zq_aload_n rfl rfl dX5_takeWord_30 rfl) ?_
      refine zx_lift (pc' := 34) (fun _ => zt_getP zfr_X5_29 zfd_26_3 dX5_takeWord_31 rfl) ?_
      refine zx_lift (pc' := 37) (fun _ => zt_getR zfr_X5_133 (zfd_s_4 (zgb v.2 2)) dX5_takeWord_34 rfl) ?_
      refine zx_lift (pc' := 38) (fun _ => zq_aload_n rfl rfl dX5_takeWord_37 rfl) ?_
      refine zx_lift (pc' := 41) (fun _ => zt_getR zfr_X5_19 zfd_26_5 dX5_takeWord_38 rfl) ?_
      refine zx_lift (pc' := 42) (fun _ => zq_iload_n rfl rfl dX5_takeWord_41 rfl) ?_
      refine zx_iaload (pc' := 43) zsh_28 dX5_takeWord_42 rfl ?_
      refine zx_iaload (pc' := 44) (zsh_s3 (zgb v.2 2)) dX5_takeWord_43 rfl ?_
      refine zx_cVv (pc' := 47) zcv_X5_166 (cX5_countInside_mc N (zga v.2 (zs (zgb v.2 2) + 3) (zga v.2 28 v.1)) v.2) zob_26 rfl (by decide) (Nat.le_of_ble_eq_true rfl) dX5_takeWord_44 rfl rfl (fun r2 s3 => ?_)
      refine zx_iinc (pc' := 50) (ls' := fun x4 => [.ref 26, .int f1, .int x4]) rfl rfl (by decide) rfl (fun _ => rfl) dX5_takeWord_47 rfl (fun x4 => ?_)
      refine zx_lift (pc' := 15) (fun _ => zq_goto dX5_takeWord_50 rfl) ?_
      exact hself (x4, s3)
theorem yX5_takeWord_15 (N : Nat)  (f1 : Int32) (k53 : zq_S → Option (Unit × zq_S)) (hk53 : ∀ e, zq_X yX5_takeWord RX5 cX5_takeWord 3 none ⟨1, 0, 0, 21⟩ zv_v 53 [.ref 26, .int f1, .null] [] e (k53 e)) (n : Nat) : ∀ v : Int32 × zq_S, zq_X yX5_takeWord RX5 cX5_takeWord 3 none ⟨1, 0, 0, 21⟩ zv_v 15 [.ref 26, .int f1, .int v.1] [] v.2 (zq_loop (bX5_takeWord_15 N f1 k53) n v) := by
  induction n with
  | zero => exact fun v u hu => by cases hu
  | succ n ih =>
    intro v
    rw [zq_loop_s]
    exact xX5_takeWord_15 N f1 k53 hk53 (zq_loop (bX5_takeWord_15 N f1 k53) n) ih v
def jX5_takeWord_j116 (N : Nat)    (s : zq_S) : Option (Unit × zq_S) :=
  some ((), s)
set_option maxRecDepth 20000 in
set_option maxHeartbeats 2000000 in
theorem xX5_takeWord_j116_j (N : Nat)    (s : zq_S) : zq_X yX5_takeWord RX5 cX5_takeWord 3 none ⟨1, 0, 0, 21⟩ zv_v 116 [.null, .null, .null] [] s (jX5_takeWord_j116 N s) := by
  unfold jX5_takeWord_j116
  exact zx_vret rfl dX5_takeWord_116
def jX5_takeWord_j69 (N : Nat)   (w1 : Int32) (s : zq_S) : Option (Unit × zq_S) :=
  zq_b2 (mJ9_max_7cf53 N (0 : Int32) ((zgf s (zs (zgb s 2)) 6) - (1 : Int32)) s) (fun r6 s7 =>
  zq_ck r6 100 (
  zq_let (zpa s7 (zs (zgb s 2) + 4) r6 w1) (fun s8 =>
  if (zgf s8 26 4) = (0 : Int32) then
  jX5_takeWord_j116 N s8
  else
  zq_let (if (zgf s8 26 4) = (9 : Int32) then (3 : Int32) else (4 : Int32)) (fun x9 =>
  zq_let (zpf s8 26 4 x9) (fun s10 =>
  jX5_takeWord_j116 N s10)))))
set_option maxRecDepth 20000 in
set_option maxHeartbeats 2000000 in
theorem xX5_takeWord_j69_j (N : Nat)   (w1 : Int32) (s : zq_S) : zq_X yX5_takeWord RX5 cX5_takeWord 3 none ⟨1, 0, 0, 21⟩ zv_v 69 [.ref 26, .int w1, .null] [] s (jX5_takeWord_j69 N w1 s) := by
  unfold jX5_takeWord_j69
  refine zx_lift (pc' := 70) (fun _ => zq_aload_n rfl rfl dX5_takeWord_69 rfl) ?_
  refine zx_lift (pc' := 73) (fun _ => zt_getP zfr_X5_29 zfd_26_3 dX5_takeWord_70 rfl) ?_
  refine zx_lift (pc' := 76) (fun _ => zt_getR zfr_X5_172 (zfd_s_5 (zgb s 2)) dX5_takeWord_73 rfl) ?_
  refine zx_lift (pc' := 77) (fun _ => zq_iconst (v := 0) dX5_takeWord_76 rfl rfl) ?_
  refine zx_lift (pc' := 78) (fun _ => zq_aload_n rfl rfl dX5_takeWord_77 rfl) ?_
  refine zx_lift (pc' := 81) (fun _ => zt_getP zfr_X5_29 zfd_26_3 dX5_takeWord_78 rfl) ?_
  refine zx_lift (pc' := 84) (fun _ => zt_getI zfr_X5_149 (zfd_s_6 (zgb s 2)) dX5_takeWord_81 rfl) ?_
  refine zx_lift (pc' := 85) (fun _ => zq_iconst (v := 1) dX5_takeWord_84 rfl rfl) ?_
  refine zx_lift (pc' := 86) (fun _ => zq_isub dX5_takeWord_85 rfl) ?_
  refine zx_cSi (pc' := 89) zcs_X5_152 (cJ9_max_7cf53_mc N (0 : Int32) ((zgf s (zs (zgb s 2)) 6) - (1 : Int32)) s) rfl (by decide) (Nat.le_of_ble_eq_true rfl) dX5_takeWord_86 rfl rfl (fun r6 s7 => ?_)
  refine zx_lift (pc' := 90) (fun _ => zq_iload_n rfl rfl dX5_takeWord_89 rfl) ?_
  refine zx_iastore (pc' := 91) (zsh_s4 (zgb s 2)) dX5_takeWord_90 rfl (fun s8 => ?_)
  refine zx_lift (pc' := 92) (fun _ => zq_aload_n rfl rfl dX5_takeWord_91 rfl) ?_
  refine zx_lift (pc' := 95) (fun _ => zt_getI zfr_X5_48 zfd_26_4 dX5_takeWord_92 rfl) ?_
  refine zx_if_eq (pc' := 98) (tgt := 116) dX5_takeWord_95 rfl rfl (fun hc => ?_) (fun hc => ?_)
  · refine zx_less [.null, .null, .null] (zq_cz (zq_cz (zq_cz zq_cn))) ?_
    exact xX5_takeWord_j116_j N s8
  · refine zx_lift (pc' := 99) (fun _ => zq_aload_n rfl rfl dX5_takeWord_98 rfl) ?_
    refine zx_lift (pc' := 100) (fun _ => zq_aload_n rfl rfl dX5_takeWord_99 rfl) ?_
    refine zx_lift (pc' := 103) (fun _ => zt_getI zfr_X5_48 zfd_26_4 dX5_takeWord_100 rfl) ?_
    refine zx_lift (pc' := 105) (fun _ => zq_bipush (v := 9) dX5_takeWord_103 rfl rfl) ?_
    refine zx_tern (pcJ := 113) (lsJ := fun x9 => [.null, .null, .null]) (stJ := fun x9 => [.int x9, .ref 26]) (fun x9 => ?_) (fun f hJ => ?_)
    rotate_left
    · refine zx_licmp_ne (pc' := 108) (tgt := 112) dX5_takeWord_105 rfl rfl (fun _ => ?_) (fun _ => ?_)
      · refine zx_lift (pc' := 113) (fun _ => zq_iconst (v := 4) dX5_takeWord_112 rfl rfl) ?_
        exact zx_lessJ (zq_cz (zq_cz (zq_cz zq_cn))) (hJ _)
      · refine zx_lift (pc' := 109) (fun _ => zq_iconst (v := 3) dX5_takeWord_108 rfl rfl) ?_
        refine zx_lift (pc' := 113) (fun _ => zq_goto dX5_takeWord_109 rfl) ?_
        exact zx_lessJ (zq_cz (zq_cz (zq_cz zq_cn))) (hJ _)
    refine zx_putI (pc' := 116) zfr_X5_48 (fun _ => ⟨rfl, rfl⟩) zfd_26_4 dX5_takeWord_113 rfl (fun s10 => ?_)
    exact xX5_takeWord_j116_j N s10
def jX5_takeWord_j53 (N : Nat)   (w1 : Int32) (s : zq_S) : Option (Unit × zq_S) :=
  if (zgf s 26 4) = (0 : Int32) then
  zq_b2 (mX7_addItem N (zgb s 2) (119 : Int32) s) (fun r11 s12 =>
  jX5_takeWord_j69 N w1 s12)
  else
  jX5_takeWord_j69 N w1 s
set_option maxRecDepth 20000 in
set_option maxHeartbeats 2000000 in
theorem xX5_takeWord_j53_j (N : Nat)   (w1 : Int32) (s : zq_S) : zq_X yX5_takeWord RX5 cX5_takeWord 3 none ⟨1, 0, 0, 21⟩ zv_v 53 [.ref 26, .int w1, .null] [] s (jX5_takeWord_j53 N w1 s) := by
  unfold jX5_takeWord_j53
  refine zx_lift (pc' := 54) (fun _ => zq_aload_n rfl rfl dX5_takeWord_53 rfl) ?_
  refine zx_lift (pc' := 57) (fun _ => zt_getI zfr_X5_48 zfd_26_4 dX5_takeWord_54 rfl) ?_
  refine zx_if_ne (pc' := 60) (tgt := 69) dX5_takeWord_57 rfl rfl (fun hc => ?_) (fun hc => ?_)
  · exact xX5_takeWord_j69_j N w1 s
  · refine zx_lift (pc' := 61) (fun _ => zq_aload_n rfl rfl dX5_takeWord_60 rfl) ?_
    refine zx_lift (pc' := 64) (fun _ => zt_getP zfr_X5_29 zfd_26_3 dX5_takeWord_61 rfl) ?_
    refine zx_lift (pc' := 66) (fun _ => zq_bipush (v := 119) dX5_takeWord_64 rfl rfl) ?_
    refine zx_cVv (pc' := 69) zcv_X5_169 (cX7_addItem_mc N (zgb s 2) (119 : Int32) s) (zob_s (zgb s 2)) rfl (by decide) (Nat.le_of_ble_eq_true rfl) dX5_takeWord_66 rfl rfl (fun r11 s12 => ?_)
    exact xX5_takeWord_j69_j N w1 s12
def mX5_takeWord (N : Nat)  (p1 : Int32) (s : zq_S) : Option (Unit × zq_S) :=
  zq_let (zpf s (zs (zgb s 2)) 8 ((zgf s (zs (zgb s 2)) 8) + (1 : Int32))) (fun s1 =>
  zq_loop (bX5_takeWord_15 N p1 (fun e5 =>
  jX5_takeWord_j53 N p1 e5)) N ((0 : Int32), s1))
set_option maxRecDepth 20000 in
set_option maxHeartbeats 2000000 in
theorem xX5_takeWord (N : Nat)  (p1 : Int32) (s : zq_S) : zq_X yX5_takeWord RX5 cX5_takeWord 3 none ⟨1, 0, 0, 21⟩ zv_v 0 [.ref 26, .int p1, .null] [] s (mX5_takeWord N p1 s) := by
  unfold mX5_takeWord
  refine zx_lift (pc' := 1) (fun _ => zq_aload_n rfl rfl dX5_takeWord_0 rfl) ?_
  refine zx_lift (pc' := 4) (fun _ => zt_getP zfr_X5_29 zfd_26_3 dX5_takeWord_1 rfl) ?_
  refine zx_lift (pc' := 5) (fun _ => zq_dup rfl dX5_takeWord_4 rfl) ?_
  refine zx_lift (pc' := 8) (fun _ => zt_getI zfr_X5_102 (zfd_s_8 (zgb s 2)) dX5_takeWord_5 rfl) ?_
  refine zx_lift (pc' := 9) (fun _ => zq_iconst (v := 1) dX5_takeWord_8 rfl rfl) ?_
  refine zx_lift (pc' := 10) (fun _ => zq_iadd dX5_takeWord_9 rfl) ?_
  refine zx_putI (pc' := 13) zfr_X5_102 (fun _ => ⟨rfl, rfl⟩) (zfd_s_8 (zgb s 2)) dX5_takeWord_10 rfl (fun s1 => ?_)
  refine zx_lift (pc' := 14) (fun _ => zq_iconst (v := 0) dX5_takeWord_13 rfl rfl) ?_
  refine zx_lift (pc' := 15) (fun _ => zq_istore_n (ls' := [.ref 26, .int p1, .int (0 : Int32)]) rfl (by decide) rfl rfl dX5_takeWord_14 rfl) ?_
  refine yX5_takeWord_15 N p1 _ (fun e5 => ?_) N ((0 : Int32), s1)
  exact xX5_takeWord_j53_j N p1 e5
theorem cX5_takeWord_mc (N : Nat)  (p1 : Int32) (s : zq_S) (v : Unit × zq_S) (h : mX5_takeWord N p1 s = some v) : zq_MC yX5_takeWord cX5_takeWord 3 none ⟨1, 0, 0, 21⟩ 0 0 [.ref 26, .int p1] (zq_en s) (zv_v v.1, zq_en v.2) := zq_MC_x [.ref 26, .int p1, .null] (by decide +kernel) rfl rfl (Nat.le_of_ble_eq_true rfl) (xX5_takeWord N p1 s) h
def bX5_putInAround_4 (N : Nat)  (f1 : Int32) (k68 : Int32 × zq_S → Option (Int32 × zq_S)) (self : Int32 × Int32 × zq_S → Option (Int32 × zq_S)) (v : Int32 × Int32 × zq_S) : Option (Int32 × zq_S) :=
  if f1 ≤ v.2.1 then
  k68 (v.1, v.2.2)
  else
  if (8 : Int32) ≤ v.2.1 then
  k68 (v.1, v.2.2)
  else
  zq_ck v.2.1 8 (
  zq_ck (zga v.2.2 28 v.2.1) 100 (
  zq_let (zga v.2.2 (zs (zgb v.2.2 2) + 3) (zga v.2.2 28 v.2.1)) (fun x1 =>
  zq_ck v.2.1 8 (
  zq_ck (zga v.2.2 28 v.2.1) 100 (
  zq_let (if (zga v.2.2 (zs (zgb v.2.2 2) + 2) (zga v.2.2 28 v.2.1)) = (123 : Int32) then (if x1 < (0 : Int32) then v.1 else (v.1 ||| ((1 : Int32) <<< (x1 &&& 31)))) else v.1) (fun x2 =>
  zq_let (v.2.1 + (1 : Int32)) (fun x3 =>
  self (x2, x3, v.2.2))))))))
set_option maxRecDepth 20000 in
set_option maxHeartbeats 2000000 in
theorem xX5_putInAround_4 (N : Nat)  (f1 : Int32) (k68 : Int32 × zq_S → Option (Int32 × zq_S)) (hk68 : ∀ e, zq_X yX5_putInAround RX5 cX5_putInAround 5 (some .int) ⟨0, 0, 0, 0⟩ zv_i 68 [.null, .null, .int e.1, .null, .null] [] e.2 (k68 e)) (self : Int32 × Int32 × zq_S → Option (Int32 × zq_S)) (hself : ∀ v, zq_X yX5_putInAround RX5 cX5_putInAround 5 (some .int) ⟨0, 0, 0, 0⟩ zv_i 4 [.ref 26, .int f1, .int v.1, .int v.2.1, .null] [] v.2.2 (self v)) (v : Int32 × Int32 × zq_S) : zq_X yX5_putInAround RX5 cX5_putInAround 5 (some .int) ⟨0, 0, 0, 0⟩ zv_i 4 [.ref 26, .int f1, .int v.1, .int v.2.1, .null] [] v.2.2 (bX5_putInAround_4 N f1 k68 self v) := by
  unfold bX5_putInAround_4
  refine zx_lift (pc' := 5) (fun _ => zq_iload_n rfl rfl dX5_putInAround_4 rfl) ?_
  refine zx_lift (pc' := 6) (fun _ => zq_iload_n rfl rfl dX5_putInAround_5 rfl) ?_
  refine zx_icmp_ge (pc' := 9) (tgt := 68) dX5_putInAround_6 rfl rfl (fun hc => ?_) (fun hc => ?_)
  · refine zx_less [.null, .null, .int v.1, .null, .null] (zq_cz (zq_cz (zq_cr (zq_cz (zq_cz zq_cn))))) ?_
    exact hk68 (v.1, v.2.2)
  · refine zx_lift (pc' := 10) (fun _ => zq_iload_n rfl rfl dX5_putInAround_9 rfl) ?_
    refine zx_lift (pc' := 12) (fun _ => zq_bipush (v := 8) dX5_putInAround_10 rfl rfl) ?_
    refine zx_icmp_ge (pc' := 15) (tgt := 68) dX5_putInAround_12 rfl rfl (fun hc => ?_) (fun hc => ?_)
    · refine zx_less [.null, .null, .int v.1, .null, .null] (zq_cz (zq_cz (zq_cr (zq_cz (zq_cz zq_cn))))) ?_
      exact hk68 (v.1, v.2.2)
    · refine zx_lift (pc' := 16) (fun _ => zq_aload_n rfl rfl dX5_putInAround_15 rfl) ?_
      refine zx_lift (pc' := 19) (fun _ => zt_getP zfr_X5_29 zfd_26_3 dX5_putInAround_16 rfl) ?_
      refine zx_lift (pc' := 22) (fun _ => zt_getR zfr_X5_133 (zfd_s_4 (zgb v.2.2 2)) dX5_putInAround_19 rfl) ?_
      refine zx_lift (pc' := 23) (fun _ => zq_aload_n rfl rfl dX5_putInAround_22 rfl) ?_
      refine zx_lift (pc' := 26) (fun _ => zt_getR zfr_X5_19 zfd_26_5 dX5_putInAround_23 rfl) ?_
      refine zx_lift (pc' := 27) (fun _ => zq_iload_n rfl rfl dX5_putInAround_26 rfl) ?_
      refine zx_iaload (pc' := 28) zsh_28 dX5_putInAround_27 rfl ?_
      refine zx_iaload (pc' := 29) (zsh_s3 (zgb v.2.2 2)) dX5_putInAround_28 rfl ?_
      refine zx_istore (pc' := 31) (ls' := fun x1 => [.ref 26, .int f1, .int v.1, .int v.2.1, .int x1]) (by decide) rfl (fun _ => rfl) dX5_putInAround_29 rfl (fun x1 => ?_)
      refine zx_lift (pc' := 32) (fun _ => zq_aload_n rfl rfl dX5_putInAround_31 rfl) ?_
      refine zx_lift (pc' := 35) (fun _ => zt_getP zfr_X5_29 zfd_26_3 dX5_putInAround_32 rfl) ?_
      refine zx_lift (pc' := 38) (fun _ => zt_getR zfr_X5_130 (zfd_s_3 (zgb v.2.2 2)) dX5_putInAround_35 rfl) ?_
      refine zx_lift (pc' := 39) (fun _ => zq_aload_n rfl rfl dX5_putInAround_38 rfl) ?_
      refine zx_lift (pc' := 42) (fun _ => zt_getR zfr_X5_19 zfd_26_5 dX5_putInAround_39 rfl) ?_
      refine zx_lift (pc' := 43) (fun _ => zq_iload_n rfl rfl dX5_putInAround_42 rfl) ?_
      refine zx_iaload (pc' := 44) zsh_28 dX5_putInAround_43 rfl ?_
      refine zx_iaload (pc' := 45) (zsh_s2 (zgb v.2.2 2)) dX5_putInAround_44 rfl ?_
      refine zx_lift (pc' := 47) (fun _ => zq_bipush (v := 123) dX5_putInAround_45 rfl rfl) ?_
      refine zx_tern (pcJ := 62) (lsJ := fun x2 => [.ref 26, .int f1, .int x2, .int v.2.1, .null]) (stJ := fun x2 => []) (fun x2 => ?_) (fun f hJ => ?_)
      rotate_left
      · refine zx_licmp_ne (pc' := 50) (tgt := 62) dX5_putInAround_47 rfl rfl (fun _ => ?_) (fun _ => ?_)
        · exact zx_lessJ (zq_cr (zq_cr (zq_cr (zq_cr (zq_cz zq_cn))))) (hJ _)
        · refine zx_lift (pc' := 52) (fun _ => zq_iload rfl dX5_putInAround_50 rfl) ?_
          refine zx_lif_lt (pc' := 55) (tgt := 62) dX5_putInAround_52 rfl rfl (fun _ => ?_) (fun _ => ?_)
          · exact zx_lessJ (zq_cr (zq_cr (zq_cr (zq_cr (zq_cz zq_cn))))) (hJ _)
          · refine zx_lift (pc' := 56) (fun _ => zq_iload_n rfl rfl dX5_putInAround_55 rfl) ?_
            refine zx_lift (pc' := 57) (fun _ => zq_iconst (v := 1) dX5_putInAround_56 rfl rfl) ?_
            refine zx_lift (pc' := 59) (fun _ => zq_iload rfl dX5_putInAround_57 rfl) ?_
            refine zx_lift (pc' := 60) (fun _ => zq_ishl dX5_putInAround_59 rfl) ?_
            refine zx_lift (pc' := 61) (fun _ => zq_ior dX5_putInAround_60 rfl) ?_
            refine zx_lift (pc' := 62) (fun _ => zq_istore_n (ls' := [.ref 26, .int f1, .int (v.1 ||| ((1 : Int32) <<< (x1 &&& 31))), .int v.2.1, .int x1]) rfl (by decide) rfl rfl dX5_putInAround_61 rfl) ?_
            exact zx_lessJ (zq_cr (zq_cr (zq_cr (zq_cr (zq_cz zq_cn))))) (hJ _)
      refine zx_iinc (pc' := 65) (ls' := fun x3 => [.ref 26, .int f1, .int x2, .int x3, .null]) rfl rfl (by decide) rfl (fun _ => rfl) dX5_putInAround_62 rfl (fun x3 => ?_)
      refine zx_lift (pc' := 4) (fun _ => zq_goto dX5_putInAround_65 rfl) ?_
      exact hself (x2, x3, v.2.2)
theorem yX5_putInAround_4 (N : Nat)  (f1 : Int32) (k68 : Int32 × zq_S → Option (Int32 × zq_S)) (hk68 : ∀ e, zq_X yX5_putInAround RX5 cX5_putInAround 5 (some .int) ⟨0, 0, 0, 0⟩ zv_i 68 [.null, .null, .int e.1, .null, .null] [] e.2 (k68 e)) (n : Nat) : ∀ v : Int32 × Int32 × zq_S, zq_X yX5_putInAround RX5 cX5_putInAround 5 (some .int) ⟨0, 0, 0, 0⟩ zv_i 4 [.ref 26, .int f1, .int v.1, .int v.2.1, .null] [] v.2.2 (zq_loop (bX5_putInAround_4 N f1 k68) n v) := by
  induction n with
  | zero => exact fun v u hu => by cases hu
  | succ n ih =>
    intro v
    rw [zq_loop_s]
    exact xX5_putInAround_4 N f1 k68 hk68 (zq_loop (bX5_putInAround_4 N f1 k68) n) ih v
def jX5_putInAround_j68 (N : Nat)   (w2 : Int32) (s : zq_S) : Option (Int32 × zq_S) :=
  some (w2, s)
set_option maxRecDepth 20000 in
set_option maxHeartbeats 2000000 in
theorem xX5_putInAround_j68_j (N : Nat)   (w2 : Int32) (s : zq_S) : zq_X yX5_putInAround RX5 cX5_putInAround 5 (some .int) ⟨0, 0, 0, 0⟩ zv_i 68 [.null, .null, .int w2, .null, .null] [] s (jX5_putInAround_j68 N w2 s) := by
  unfold jX5_putInAround_j68
  refine zx_lift (pc' := 69) (fun _ => zq_iload_n rfl rfl dX5_putInAround_68 rfl) ?_
  exact zx_iret rfl dX5_putInAround_69
def mX5_putInAround (N : Nat)  (p1 : Int32) (s : zq_S) : Option (Int32 × zq_S) :=
  zq_loop (bX5_putInAround_4 N p1 (fun e4 =>
  jX5_putInAround_j68 N e4.1 e4.2)) N ((0 : Int32), (0 : Int32), s)
set_option maxRecDepth 20000 in
set_option maxHeartbeats 2000000 in
theorem xX5_putInAround (N : Nat)  (p1 : Int32) (s : zq_S) : zq_X yX5_putInAround RX5 cX5_putInAround 5 (some .int) ⟨0, 0, 0, 0⟩ zv_i 0 [.ref 26, .int p1, .null, .null, .null] [] s (mX5_putInAround N p1 s) := by
  unfold mX5_putInAround
  refine zx_lift (pc' := 1) (fun _ => zq_iconst (v := 0) dX5_putInAround_0 rfl rfl) ?_
  refine zx_lift (pc' := 2) (fun _ => zq_istore_n (ls' := [.ref 26, .int p1, .int (0 : Int32), .null, .null]) rfl (by decide) rfl rfl dX5_putInAround_1 rfl) ?_
  refine zx_lift (pc' := 3) (fun _ => zq_iconst (v := 0) dX5_putInAround_2 rfl rfl) ?_
  refine zx_lift (pc' := 4) (fun _ => zq_istore_n (ls' := [.ref 26, .int p1, .int (0 : Int32), .int (0 : Int32), .null]) rfl (by decide) rfl rfl dX5_putInAround_3 rfl) ?_
  refine yX5_putInAround_4 N p1 _ (fun e4 => ?_) N ((0 : Int32), (0 : Int32), s)
  exact xX5_putInAround_j68_j N e4.1 e4.2
theorem cX5_putInAround_mc (N : Nat)  (p1 : Int32) (s : zq_S) (v : Int32 × zq_S) (h : mX5_putInAround N p1 s = some v) : zq_MC yX5_putInAround cX5_putInAround 5 (some .int) ⟨0, 0, 0, 0⟩ 0 0 [.ref 26, .int p1] (zq_en s) (zv_i v.1, zq_en v.2) := zq_MC_x [.ref 26, .int p1, .null, .null, .null] (by decide +kernel) rfl rfl (Nat.le_of_ble_eq_true rfl) (xX5_putInAround N p1 s) h
def mX7_tell (N : Nat) (b0 : Bool) (p1 : Int32) (p2 : Int32) (p3 : Int32) (p4 : Int32) (s : zq_S) : Option (Unit × zq_S) :=
  zq_ck p1 10 (
  zq_let (zpa s (zs b0 + 5) p1 p2) (fun s1 =>
  zq_ck p1 10 (
  zq_let (zpa s1 (zs b0 + 8) p1 p3) (fun s2 =>
  zq_ck p1 10 (
  zq_ck p1 10 (
  zq_let (zpa s2 (zs b0 + 6) p1 ((zga s2 (zs b0 + 6) p1) ||| p4)) (fun s3 =>
  some ((), s3))))))))
set_option maxRecDepth 20000 in
set_option maxHeartbeats 2000000 in
theorem xX7_tell (N : Nat) (b0 : Bool) (p1 : Int32) (p2 : Int32) (p3 : Int32) (p4 : Int32) (s : zq_S) : zq_X yX7_tell RX7 cX7_tell 5 none ⟨0, 0, 0, 0⟩ zv_v 0 [.ref (zs b0), .int p1, .int p2, .int p3, .int p4] [] s (mX7_tell N b0 p1 p2 p3 p4 s) := by
  unfold mX7_tell
  refine zx_lift (pc' := 1) (fun _ => zq_aload_n rfl rfl dX7_tell_0 rfl) ?_
  refine zx_lift (pc' := 4) (fun _ => zt_getR zfr_X7_25 (zfd_s_9 b0) dX7_tell_1 rfl) ?_
  refine zx_lift (pc' := 5) (fun _ => zq_iload_n rfl rfl dX7_tell_4 rfl) ?_
  refine zx_lift (pc' := 6) (fun _ => zq_iload_n rfl rfl dX7_tell_5 rfl) ?_
  refine zx_iastore (pc' := 7) (zsh_s5 b0) dX7_tell_6 rfl (fun s1 => ?_)
  refine zx_lift (pc' := 8) (fun _ => zq_aload_n rfl rfl dX7_tell_7 rfl) ?_
  refine zx_lift (pc' := 11) (fun _ => zt_getR zfr_X7_34 (zfd_s_12 b0) dX7_tell_8 rfl) ?_
  refine zx_lift (pc' := 12) (fun _ => zq_iload_n rfl rfl dX7_tell_11 rfl) ?_
  refine zx_lift (pc' := 13) (fun _ => zq_iload_n rfl rfl dX7_tell_12 rfl) ?_
  refine zx_iastore (pc' := 14) (zsh_s8 b0) dX7_tell_13 rfl (fun s2 => ?_)
  refine zx_lift (pc' := 15) (fun _ => zq_aload_n rfl rfl dX7_tell_14 rfl) ?_
  refine zx_lift (pc' := 18) (fun _ => zt_getR zfr_X7_28 (zfd_s_10 b0) dX7_tell_15 rfl) ?_
  refine zx_lift (pc' := 19) (fun _ => zq_iload_n rfl rfl dX7_tell_18 rfl) ?_
  refine zx_lift (pc' := 20) (fun _ => zq_dup2 rfl rfl dX7_tell_19 rfl) ?_
  refine zx_iaload (pc' := 21) (zsh_s6 b0) dX7_tell_20 rfl ?_
  refine zx_lift (pc' := 23) (fun _ => zq_iload rfl dX7_tell_21 rfl) ?_
  refine zx_lift (pc' := 24) (fun _ => zq_ior dX7_tell_23 rfl) ?_
  refine zx_iastore (pc' := 25) (zsh_s6 b0) dX7_tell_24 rfl (fun s3 => ?_)
  exact zx_vret rfl dX7_tell_25
theorem cX7_tell_mc (N : Nat) (b0 : Bool) (p1 : Int32) (p2 : Int32) (p3 : Int32) (p4 : Int32) (s : zq_S) (v : Unit × zq_S) (h : mX7_tell N b0 p1 p2 p3 p4 s = some v) : zq_MC yX7_tell cX7_tell 5 none ⟨0, 0, 0, 0⟩ 0 0 [.ref (zs b0), .int p1, .int p2, .int p3, .int p4] (zq_en s) (zv_v v.1, zq_en v.2) := zq_MC_x [.ref (zs b0), .int p1, .int p2, .int p3, .int p4] (by decide +kernel) rfl rfl (Nat.le_of_ble_eq_true rfl) (xX7_tell N b0 p1 p2 p3 p4 s) h
def jX5_takeBracketMark_j100 (N : Nat)   (w1 : Int32) (w3 : Int32) (s : zq_S) : Option (Unit × zq_S) :=
  zq_let (zpf s 26 7 ((zgf s 26 7) ||| ((1 : Int32) <<< (w1 &&& 31)))) (fun s11 =>
  zq_let (if w3 = (91 : Int32) then (2 : Int32) else (1 : Int32)) (fun x12 =>
  zq_let (zpf s11 26 4 x12) (fun s13 =>
  some ((), s13))))
set_option maxRecDepth 20000 in
set_option maxHeartbeats 2000000 in
theorem xX5_takeBracketMark_j100_j (N : Nat)   (w1 : Int32) (w3 : Int32) (s : zq_S) : zq_X yX5_takeBracketMark RX5 cX5_takeBracketMark 5 none ⟨1, 0, 0, 24⟩ zv_v 100 [.ref 26, .int w1, .null, .int w3, .null] [] s (jX5_takeBracketMark_j100 N w1 w3 s) := by
  unfold jX5_takeBracketMark_j100
  refine zx_lift (pc' := 101) (fun _ => zq_aload_n rfl rfl dX5_takeBracketMark_100 rfl) ?_
  refine zx_lift (pc' := 102) (fun _ => zq_dup rfl dX5_takeBracketMark_101 rfl) ?_
  refine zx_lift (pc' := 105) (fun _ => zt_getI zfr_X5_58 zfd_26_7 dX5_takeBracketMark_102 rfl) ?_
  refine zx_lift (pc' := 106) (fun _ => zq_iconst (v := 1) dX5_takeBracketMark_105 rfl rfl) ?_
  refine zx_lift (pc' := 107) (fun _ => zq_iload_n rfl rfl dX5_takeBracketMark_106 rfl) ?_
  refine zx_lift (pc' := 108) (fun _ => zq_ishl dX5_takeBracketMark_107 rfl) ?_
  refine zx_lift (pc' := 109) (fun _ => zq_ior dX5_takeBracketMark_108 rfl) ?_
  refine zx_putI (pc' := 112) zfr_X5_58 (fun _ => ⟨rfl, rfl⟩) zfd_26_7 dX5_takeBracketMark_109 rfl (fun s11 => ?_)
  refine zx_lift (pc' := 113) (fun _ => zq_aload_n rfl rfl dX5_takeBracketMark_112 rfl) ?_
  refine zx_lift (pc' := 114) (fun _ => zq_iload_n rfl rfl dX5_takeBracketMark_113 rfl) ?_
  refine zx_lift (pc' := 116) (fun _ => zq_bipush (v := 91) dX5_takeBracketMark_114 rfl rfl) ?_
  refine zx_tern (pcJ := 124) (lsJ := fun x12 => [.null, .null, .null, .null, .null]) (stJ := fun x12 => [.int x12, .ref 26]) (fun x12 => ?_) (fun f hJ => ?_)
  rotate_left
  · refine zx_licmp_ne (pc' := 119) (tgt := 123) dX5_takeBracketMark_116 rfl rfl (fun _ => ?_) (fun _ => ?_)
    · refine zx_lift (pc' := 124) (fun _ => zq_iconst (v := 1) dX5_takeBracketMark_123 rfl rfl) ?_
      exact zx_lessJ (zq_cz (zq_cz (zq_cz (zq_cz (zq_cz zq_cn))))) (hJ _)
    · refine zx_lift (pc' := 120) (fun _ => zq_iconst (v := 2) dX5_takeBracketMark_119 rfl rfl) ?_
      refine zx_lift (pc' := 124) (fun _ => zq_goto dX5_takeBracketMark_120 rfl) ?_
      exact zx_lessJ (zq_cz (zq_cz (zq_cz (zq_cz (zq_cz zq_cn))))) (hJ _)
  refine zx_putI (pc' := 127) zfr_X5_48 (fun _ => ⟨rfl, rfl⟩) zfd_26_4 dX5_takeBracketMark_124 rfl (fun s13 => ?_)
  exact zx_vret rfl dX5_takeBracketMark_127
def mX5_takeBracketMark (N : Nat)  (p1 : Int32) (s : zq_S) : Option (Unit × zq_S) :=
  zq_b2 (mX5_innermost N s) (fun r1 s2 =>
  zq_ck r1 100 (
  zq_let (zga s2 (zs (zgb s2 2) + 2) r1) (fun x3 =>
  zq_ck r1 100 (
  zq_let (zpa s2 (zs (zgb s2 2) + 3) r1 p1) (fun s4 =>
  zq_ck p1 10 (
  zq_let (zpa s4 (zs (zgb s4 2) + 9) p1 r1) (fun s5 =>
  zq_let (if x3 = (123 : Int32) then (0 : Int32) else (if x3 = (91 : Int32) then (1 : Int32) else (3 : Int32))) (fun x6 =>
  zq_b2 (mX5_putInAround N ((zgf s5 26 6) - (1 : Int32)) s5) (fun r7 s8 =>
  zq_b2 (mX7_tell N (zgb s5 2) p1 x6 ((zgf s5 26 6) - (1 : Int32)) r7 s8) (fun r9 s10 =>
  if x3 = (60 : Int32) then
  zq_ck p1 10 (
  zq_let (zpa s10 30 p1 (zgf s10 26 9)) (fun s14 =>
  jX5_takeBracketMark_j100 N p1 x3 s14))
  else
  jX5_takeBracketMark_j100 N p1 x3 s10))))))))))
set_option maxRecDepth 20000 in
set_option maxHeartbeats 2000000 in
theorem xX5_takeBracketMark (N : Nat)  (p1 : Int32) (s : zq_S) : zq_X yX5_takeBracketMark RX5 cX5_takeBracketMark 5 none ⟨1, 0, 0, 24⟩ zv_v 0 [.ref 26, .int p1, .null, .null, .null] [] s (mX5_takeBracketMark N p1 s) := by
  unfold mX5_takeBracketMark
  refine zx_lift (pc' := 1) (fun _ => zq_aload_n rfl rfl dX5_takeBracketMark_0 rfl) ?_
  refine zx_cVi (pc' := 4) zcv_X5_127 (cX5_innermost_mc N s) zob_26 rfl (by decide) (Nat.le_of_ble_eq_true rfl) dX5_takeBracketMark_1 rfl rfl (fun r1 s2 => ?_)
  refine zx_lift (pc' := 5) (fun _ => zq_istore_n (ls' := [.ref 26, .int p1, .int r1, .null, .null]) rfl (by decide) rfl rfl dX5_takeBracketMark_4 rfl) ?_
  refine zx_lift (pc' := 6) (fun _ => zq_aload_n rfl rfl dX5_takeBracketMark_5 rfl) ?_
  refine zx_lift (pc' := 9) (fun _ => zt_getP zfr_X5_29 zfd_26_3 dX5_takeBracketMark_6 rfl) ?_
  refine zx_lift (pc' := 12) (fun _ => zt_getR zfr_X5_130 (zfd_s_3 (zgb s2 2)) dX5_takeBracketMark_9 rfl) ?_
  refine zx_lift (pc' := 13) (fun _ => zq_iload_n rfl rfl dX5_takeBracketMark_12 rfl) ?_
  refine zx_iaload (pc' := 14) (zsh_s2 (zgb s2 2)) dX5_takeBracketMark_13 rfl ?_
  refine zx_istore_n (pc' := 15) (ls' := fun x3 => [.ref 26, .int p1, .int r1, .int x3, .null]) rfl (by decide) rfl (fun _ => rfl) dX5_takeBracketMark_14 rfl (fun x3 => ?_)
  refine zx_lift (pc' := 16) (fun _ => zq_aload_n rfl rfl dX5_takeBracketMark_15 rfl) ?_
  refine zx_lift (pc' := 19) (fun _ => zt_getP zfr_X5_29 zfd_26_3 dX5_takeBracketMark_16 rfl) ?_
  refine zx_lift (pc' := 22) (fun _ => zt_getR zfr_X5_133 (zfd_s_4 (zgb s2 2)) dX5_takeBracketMark_19 rfl) ?_
  refine zx_lift (pc' := 23) (fun _ => zq_iload_n rfl rfl dX5_takeBracketMark_22 rfl) ?_
  refine zx_lift (pc' := 24) (fun _ => zq_iload_n rfl rfl dX5_takeBracketMark_23 rfl) ?_
  refine zx_iastore (pc' := 25) (zsh_s3 (zgb s2 2)) dX5_takeBracketMark_24 rfl (fun s4 => ?_)
  refine zx_lift (pc' := 26) (fun _ => zq_aload_n rfl rfl dX5_takeBracketMark_25 rfl) ?_
  refine zx_lift (pc' := 29) (fun _ => zt_getP zfr_X5_29 zfd_26_3 dX5_takeBracketMark_26 rfl) ?_
  refine zx_lift (pc' := 32) (fun _ => zt_getR zfr_X5_136 (zfd_s_13 (zgb s4 2)) dX5_takeBracketMark_29 rfl) ?_
  refine zx_lift (pc' := 33) (fun _ => zq_iload_n rfl rfl dX5_takeBracketMark_32 rfl) ?_
  refine zx_lift (pc' := 34) (fun _ => zq_iload_n rfl rfl dX5_takeBracketMark_33 rfl) ?_
  refine zx_iastore (pc' := 35) (zsh_s9 (zgb s4 2)) dX5_takeBracketMark_34 rfl (fun s5 => ?_)
  refine zx_lift (pc' := 36) (fun _ => zq_iload_n rfl rfl dX5_takeBracketMark_35 rfl) ?_
  refine zx_lift (pc' := 38) (fun _ => zq_bipush (v := 123) dX5_takeBracketMark_36 rfl rfl) ?_
  refine zx_tern (pcJ := 56) (lsJ := fun x6 => [.ref 26, .int p1, .null, .int x3, .null]) (stJ := fun x6 => [.int x6]) (fun x6 => ?_) (fun f hJ => ?_)
  rotate_left
  · refine zx_licmp_ne (pc' := 41) (tgt := 45) dX5_takeBracketMark_38 rfl rfl (fun _ => ?_) (fun _ => ?_)
    · refine zx_lift (pc' := 46) (fun _ => zq_iload_n rfl rfl dX5_takeBracketMark_45 rfl) ?_
      refine zx_lift (pc' := 48) (fun _ => zq_bipush (v := 91) dX5_takeBracketMark_46 rfl rfl) ?_
      refine zx_licmp_ne (pc' := 51) (tgt := 55) dX5_takeBracketMark_48 rfl rfl (fun _ => ?_) (fun _ => ?_)
      · refine zx_lift (pc' := 56) (fun _ => zq_iconst (v := 3) dX5_takeBracketMark_55 rfl rfl) ?_
        exact zx_lessJ (zq_cr (zq_cr (zq_cz (zq_cr (zq_cz zq_cn))))) (hJ _)
      · refine zx_lift (pc' := 52) (fun _ => zq_iconst (v := 1) dX5_takeBracketMark_51 rfl rfl) ?_
        refine zx_lift (pc' := 56) (fun _ => zq_goto dX5_takeBracketMark_52 rfl) ?_
        exact zx_lessJ (zq_cr (zq_cr (zq_cz (zq_cr (zq_cz zq_cn))))) (hJ _)
    · refine zx_lift (pc' := 42) (fun _ => zq_iconst (v := 0) dX5_takeBracketMark_41 rfl rfl) ?_
      refine zx_lift (pc' := 56) (fun _ => zq_goto dX5_takeBracketMark_42 rfl) ?_
      exact zx_lessJ (zq_cr (zq_cr (zq_cz (zq_cr (zq_cz zq_cn))))) (hJ _)
  refine zx_lift (pc' := 58) (fun _ => zq_istore (ls' := [.ref 26, .int p1, .null, .int x3, .int x6]) (by decide) rfl rfl dX5_takeBracketMark_56 rfl) ?_
  refine zx_lift (pc' := 59) (fun _ => zq_aload_n rfl rfl dX5_takeBracketMark_58 rfl) ?_
  refine zx_lift (pc' := 62) (fun _ => zt_getP zfr_X5_29 zfd_26_3 dX5_takeBracketMark_59 rfl) ?_
  refine zx_lift (pc' := 63) (fun _ => zq_iload_n rfl rfl dX5_takeBracketMark_62 rfl) ?_
  refine zx_lift (pc' := 65) (fun _ => zq_iload rfl dX5_takeBracketMark_63 rfl) ?_
  refine zx_lift (pc' := 66) (fun _ => zq_aload_n rfl rfl dX5_takeBracketMark_65 rfl) ?_
  refine zx_lift (pc' := 69) (fun _ => zt_getI zfr_X5_51 zfd_26_6 dX5_takeBracketMark_66 rfl) ?_
  refine zx_lift (pc' := 70) (fun _ => zq_iconst (v := 1) dX5_takeBracketMark_69 rfl rfl) ?_
  refine zx_lift (pc' := 71) (fun _ => zq_isub dX5_takeBracketMark_70 rfl) ?_
  refine zx_lift (pc' := 72) (fun _ => zq_aload_n rfl rfl dX5_takeBracketMark_71 rfl) ?_
  refine zx_lift (pc' := 73) (fun _ => zq_aload_n rfl rfl dX5_takeBracketMark_72 rfl) ?_
  refine zx_lift (pc' := 76) (fun _ => zt_getI zfr_X5_51 zfd_26_6 dX5_takeBracketMark_73 rfl) ?_
  refine zx_lift (pc' := 77) (fun _ => zq_iconst (v := 1) dX5_takeBracketMark_76 rfl rfl) ?_
  refine zx_lift (pc' := 78) (fun _ => zq_isub dX5_takeBracketMark_77 rfl) ?_
  refine zx_cVi (pc' := 81) zcv_X5_139 (cX5_putInAround_mc N ((zgf s5 26 6) - (1 : Int32)) s5) zob_26 rfl (by decide) (Nat.le_of_ble_eq_true rfl) dX5_takeBracketMark_78 rfl rfl (fun r7 s8 => ?_)
  refine zx_cVv (pc' := 84) zcv_X5_142 (cX7_tell_mc N (zgb s5 2) p1 x6 ((zgf s5 26 6) - (1 : Int32)) r7 s8) (zob_s (zgb s5 2)) rfl (by decide) (Nat.le_of_ble_eq_true rfl) dX5_takeBracketMark_81 rfl rfl (fun r9 s10 => ?_)
  refine zx_lift (pc' := 85) (fun _ => zq_iload_n rfl rfl dX5_takeBracketMark_84 rfl) ?_
  refine zx_lift (pc' := 87) (fun _ => zq_bipush (v := 60) dX5_takeBracketMark_85 rfl rfl) ?_
  refine zx_icmp_ne (pc' := 90) (tgt := 100) dX5_takeBracketMark_87 rfl rfl (fun hc => ?_) (fun hc => ?_)
  · refine zx_less [.ref 26, .int p1, .null, .int x3, .null] (zq_cr (zq_cr (zq_cz (zq_cr (zq_cz zq_cn))))) ?_
    exact xX5_takeBracketMark_j100_j N p1 x3 s10
  · refine zx_lift (pc' := 91) (fun _ => zq_aload_n rfl rfl dX5_takeBracketMark_90 rfl) ?_
    refine zx_lift (pc' := 94) (fun _ => zt_getR zfr_X5_26 zfd_26_11 dX5_takeBracketMark_91 rfl) ?_
    refine zx_lift (pc' := 95) (fun _ => zq_iload_n rfl rfl dX5_takeBracketMark_94 rfl) ?_
    refine zx_lift (pc' := 96) (fun _ => zq_aload_n rfl rfl dX5_takeBracketMark_95 rfl) ?_
    refine zx_lift (pc' := 99) (fun _ => zt_getI zfr_X5_77 zfd_26_9 dX5_takeBracketMark_96 rfl) ?_
    refine zx_iastore (pc' := 100) zsh_30 dX5_takeBracketMark_99 rfl (fun s14 => ?_)
    refine zx_less [.ref 26, .int p1, .null, .int x3, .null] (zq_cr (zq_cr (zq_cz (zq_cr (zq_cz zq_cn))))) ?_
    exact xX5_takeBracketMark_j100_j N p1 x3 s14
theorem cX5_takeBracketMark_mc (N : Nat)  (p1 : Int32) (s : zq_S) (v : Unit × zq_S) (h : mX5_takeBracketMark N p1 s = some v) : zq_MC yX5_takeBracketMark cX5_takeBracketMark 5 none ⟨1, 0, 0, 24⟩ 0 0 [.ref 26, .int p1] (zq_en s) (zv_v v.1, zq_en v.2) := zq_MC_x [.ref 26, .int p1, .null, .null, .null] (by decide +kernel) rfl rfl (Nat.le_of_ble_eq_true rfl) (xX5_takeBracketMark N p1 s) h
