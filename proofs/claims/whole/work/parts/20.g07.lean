def jX5_takeStandMark_j56 (N : Nat)   (w1 : Int32) (s : zq_S) : Option (Unit × zq_S) :=
  zq_let (zpf s 26 7 ((zgf s 26 7) ||| ((1 : Int32) <<< (w1 &&& 31)))) (fun s4 =>
  zq_let (zpf s4 26 4 (1 : Int32)) (fun s5 =>
  some ((), s5)))
set_option maxRecDepth 20000 in
set_option maxHeartbeats 2000000 in
theorem xX5_takeStandMark_j56_j (N : Nat)   (w1 : Int32) (s : zq_S) : zq_X yX5_takeStandMark RX5 cX5_takeStandMark 3 none ⟨1, 0, 0, 24⟩ zv_v 56 [.ref 26, .int w1, .null] [] s (jX5_takeStandMark_j56 N w1 s) := by
  unfold jX5_takeStandMark_j56
  refine zx_lift (pc' := 57) (fun _ => zq_aload_n rfl rfl dX5_takeStandMark_56 rfl) ?_
  refine zx_lift (pc' := 58) (fun _ => zq_dup rfl dX5_takeStandMark_57 rfl) ?_
  refine zx_lift (pc' := 61) (fun _ => zt_getI zfr_X5_58 zfd_26_7 dX5_takeStandMark_58 rfl) ?_
  refine zx_lift (pc' := 62) (fun _ => zq_iconst (v := 1) dX5_takeStandMark_61 rfl rfl) ?_
  refine zx_lift (pc' := 63) (fun _ => zq_iload_n rfl rfl dX5_takeStandMark_62 rfl) ?_
  refine zx_lift (pc' := 64) (fun _ => zq_ishl dX5_takeStandMark_63 rfl) ?_
  refine zx_lift (pc' := 65) (fun _ => zq_ior dX5_takeStandMark_64 rfl) ?_
  refine zx_putI (pc' := 68) zfr_X5_58 (fun _ => ⟨rfl, rfl⟩) zfd_26_7 dX5_takeStandMark_65 rfl (fun s4 => ?_)
  refine zx_lift (pc' := 69) (fun _ => zq_aload_n rfl rfl dX5_takeStandMark_68 rfl) ?_
  refine zx_lift (pc' := 70) (fun _ => zq_iconst (v := 1) dX5_takeStandMark_69 rfl rfl) ?_
  refine zx_putI (pc' := 73) zfr_X5_48 (fun _ => ⟨rfl, rfl⟩) zfd_26_4 dX5_takeStandMark_70 rfl (fun s5 => ?_)
  exact zx_vret rfl dX5_takeStandMark_73
def mX5_takeStandMark (N : Nat)  (p1 : Int32) (s : zq_S) : Option (Unit × zq_S) :=
  zq_b2 (mX5_innermost N s) (fun r1 s2 =>
  zq_ck r1 100 (
  zq_let (zga s2 (zs (zgb s 2) + 3) r1) (fun x3 =>
  if x3 < (0 : Int32) then
  jX5_takeStandMark_j56 N p1 s2
  else
  zq_ck x3 10 (
  zq_let (zpa s2 (zs (zgb s2 2) + 11) x3 p1) (fun s6 =>
  zq_b2 (mX5_putInAround N ((zgf s6 26 6) - (1 : Int32)) s6) (fun r7 s8 =>
  zq_b2 (mX7_tell N (zgb s6 2) p1 (2 : Int32) ((zgf s6 26 6) - (1 : Int32)) (r7 ||| ((1 : Int32) <<< (x3 &&& 31))) s8) (fun r9 s10 =>
  jX5_takeStandMark_j56 N p1 s10)))))))
set_option maxRecDepth 20000 in
set_option maxHeartbeats 2000000 in
theorem xX5_takeStandMark (N : Nat)  (p1 : Int32) (s : zq_S) : zq_X yX5_takeStandMark RX5 cX5_takeStandMark 3 none ⟨1, 0, 0, 24⟩ zv_v 0 [.ref 26, .int p1, .null] [] s (mX5_takeStandMark N p1 s) := by
  unfold mX5_takeStandMark
  refine zx_lift (pc' := 1) (fun _ => zq_aload_n rfl rfl dX5_takeStandMark_0 rfl) ?_
  refine zx_lift (pc' := 4) (fun _ => zt_getP zfr_X5_29 zfd_26_3 dX5_takeStandMark_1 rfl) ?_
  refine zx_lift (pc' := 7) (fun _ => zt_getR zfr_X5_133 (zfd_s_4 (zgb s 2)) dX5_takeStandMark_4 rfl) ?_
  refine zx_lift (pc' := 8) (fun _ => zq_aload_n rfl rfl dX5_takeStandMark_7 rfl) ?_
  refine zx_cVi (pc' := 11) zcv_X5_127 (cX5_innermost_mc N s) zob_26 rfl (by decide) (Nat.le_of_ble_eq_true rfl) dX5_takeStandMark_8 rfl rfl (fun r1 s2 => ?_)
  refine zx_iaload (pc' := 12) (zsh_s3 (zgb s 2)) dX5_takeStandMark_11 rfl ?_
  refine zx_istore_n (pc' := 13) (ls' := fun x3 => [.ref 26, .int p1, .int x3]) rfl (by decide) rfl (fun _ => rfl) dX5_takeStandMark_12 rfl (fun x3 => ?_)
  refine zx_lift (pc' := 14) (fun _ => zq_iload_n rfl rfl dX5_takeStandMark_13 rfl) ?_
  refine zx_if_lt (pc' := 17) (tgt := 56) dX5_takeStandMark_14 rfl rfl (fun hc => ?_) (fun hc => ?_)
  · refine zx_less [.ref 26, .int p1, .null] (zq_cr (zq_cr (zq_cz zq_cn))) ?_
    exact xX5_takeStandMark_j56_j N p1 s2
  · refine zx_lift (pc' := 18) (fun _ => zq_aload_n rfl rfl dX5_takeStandMark_17 rfl) ?_
    refine zx_lift (pc' := 21) (fun _ => zt_getP zfr_X5_29 zfd_26_3 dX5_takeStandMark_18 rfl) ?_
    refine zx_lift (pc' := 24) (fun _ => zt_getR zfr_X5_146 (zfd_s_15 (zgb s2 2)) dX5_takeStandMark_21 rfl) ?_
    refine zx_lift (pc' := 25) (fun _ => zq_iload_n rfl rfl dX5_takeStandMark_24 rfl) ?_
    refine zx_lift (pc' := 26) (fun _ => zq_iload_n rfl rfl dX5_takeStandMark_25 rfl) ?_
    refine zx_iastore (pc' := 27) (zsh_s11 (zgb s2 2)) dX5_takeStandMark_26 rfl (fun s6 => ?_)
    refine zx_lift (pc' := 28) (fun _ => zq_aload_n rfl rfl dX5_takeStandMark_27 rfl) ?_
    refine zx_lift (pc' := 31) (fun _ => zt_getP zfr_X5_29 zfd_26_3 dX5_takeStandMark_28 rfl) ?_
    refine zx_lift (pc' := 32) (fun _ => zq_iload_n rfl rfl dX5_takeStandMark_31 rfl) ?_
    refine zx_lift (pc' := 33) (fun _ => zq_iconst (v := 2) dX5_takeStandMark_32 rfl rfl) ?_
    refine zx_lift (pc' := 34) (fun _ => zq_aload_n rfl rfl dX5_takeStandMark_33 rfl) ?_
    refine zx_lift (pc' := 37) (fun _ => zt_getI zfr_X5_51 zfd_26_6 dX5_takeStandMark_34 rfl) ?_
    refine zx_lift (pc' := 38) (fun _ => zq_iconst (v := 1) dX5_takeStandMark_37 rfl rfl) ?_
    refine zx_lift (pc' := 39) (fun _ => zq_isub dX5_takeStandMark_38 rfl) ?_
    refine zx_lift (pc' := 40) (fun _ => zq_aload_n rfl rfl dX5_takeStandMark_39 rfl) ?_
    refine zx_lift (pc' := 41) (fun _ => zq_aload_n rfl rfl dX5_takeStandMark_40 rfl) ?_
    refine zx_lift (pc' := 44) (fun _ => zt_getI zfr_X5_51 zfd_26_6 dX5_takeStandMark_41 rfl) ?_
    refine zx_lift (pc' := 45) (fun _ => zq_iconst (v := 1) dX5_takeStandMark_44 rfl rfl) ?_
    refine zx_lift (pc' := 46) (fun _ => zq_isub dX5_takeStandMark_45 rfl) ?_
    refine zx_cVi (pc' := 49) zcv_X5_139 (cX5_putInAround_mc N ((zgf s6 26 6) - (1 : Int32)) s6) zob_26 rfl (by decide) (Nat.le_of_ble_eq_true rfl) dX5_takeStandMark_46 rfl rfl (fun r7 s8 => ?_)
    refine zx_lift (pc' := 50) (fun _ => zq_iconst (v := 1) dX5_takeStandMark_49 rfl rfl) ?_
    refine zx_lift (pc' := 51) (fun _ => zq_iload_n rfl rfl dX5_takeStandMark_50 rfl) ?_
    refine zx_lift (pc' := 52) (fun _ => zq_ishl dX5_takeStandMark_51 rfl) ?_
    refine zx_lift (pc' := 53) (fun _ => zq_ior dX5_takeStandMark_52 rfl) ?_
    refine zx_cVv (pc' := 56) zcv_X5_142 (cX7_tell_mc N (zgb s6 2) p1 (2 : Int32) ((zgf s6 26 6) - (1 : Int32)) (r7 ||| ((1 : Int32) <<< (x3 &&& 31))) s8) (zob_s (zgb s6 2)) rfl (by decide) (Nat.le_of_ble_eq_true rfl) dX5_takeStandMark_53 rfl rfl (fun r9 s10 => ?_)
    refine zx_less [.ref 26, .int p1, .null] (zq_cr (zq_cr (zq_cz zq_cn))) ?_
    exact xX5_takeStandMark_j56_j N p1 s10
theorem cX5_takeStandMark_mc (N : Nat)  (p1 : Int32) (s : zq_S) (v : Unit × zq_S) (h : mX5_takeStandMark N p1 s = some v) : zq_MC yX5_takeStandMark cX5_takeStandMark 3 none ⟨1, 0, 0, 24⟩ 0 0 [.ref 26, .int p1] (zq_en s) (zv_v v.1, zq_en v.2) := zq_MC_x [.ref 26, .int p1, .null] (by decide +kernel) rfl rfl (Nat.le_of_ble_eq_true rfl) (xX5_takeStandMark N p1 s) h
def mX5_takeStarMark (N : Nat)  (p1 : Int32) (s : zq_S) : Option (Unit × zq_S) :=
  zq_b2 (mJ9_max_7cf53 N (0 : Int32) ((zgf s (zs (zgb s 2)) 6) - (1 : Int32)) s) (fun r1 s2 =>
  zq_ck r1 100 (
  zq_let (zpa s2 (zs (zgb s2 2) + 3) r1 p1) (fun s3 =>
  zq_ck p1 10 (
  zq_let (zpa s3 (zs (zgb s3 2) + 10) p1 r1) (fun s4 =>
  zq_ck p1 10 (
  zq_b2 (mX5_putInAround N (zgf s4 26 6) s4) (fun r5 s6 =>
  zq_ck p1 10 (
  zq_let (zpa s6 (zs (zgb s4 2) + 6) p1 ((zga s4 (zs (zgb s4 2) + 6) p1) ||| r5)) (fun s7 =>
  zq_ck p1 10 (
  zq_let (zpa s7 29 p1 (zgf s7 26 9)) (fun s8 =>
  zq_let (zpf s8 26 4 (0 : Int32)) (fun s9 =>
  some ((), s9)))))))))))))
set_option maxRecDepth 20000 in
set_option maxHeartbeats 2000000 in
theorem xX5_takeStarMark (N : Nat)  (p1 : Int32) (s : zq_S) : zq_X yX5_takeStarMark RX5 cX5_takeStarMark 3 none ⟨1, 0, 0, 24⟩ zv_v 0 [.ref 26, .int p1, .null] [] s (mX5_takeStarMark N p1 s) := by
  unfold mX5_takeStarMark
  refine zx_lift (pc' := 1) (fun _ => zq_iconst (v := 0) dX5_takeStarMark_0 rfl rfl) ?_
  refine zx_lift (pc' := 2) (fun _ => zq_aload_n rfl rfl dX5_takeStarMark_1 rfl) ?_
  refine zx_lift (pc' := 5) (fun _ => zt_getP zfr_X5_29 zfd_26_3 dX5_takeStarMark_2 rfl) ?_
  refine zx_lift (pc' := 8) (fun _ => zt_getI zfr_X5_149 (zfd_s_6 (zgb s 2)) dX5_takeStarMark_5 rfl) ?_
  refine zx_lift (pc' := 9) (fun _ => zq_iconst (v := 1) dX5_takeStarMark_8 rfl rfl) ?_
  refine zx_lift (pc' := 10) (fun _ => zq_isub dX5_takeStarMark_9 rfl) ?_
  refine zx_cSi (pc' := 13) zcs_X5_152 (cJ9_max_7cf53_mc N (0 : Int32) ((zgf s (zs (zgb s 2)) 6) - (1 : Int32)) s) rfl (by decide) (Nat.le_of_ble_eq_true rfl) dX5_takeStarMark_10 rfl rfl (fun r1 s2 => ?_)
  refine zx_lift (pc' := 14) (fun _ => zq_istore_n (ls' := [.ref 26, .int p1, .int r1]) rfl (by decide) rfl rfl dX5_takeStarMark_13 rfl) ?_
  refine zx_lift (pc' := 15) (fun _ => zq_aload_n rfl rfl dX5_takeStarMark_14 rfl) ?_
  refine zx_lift (pc' := 18) (fun _ => zt_getP zfr_X5_29 zfd_26_3 dX5_takeStarMark_15 rfl) ?_
  refine zx_lift (pc' := 21) (fun _ => zt_getR zfr_X5_133 (zfd_s_4 (zgb s2 2)) dX5_takeStarMark_18 rfl) ?_
  refine zx_lift (pc' := 22) (fun _ => zq_iload_n rfl rfl dX5_takeStarMark_21 rfl) ?_
  refine zx_lift (pc' := 23) (fun _ => zq_iload_n rfl rfl dX5_takeStarMark_22 rfl) ?_
  refine zx_iastore (pc' := 24) (zsh_s3 (zgb s2 2)) dX5_takeStarMark_23 rfl (fun s3 => ?_)
  refine zx_lift (pc' := 25) (fun _ => zq_aload_n rfl rfl dX5_takeStarMark_24 rfl) ?_
  refine zx_lift (pc' := 28) (fun _ => zt_getP zfr_X5_29 zfd_26_3 dX5_takeStarMark_25 rfl) ?_
  refine zx_lift (pc' := 31) (fun _ => zt_getR zfr_X5_157 (zfd_s_14 (zgb s3 2)) dX5_takeStarMark_28 rfl) ?_
  refine zx_lift (pc' := 32) (fun _ => zq_iload_n rfl rfl dX5_takeStarMark_31 rfl) ?_
  refine zx_lift (pc' := 33) (fun _ => zq_iload_n rfl rfl dX5_takeStarMark_32 rfl) ?_
  refine zx_iastore (pc' := 34) (zsh_s10 (zgb s3 2)) dX5_takeStarMark_33 rfl (fun s4 => ?_)
  refine zx_lift (pc' := 35) (fun _ => zq_aload_n rfl rfl dX5_takeStarMark_34 rfl) ?_
  refine zx_lift (pc' := 38) (fun _ => zt_getP zfr_X5_29 zfd_26_3 dX5_takeStarMark_35 rfl) ?_
  refine zx_lift (pc' := 41) (fun _ => zt_getR zfr_X5_160 (zfd_s_10 (zgb s4 2)) dX5_takeStarMark_38 rfl) ?_
  refine zx_lift (pc' := 42) (fun _ => zq_iload_n rfl rfl dX5_takeStarMark_41 rfl) ?_
  refine zx_lift (pc' := 43) (fun _ => zq_dup2 rfl rfl dX5_takeStarMark_42 rfl) ?_
  refine zx_iaload (pc' := 44) (zsh_s6 (zgb s4 2)) dX5_takeStarMark_43 rfl ?_
  refine zx_lift (pc' := 45) (fun _ => zq_aload_n rfl rfl dX5_takeStarMark_44 rfl) ?_
  refine zx_lift (pc' := 46) (fun _ => zq_aload_n rfl rfl dX5_takeStarMark_45 rfl) ?_
  refine zx_lift (pc' := 49) (fun _ => zt_getI zfr_X5_51 zfd_26_6 dX5_takeStarMark_46 rfl) ?_
  refine zx_cVi (pc' := 52) zcv_X5_139 (cX5_putInAround_mc N (zgf s4 26 6) s4) zob_26 rfl (by decide) (Nat.le_of_ble_eq_true rfl) dX5_takeStarMark_49 rfl rfl (fun r5 s6 => ?_)
  refine zx_lift (pc' := 53) (fun _ => zq_ior dX5_takeStarMark_52 rfl) ?_
  refine zx_iastore (pc' := 54) (zsh_s6 (zgb s4 2)) dX5_takeStarMark_53 rfl (fun s7 => ?_)
  refine zx_lift (pc' := 55) (fun _ => zq_aload_n rfl rfl dX5_takeStarMark_54 rfl) ?_
  refine zx_lift (pc' := 58) (fun _ => zt_getR zfr_X5_23 zfd_26_10 dX5_takeStarMark_55 rfl) ?_
  refine zx_lift (pc' := 59) (fun _ => zq_iload_n rfl rfl dX5_takeStarMark_58 rfl) ?_
  refine zx_lift (pc' := 60) (fun _ => zq_aload_n rfl rfl dX5_takeStarMark_59 rfl) ?_
  refine zx_lift (pc' := 63) (fun _ => zt_getI zfr_X5_77 zfd_26_9 dX5_takeStarMark_60 rfl) ?_
  refine zx_iastore (pc' := 64) zsh_29 dX5_takeStarMark_63 rfl (fun s8 => ?_)
  refine zx_lift (pc' := 65) (fun _ => zq_aload_n rfl rfl dX5_takeStarMark_64 rfl) ?_
  refine zx_lift (pc' := 66) (fun _ => zq_iconst (v := 0) dX5_takeStarMark_65 rfl rfl) ?_
  refine zx_putI (pc' := 69) zfr_X5_48 (fun _ => ⟨rfl, rfl⟩) zfd_26_4 dX5_takeStarMark_66 rfl (fun s9 => ?_)
  exact zx_vret rfl dX5_takeStarMark_69
theorem cX5_takeStarMark_mc (N : Nat)  (p1 : Int32) (s : zq_S) (v : Unit × zq_S) (h : mX5_takeStarMark N p1 s = some v) : zq_MC yX5_takeStarMark cX5_takeStarMark 3 none ⟨1, 0, 0, 24⟩ 0 0 [.ref 26, .int p1] (zq_en s) (zv_v v.1, zq_en v.2) := zq_MC_x [.ref 26, .int p1, .null] (by decide +kernel) rfl rfl (Nat.le_of_ble_eq_true rfl) (xX5_takeStarMark N p1 s) h
def mX5_takeOverMark (N : Nat)  (p1 : Int32) (s : zq_S) : Option (Unit × zq_S) :=
  zq_b2 (mJ9_max_7cf53 N (0 : Int32) ((zgf s (zs (zgb s 2)) 6) - (1 : Int32)) s) (fun r1 s2 =>
  zq_ck r1 100 (
  zq_let (zpa s2 (zs (zgb s 2) + 3) r1 p1) (fun s3 =>
  zq_b2 (mX5_putInAround N (zgf s3 26 6) s3) (fun r4 s5 =>
  zq_let (if (0 : Int32) ≤ (zgf s5 26 8) then ((1 : Int32) <<< ((zgf s5 26 8) &&& 31)) else (0 : Int32)) (fun x6 =>
  zq_b2 (mX7_tell N (zgb s3 2) p1 (4 : Int32) (zgf s3 26 6) (r4 ||| x6) s5) (fun r7 s8 =>
  zq_ck p1 10 (
  zq_let (zpa s8 (zs (zgb s8 2) + 7) p1 (1 : Int32)) (fun s9 =>
  zq_let (zpf s9 26 8 p1) (fun s10 =>
  zq_let (zpf s10 26 7 ((zgf s10 26 7) ||| ((1 : Int32) <<< (p1 &&& 31)))) (fun s11 =>
  zq_let (zpf s11 26 4 (10 : Int32)) (fun s12 =>
  some ((), s12))))))))))))
set_option maxRecDepth 20000 in
set_option maxHeartbeats 2000000 in
theorem xX5_takeOverMark (N : Nat)  (p1 : Int32) (s : zq_S) : zq_X yX5_takeOverMark RX5 cX5_takeOverMark 2 none ⟨1, 0, 0, 24⟩ zv_v 0 [.ref 26, .int p1] [] s (mX5_takeOverMark N p1 s) := by
  unfold mX5_takeOverMark
  refine zx_lift (pc' := 1) (fun _ => zq_aload_n rfl rfl dX5_takeOverMark_0 rfl) ?_
  refine zx_lift (pc' := 4) (fun _ => zt_getP zfr_X5_29 zfd_26_3 dX5_takeOverMark_1 rfl) ?_
  refine zx_lift (pc' := 7) (fun _ => zt_getR zfr_X5_133 (zfd_s_4 (zgb s 2)) dX5_takeOverMark_4 rfl) ?_
  refine zx_lift (pc' := 8) (fun _ => zq_iconst (v := 0) dX5_takeOverMark_7 rfl rfl) ?_
  refine zx_lift (pc' := 9) (fun _ => zq_aload_n rfl rfl dX5_takeOverMark_8 rfl) ?_
  refine zx_lift (pc' := 12) (fun _ => zt_getP zfr_X5_29 zfd_26_3 dX5_takeOverMark_9 rfl) ?_
  refine zx_lift (pc' := 15) (fun _ => zt_getI zfr_X5_149 (zfd_s_6 (zgb s 2)) dX5_takeOverMark_12 rfl) ?_
  refine zx_lift (pc' := 16) (fun _ => zq_iconst (v := 1) dX5_takeOverMark_15 rfl rfl) ?_
  refine zx_lift (pc' := 17) (fun _ => zq_isub dX5_takeOverMark_16 rfl) ?_
  refine zx_cSi (pc' := 20) zcs_X5_152 (cJ9_max_7cf53_mc N (0 : Int32) ((zgf s (zs (zgb s 2)) 6) - (1 : Int32)) s) rfl (by decide) (Nat.le_of_ble_eq_true rfl) dX5_takeOverMark_17 rfl rfl (fun r1 s2 => ?_)
  refine zx_lift (pc' := 21) (fun _ => zq_iload_n rfl rfl dX5_takeOverMark_20 rfl) ?_
  refine zx_iastore (pc' := 22) (zsh_s3 (zgb s 2)) dX5_takeOverMark_21 rfl (fun s3 => ?_)
  refine zx_lift (pc' := 23) (fun _ => zq_aload_n rfl rfl dX5_takeOverMark_22 rfl) ?_
  refine zx_lift (pc' := 26) (fun _ => zt_getP zfr_X5_29 zfd_26_3 dX5_takeOverMark_23 rfl) ?_
  refine zx_lift (pc' := 27) (fun _ => zq_iload_n rfl rfl dX5_takeOverMark_26 rfl) ?_
  refine zx_lift (pc' := 28) (fun _ => zq_iconst (v := 4) dX5_takeOverMark_27 rfl rfl) ?_
  refine zx_lift (pc' := 29) (fun _ => zq_aload_n rfl rfl dX5_takeOverMark_28 rfl) ?_
  refine zx_lift (pc' := 32) (fun _ => zt_getI zfr_X5_51 zfd_26_6 dX5_takeOverMark_29 rfl) ?_
  refine zx_lift (pc' := 33) (fun _ => zq_aload_n rfl rfl dX5_takeOverMark_32 rfl) ?_
  refine zx_lift (pc' := 34) (fun _ => zq_aload_n rfl rfl dX5_takeOverMark_33 rfl) ?_
  refine zx_lift (pc' := 37) (fun _ => zt_getI zfr_X5_51 zfd_26_6 dX5_takeOverMark_34 rfl) ?_
  refine zx_cVi (pc' := 40) zcv_X5_139 (cX5_putInAround_mc N (zgf s3 26 6) s3) zob_26 rfl (by decide) (Nat.le_of_ble_eq_true rfl) dX5_takeOverMark_37 rfl rfl (fun r4 s5 => ?_)
  refine zx_lift (pc' := 41) (fun _ => zq_aload_n rfl rfl dX5_takeOverMark_40 rfl) ?_
  refine zx_lift (pc' := 44) (fun _ => zt_getI zfr_X5_74 zfd_26_8 dX5_takeOverMark_41 rfl) ?_
  refine zx_tern (pcJ := 57) (lsJ := fun x6 => [.ref 26, .int p1]) (stJ := fun x6 => [.int x6, .int r4, .int (zgf s3 26 6), .int (4 : Int32), .int p1, .ref (zs (zgb s3 2))]) (fun x6 => ?_) (fun f hJ => ?_)
  rotate_left
  · refine zx_lif_ge (pc' := 47) (tgt := 51) dX5_takeOverMark_44 rfl rfl (fun _ => ?_) (fun _ => ?_)
    · refine zx_lift (pc' := 52) (fun _ => zq_iconst (v := 1) dX5_takeOverMark_51 rfl rfl) ?_
      refine zx_lift (pc' := 53) (fun _ => zq_aload_n rfl rfl dX5_takeOverMark_52 rfl) ?_
      refine zx_lift (pc' := 56) (fun _ => zt_getI zfr_X5_74 zfd_26_8 dX5_takeOverMark_53 rfl) ?_
      refine zx_lift (pc' := 57) (fun _ => zq_ishl dX5_takeOverMark_56 rfl) ?_
      exact zx_lessJ (zq_cr (zq_cr zq_cn)) (hJ _)
    · refine zx_lift (pc' := 48) (fun _ => zq_iconst (v := 0) dX5_takeOverMark_47 rfl rfl) ?_
      refine zx_lift (pc' := 57) (fun _ => zq_goto dX5_takeOverMark_48 rfl) ?_
      exact zx_lessJ (zq_cr (zq_cr zq_cn)) (hJ _)
  refine zx_lift (pc' := 58) (fun _ => zq_ior dX5_takeOverMark_57 rfl) ?_
  refine zx_cVv (pc' := 61) zcv_X5_142 (cX7_tell_mc N (zgb s3 2) p1 (4 : Int32) (zgf s3 26 6) (r4 ||| x6) s5) (zob_s (zgb s3 2)) rfl (by decide) (Nat.le_of_ble_eq_true rfl) dX5_takeOverMark_58 rfl rfl (fun r7 s8 => ?_)
  refine zx_lift (pc' := 62) (fun _ => zq_aload_n rfl rfl dX5_takeOverMark_61 rfl) ?_
  refine zx_lift (pc' := 65) (fun _ => zt_getP zfr_X5_29 zfd_26_3 dX5_takeOverMark_62 rfl) ?_
  refine zx_lift (pc' := 68) (fun _ => zt_getR zfr_X5_163 (zfd_s_11 (zgb s8 2)) dX5_takeOverMark_65 rfl) ?_
  refine zx_lift (pc' := 69) (fun _ => zq_iload_n rfl rfl dX5_takeOverMark_68 rfl) ?_
  refine zx_lift (pc' := 70) (fun _ => zq_iconst (v := 1) dX5_takeOverMark_69 rfl rfl) ?_
  refine zx_iastore (pc' := 71) (zsh_s7 (zgb s8 2)) dX5_takeOverMark_70 rfl (fun s9 => ?_)
  refine zx_lift (pc' := 72) (fun _ => zq_aload_n rfl rfl dX5_takeOverMark_71 rfl) ?_
  refine zx_lift (pc' := 73) (fun _ => zq_iload_n rfl rfl dX5_takeOverMark_72 rfl) ?_
  refine zx_putI (pc' := 76) zfr_X5_74 (fun _ => ⟨rfl, rfl⟩) zfd_26_8 dX5_takeOverMark_73 rfl (fun s10 => ?_)
  refine zx_lift (pc' := 77) (fun _ => zq_aload_n rfl rfl dX5_takeOverMark_76 rfl) ?_
  refine zx_lift (pc' := 78) (fun _ => zq_dup rfl dX5_takeOverMark_77 rfl) ?_
  refine zx_lift (pc' := 81) (fun _ => zt_getI zfr_X5_58 zfd_26_7 dX5_takeOverMark_78 rfl) ?_
  refine zx_lift (pc' := 82) (fun _ => zq_iconst (v := 1) dX5_takeOverMark_81 rfl rfl) ?_
  refine zx_lift (pc' := 83) (fun _ => zq_iload_n rfl rfl dX5_takeOverMark_82 rfl) ?_
  refine zx_lift (pc' := 84) (fun _ => zq_ishl dX5_takeOverMark_83 rfl) ?_
  refine zx_lift (pc' := 85) (fun _ => zq_ior dX5_takeOverMark_84 rfl) ?_
  refine zx_putI (pc' := 88) zfr_X5_58 (fun _ => ⟨rfl, rfl⟩) zfd_26_7 dX5_takeOverMark_85 rfl (fun s11 => ?_)
  refine zx_lift (pc' := 89) (fun _ => zq_aload_n rfl rfl dX5_takeOverMark_88 rfl) ?_
  refine zx_lift (pc' := 91) (fun _ => zq_bipush (v := 10) dX5_takeOverMark_89 rfl rfl) ?_
  refine zx_putI (pc' := 94) zfr_X5_48 (fun _ => ⟨rfl, rfl⟩) zfd_26_4 dX5_takeOverMark_91 rfl (fun s12 => ?_)
  exact zx_vret rfl dX5_takeOverMark_94
theorem cX5_takeOverMark_mc (N : Nat)  (p1 : Int32) (s : zq_S) (v : Unit × zq_S) (h : mX5_takeOverMark N p1 s = some v) : zq_MC yX5_takeOverMark cX5_takeOverMark 2 none ⟨1, 0, 0, 24⟩ 0 0 [.ref 26, .int p1] (zq_en s) (zv_v v.1, zq_en v.2) := zq_MC_x [.ref 26, .int p1] (by decide +kernel) rfl rfl (Nat.le_of_ble_eq_true rfl) (xX5_takeOverMark N p1 s) h
def jX5_takeMark_j61 (N : Nat)    (s : zq_S) : Option (Unit × zq_S) :=
  some ((), s)
set_option maxRecDepth 20000 in
set_option maxHeartbeats 2000000 in
theorem xX5_takeMark_j61_j (N : Nat)    (s : zq_S) : zq_X yX5_takeMark RX5 cX5_takeMark 2 none ⟨2, 0, 0, 48⟩ zv_v 61 [.null, .null] [] s (jX5_takeMark_j61 N s) := by
  unfold jX5_takeMark_j61
  exact zx_vret rfl dX5_takeMark_61
def mX5_takeMark (N : Nat)  (p1 : Int32) (s : zq_S) : Option (Unit × zq_S) :=
  if (zgf s 26 4) = (5 : Int32) then
  zq_b2 (mX5_takeBracketMark N p1 s) (fun r1 s2 =>
  jX5_takeMark_j61 N s2)
  else if (zgf s 26 4) = (6 : Int32) then
  zq_b2 (mX5_takeStandMark N p1 s) (fun r4 s5 =>
  jX5_takeMark_j61 N s5)
  else if (zgf s 26 4) = (7 : Int32) then
  zq_b2 (mX5_takeStarMark N p1 s) (fun r7 s8 =>
  jX5_takeMark_j61 N s8)
  else 
  zq_b2 (mX5_takeOverMark N p1 s) (fun r10 s11 =>
  jX5_takeMark_j61 N s11)
set_option maxRecDepth 20000 in
set_option maxHeartbeats 2000000 in
theorem xX5_takeMark (N : Nat)  (p1 : Int32) (s : zq_S) : zq_X yX5_takeMark RX5 cX5_takeMark 2 none ⟨2, 0, 0, 48⟩ zv_v 0 [.ref 26, .int p1] [] s (mX5_takeMark N p1 s) := by
  unfold mX5_takeMark
  refine zx_lift (pc' := 1) (fun _ => zq_aload_n rfl rfl dX5_takeMark_0 rfl) ?_
  refine zx_lift (pc' := 4) (fun _ => zt_getI zfr_X5_48 zfd_26_4 dX5_takeMark_1 rfl) ?_
  refine zx_ite (fun hc => ?_) (fun hn3 => ?_)
  · refine zx_tabIn (tgt := 32) hc dX5_takeMark_4 (by decide) (by decide) rfl rfl ?_
    refine zx_lift (pc' := 33) (fun _ => zq_aload_n rfl rfl dX5_takeMark_32 rfl) ?_
    refine zx_lift (pc' := 34) (fun _ => zq_iload_n rfl rfl dX5_takeMark_33 rfl) ?_
    refine zx_cVv (pc' := 37) zcv_X5_115 (cX5_takeBracketMark_mc N p1 s) zob_26 rfl (by decide) (Nat.le_of_ble_eq_true rfl) dX5_takeMark_34 rfl rfl (fun r1 s2 => ?_)
    refine zx_lift (pc' := 61) (fun _ => zq_goto dX5_takeMark_37 rfl) ?_
    refine zx_less [.null, .null] (zq_cz (zq_cz zq_cn)) ?_
    exact xX5_takeMark_j61_j N s2
  refine zx_ite (fun hc => ?_) (fun hn6 => ?_)
  · refine zx_tabIn (tgt := 40) hc dX5_takeMark_4 (by decide) (by decide) rfl rfl ?_
    refine zx_lift (pc' := 41) (fun _ => zq_aload_n rfl rfl dX5_takeMark_40 rfl) ?_
    refine zx_lift (pc' := 42) (fun _ => zq_iload_n rfl rfl dX5_takeMark_41 rfl) ?_
    refine zx_cVv (pc' := 45) zcv_X5_118 (cX5_takeStandMark_mc N p1 s) zob_26 rfl (by decide) (Nat.le_of_ble_eq_true rfl) dX5_takeMark_42 rfl rfl (fun r4 s5 => ?_)
    refine zx_lift (pc' := 61) (fun _ => zq_goto dX5_takeMark_45 rfl) ?_
    refine zx_less [.null, .null] (zq_cz (zq_cz zq_cn)) ?_
    exact xX5_takeMark_j61_j N s5
  refine zx_ite (fun hc => ?_) (fun hn9 => ?_)
  · refine zx_tabIn (tgt := 48) hc dX5_takeMark_4 (by decide) (by decide) rfl rfl ?_
    refine zx_lift (pc' := 49) (fun _ => zq_aload_n rfl rfl dX5_takeMark_48 rfl) ?_
    refine zx_lift (pc' := 50) (fun _ => zq_iload_n rfl rfl dX5_takeMark_49 rfl) ?_
    refine zx_cVv (pc' := 53) zcv_X5_121 (cX5_takeStarMark_mc N p1 s) zob_26 rfl (by decide) (Nat.le_of_ble_eq_true rfl) dX5_takeMark_50 rfl rfl (fun r7 s8 => ?_)
    refine zx_lift (pc' := 61) (fun _ => zq_goto dX5_takeMark_53 rfl) ?_
    refine zx_less [.null, .null] (zq_cz (zq_cz zq_cn)) ?_
    exact xX5_takeMark_j61_j N s8
  refine zx_tabOut (tgt := 56) dX5_takeMark_4 (by have := zq_tk (k := 5) hn3 (by decide); have := zq_tk (k := 6) hn6 (by decide); have := zq_tk (k := 7) hn9 (by decide); omega) rfl ?_
  refine zx_lift (pc' := 57) (fun _ => zq_aload_n rfl rfl dX5_takeMark_56 rfl) ?_
  refine zx_lift (pc' := 58) (fun _ => zq_iload_n rfl rfl dX5_takeMark_57 rfl) ?_
  refine zx_cVv (pc' := 61) zcv_X5_124 (cX5_takeOverMark_mc N p1 s) zob_26 rfl (by decide) (Nat.le_of_ble_eq_true rfl) dX5_takeMark_58 rfl rfl (fun r10 s11 => ?_)
  refine zx_less [.null, .null] (zq_cz (zq_cz zq_cn)) ?_
  exact xX5_takeMark_j61_j N s11
theorem cX5_takeMark_mc (N : Nat)  (p1 : Int32) (s : zq_S) (v : Unit × zq_S) (h : mX5_takeMark N p1 s = some v) : zq_MC yX5_takeMark cX5_takeMark 2 none ⟨2, 0, 0, 48⟩ 0 0 [.ref 26, .int p1] (zq_en s) (zv_v v.1, zq_en v.2) := zq_MC_x [.ref 26, .int p1] (by decide +kernel) rfl rfl (Nat.le_of_ble_eq_true rfl) (xX5_takeMark N p1 s) h
def jX5_isToldAlready_j43 (N : Nat)   (t0 : Int32) (s : zq_S) : Option (Int32 × zq_S) :=
  zq_bz t0 (some (t0, s))
set_option maxRecDepth 20000 in
set_option maxHeartbeats 2000000 in
theorem xX5_isToldAlready_j43_j (N : Nat)   (t0 : Int32) (s : zq_S) : zq_X yX5_isToldAlready RX5 cX5_isToldAlready 2 (some .boolean) ⟨0, 0, 0, 0⟩ zv_i 43 [.null, .null] [.int t0] s (jX5_isToldAlready_j43 N t0 s) := by
  unfold jX5_isToldAlready_j43
  exact zx_zretg rfl dX5_isToldAlready_43
def mX5_isToldAlready (N : Nat)  (p1 : Int32) (s : zq_S) : Option (Int32 × zq_S) :=
  if (zgf s 26 4) = (7 : Int32) then
  zq_ck p1 10 (
  if (zga s 29 p1) = (-1 : Int32) then
  jX5_isToldAlready_j43 N (0 : Int32) s
  else
  jX5_isToldAlready_j43 N (1 : Int32) s)
  else
  if (((zgf s 26 7) >>> (p1 &&& 31)) &&& (1 : Int32)) = (0 : Int32) then
  jX5_isToldAlready_j43 N (0 : Int32) s
  else
  jX5_isToldAlready_j43 N (1 : Int32) s
set_option maxRecDepth 20000 in
set_option maxHeartbeats 2000000 in
theorem xX5_isToldAlready (N : Nat)  (p1 : Int32) (s : zq_S) : zq_X yX5_isToldAlready RX5 cX5_isToldAlready 2 (some .boolean) ⟨0, 0, 0, 0⟩ zv_i 0 [.ref 26, .int p1] [] s (mX5_isToldAlready N p1 s) := by
  unfold mX5_isToldAlready
  refine zx_lift (pc' := 1) (fun _ => zq_aload_n rfl rfl dX5_isToldAlready_0 rfl) ?_
  refine zx_lift (pc' := 4) (fun _ => zt_getI zfr_X5_48 zfd_26_4 dX5_isToldAlready_1 rfl) ?_
  refine zx_lift (pc' := 6) (fun _ => zq_bipush (v := 7) dX5_isToldAlready_4 rfl rfl) ?_
  refine zx_icmp_ne (pc' := 9) (tgt := 27) dX5_isToldAlready_6 rfl rfl (fun hc => ?_) (fun hc => ?_)
  · refine zx_lift (pc' := 28) (fun _ => zq_aload_n rfl rfl dX5_isToldAlready_27 rfl) ?_
    refine zx_lift (pc' := 31) (fun _ => zt_getI zfr_X5_58 zfd_26_7 dX5_isToldAlready_28 rfl) ?_
    refine zx_lift (pc' := 32) (fun _ => zq_iload_n rfl rfl dX5_isToldAlready_31 rfl) ?_
    refine zx_lift (pc' := 33) (fun _ => zq_ishr dX5_isToldAlready_32 rfl) ?_
    refine zx_lift (pc' := 34) (fun _ => zq_iconst (v := 1) dX5_isToldAlready_33 rfl rfl) ?_
    refine zx_lift (pc' := 35) (fun _ => zq_iand dX5_isToldAlready_34 rfl) ?_
    refine zx_if_eq (pc' := 38) (tgt := 42) dX5_isToldAlready_35 rfl rfl (fun hc => ?_) (fun hc => ?_)
    · refine zx_lift (pc' := 43) (fun _ => zq_iconst (v := 0) dX5_isToldAlready_42 rfl rfl) ?_
      refine zx_less [.null, .null] (zq_cz (zq_cz zq_cn)) ?_
      exact xX5_isToldAlready_j43_j N (0 : Int32) s
    · refine zx_lift (pc' := 39) (fun _ => zq_iconst (v := 1) dX5_isToldAlready_38 rfl rfl) ?_
      refine zx_lift (pc' := 43) (fun _ => zq_goto dX5_isToldAlready_39 rfl) ?_
      refine zx_less [.null, .null] (zq_cz (zq_cz zq_cn)) ?_
      exact xX5_isToldAlready_j43_j N (1 : Int32) s
  · refine zx_lift (pc' := 10) (fun _ => zq_aload_n rfl rfl dX5_isToldAlready_9 rfl) ?_
    refine zx_lift (pc' := 13) (fun _ => zt_getR zfr_X5_23 zfd_26_10 dX5_isToldAlready_10 rfl) ?_
    refine zx_lift (pc' := 14) (fun _ => zq_iload_n rfl rfl dX5_isToldAlready_13 rfl) ?_
    refine zx_iaload (pc' := 15) zsh_29 dX5_isToldAlready_14 rfl ?_
    refine zx_lift (pc' := 16) (fun _ => zq_iconst (v := (-1)) dX5_isToldAlready_15 rfl rfl) ?_
    refine zx_icmp_eq (pc' := 19) (tgt := 23) dX5_isToldAlready_16 rfl rfl (fun hc => ?_) (fun hc => ?_)
    · refine zx_lift (pc' := 24) (fun _ => zq_iconst (v := 0) dX5_isToldAlready_23 rfl rfl) ?_
      refine zx_lift (pc' := 43) (fun _ => zq_goto dX5_isToldAlready_24 rfl) ?_
      refine zx_less [.null, .null] (zq_cz (zq_cz zq_cn)) ?_
      exact xX5_isToldAlready_j43_j N (0 : Int32) s
    · refine zx_lift (pc' := 20) (fun _ => zq_iconst (v := 1) dX5_isToldAlready_19 rfl rfl) ?_
      refine zx_lift (pc' := 43) (fun _ => zq_goto dX5_isToldAlready_20 rfl) ?_
      refine zx_less [.null, .null] (zq_cz (zq_cz zq_cn)) ?_
      exact xX5_isToldAlready_j43_j N (1 : Int32) s
theorem cX5_isToldAlready_mc (N : Nat)  (p1 : Int32) (s : zq_S) (v : Int32 × zq_S) (h : mX5_isToldAlready N p1 s = some v) : zq_MC yX5_isToldAlready cX5_isToldAlready 2 (some .boolean) ⟨0, 0, 0, 0⟩ 0 0 [.ref 26, .int p1] (zq_en s) (zv_i v.1, zq_en v.2) := zq_MC_x [.ref 26, .int p1] (by decide +kernel) rfl rfl (Nat.le_of_ble_eq_true rfl) (xX5_isToldAlready N p1 s) h
def jX5_takeNumber_j185 (N : Nat)    (s : zq_S) : Option (Int32 × zq_S) :=
  some ((0 : Int32), s)
set_option maxRecDepth 20000 in
set_option maxHeartbeats 2000000 in
theorem xX5_takeNumber_j185_j (N : Nat)    (s : zq_S) : zq_X yX5_takeNumber RX5 cX5_takeNumber 6 (some .int) ⟨3, 0, 0, 69⟩ zv_i 185 [.null, .null, .null, .null, .null, .null] [] s (jX5_takeNumber_j185 N s) := by
  unfold jX5_takeNumber_j185
  refine zx_lift (pc' := 186) (fun _ => zq_iconst (v := 0) dX5_takeNumber_185 rfl rfl) ?_
  exact zx_iret rfl dX5_takeNumber_186
def jX5_takeNumber_j157 (N : Nat)   (w3 : Int32) (w5 : Int32) (s : zq_S) : Option (Int32 × zq_S) :=
  zq_b2 (mX7_printNumber N (zgb s 2) w5 s) (fun r6 s7 =>
  if w3 = (0 : Int32) then
  zq_b2 (mX5_takeWord N w5 s7) (fun r8 s9 =>
  jX5_takeNumber_j185 N s9)
  else
  zq_b2 (mX5_takeMark N w5 s7) (fun r10 s11 =>
  jX5_takeNumber_j185 N s11))
set_option maxRecDepth 20000 in
set_option maxHeartbeats 2000000 in
theorem xX5_takeNumber_j157_j (N : Nat)   (w3 : Int32) (w5 : Int32) (s : zq_S) : zq_X yX5_takeNumber RX5 cX5_takeNumber 6 (some .int) ⟨3, 0, 0, 69⟩ zv_i 157 [.ref 26, .null, .null, .int w3, .null, .int w5] [] s (jX5_takeNumber_j157 N w3 w5 s) := by
  unfold jX5_takeNumber_j157
  refine zx_lift (pc' := 158) (fun _ => zq_aload_n rfl rfl dX5_takeNumber_157 rfl) ?_
  refine zx_lift (pc' := 161) (fun _ => zt_getP zfr_X5_29 zfd_26_3 dX5_takeNumber_158 rfl) ?_
  refine zx_lift (pc' := 163) (fun _ => zq_iload rfl dX5_takeNumber_161 rfl) ?_
  refine zx_cVv (pc' := 166) zcv_X5_105 (cX7_printNumber_mc N (zgb s 2) w5 s) (zob_s (zgb s 2)) rfl (by decide) (Nat.le_of_ble_eq_true rfl) dX5_takeNumber_163 rfl rfl (fun r6 s7 => ?_)
  refine zx_lift (pc' := 167) (fun _ => zq_iload_n rfl rfl dX5_takeNumber_166 rfl) ?_
  refine zx_if_eq (pc' := 170) (tgt := 179) dX5_takeNumber_167 rfl rfl (fun hc => ?_) (fun hc => ?_)
  · refine zx_lift (pc' := 180) (fun _ => zq_aload_n rfl rfl dX5_takeNumber_179 rfl) ?_
    refine zx_lift (pc' := 182) (fun _ => zq_iload rfl dX5_takeNumber_180 rfl) ?_
    refine zx_cVv (pc' := 185) zcv_X5_112 (cX5_takeWord_mc N w5 s7) zob_26 rfl (by decide) (Nat.le_of_ble_eq_true rfl) dX5_takeNumber_182 rfl rfl (fun r8 s9 => ?_)
    refine zx_less [.null, .null, .null, .null, .null, .null] (zq_cz (zq_cz (zq_cz (zq_cz (zq_cz (zq_cz zq_cn)))))) ?_
    exact xX5_takeNumber_j185_j N s9
  · refine zx_lift (pc' := 171) (fun _ => zq_aload_n rfl rfl dX5_takeNumber_170 rfl) ?_
    refine zx_lift (pc' := 173) (fun _ => zq_iload rfl dX5_takeNumber_171 rfl) ?_
    refine zx_cVv (pc' := 176) zcv_X5_109 (cX5_takeMark_mc N w5 s7) zob_26 rfl (by decide) (Nat.le_of_ble_eq_true rfl) dX5_takeNumber_173 rfl rfl (fun r10 s11 => ?_)
    refine zx_lift (pc' := 185) (fun _ => zq_goto dX5_takeNumber_176 rfl) ?_
    refine zx_less [.null, .null, .null, .null, .null, .null] (zq_cz (zq_cz (zq_cz (zq_cz (zq_cz (zq_cz zq_cn)))))) ?_
    exact xX5_takeNumber_j185_j N s11
def jX5_takeNumber_j138 (N : Nat)   (w3 : Int32) (w4 : Int32) (w5 : Int32) (s : zq_S) : Option (Int32 × zq_S) :=
  if w4 = (0 : Int32) then
  jX5_takeNumber_j157 N w3 w5 s
  else
  if (zgf s (zs (zgb s 2)) 8) < (40 : Int32) then
  jX5_takeNumber_j157 N w3 w5 s
  else
  some ((4 : Int32), s)
set_option maxRecDepth 20000 in
set_option maxHeartbeats 2000000 in
theorem xX5_takeNumber_j138_j (N : Nat)   (w3 : Int32) (w4 : Int32) (w5 : Int32) (s : zq_S) : zq_X yX5_takeNumber RX5 cX5_takeNumber 6 (some .int) ⟨3, 0, 0, 69⟩ zv_i 138 [.ref 26, .null, .null, .int w3, .int w4, .int w5] [] s (jX5_takeNumber_j138 N w3 w4 w5 s) := by
  unfold jX5_takeNumber_j138
  refine zx_lift (pc' := 140) (fun _ => zq_iload rfl dX5_takeNumber_138 rfl) ?_
  refine zx_if_eq (pc' := 143) (tgt := 157) dX5_takeNumber_140 rfl rfl (fun hc => ?_) (fun hc => ?_)
  · refine zx_less [.ref 26, .null, .null, .int w3, .null, .int w5] (zq_cr (zq_cz (zq_cz (zq_cr (zq_cz (zq_cr zq_cn)))))) ?_
    exact xX5_takeNumber_j157_j N w3 w5 s
  · refine zx_lift (pc' := 144) (fun _ => zq_aload_n rfl rfl dX5_takeNumber_143 rfl) ?_
    refine zx_lift (pc' := 147) (fun _ => zt_getP zfr_X5_29 zfd_26_3 dX5_takeNumber_144 rfl) ?_
    refine zx_lift (pc' := 150) (fun _ => zt_getI zfr_X5_102 (zfd_s_8 (zgb s 2)) dX5_takeNumber_147 rfl) ?_
    refine zx_lift (pc' := 152) (fun _ => zq_bipush (v := 40) dX5_takeNumber_150 rfl rfl) ?_
    refine zx_icmp_lt (pc' := 155) (tgt := 157) dX5_takeNumber_152 rfl rfl (fun hc => ?_) (fun hc => ?_)
    · refine zx_less [.ref 26, .null, .null, .int w3, .null, .int w5] (zq_cr (zq_cz (zq_cz (zq_cr (zq_cz (zq_cr zq_cn)))))) ?_
      exact xX5_takeNumber_j157_j N w3 w5 s
    · refine zx_lift (pc' := 156) (fun _ => zq_iconst (v := 4) dX5_takeNumber_155 rfl rfl) ?_
      exact zx_iret rfl dX5_takeNumber_156
def jX5_takeNumber_j123 (N : Nat)   (w3 : Int32) (w4 : Int32) (w5 : Int32) (s : zq_S) : Option (Int32 × zq_S) :=
  if w3 = (0 : Int32) then
  jX5_takeNumber_j138 N w3 w4 w5 s
  else
  zq_b2 (mX5_isToldAlready N w5 s) (fun r12 s13 =>
  if r12 = (0 : Int32) then
  jX5_takeNumber_j138 N w3 w4 w5 s13
  else
  some ((3 : Int32), s13))
set_option maxRecDepth 20000 in
set_option maxHeartbeats 2000000 in
theorem xX5_takeNumber_j123_j (N : Nat)   (w3 : Int32) (w4 : Int32) (w5 : Int32) (s : zq_S) : zq_X yX5_takeNumber RX5 cX5_takeNumber 6 (some .int) ⟨3, 0, 0, 69⟩ zv_i 123 [.ref 26, .null, .null, .int w3, .int w4, .int w5] [] s (jX5_takeNumber_j123 N w3 w4 w5 s) := by
  unfold jX5_takeNumber_j123
  refine zx_lift (pc' := 124) (fun _ => zq_iload_n rfl rfl dX5_takeNumber_123 rfl) ?_
  refine zx_if_eq (pc' := 127) (tgt := 138) dX5_takeNumber_124 rfl rfl (fun hc => ?_) (fun hc => ?_)
  · exact xX5_takeNumber_j138_j N w3 w4 w5 s
  · refine zx_lift (pc' := 128) (fun _ => zq_aload_n rfl rfl dX5_takeNumber_127 rfl) ?_
    refine zx_lift (pc' := 130) (fun _ => zq_iload rfl dX5_takeNumber_128 rfl) ?_
    refine zx_cVi (pc' := 133) zcv_X5_99 (cX5_isToldAlready_mc N w5 s) zob_26 rfl (by decide) (Nat.le_of_ble_eq_true rfl) dX5_takeNumber_130 rfl rfl (fun r12 s13 => ?_)
    refine zx_if_eq (pc' := 136) (tgt := 138) dX5_takeNumber_133 rfl rfl (fun hc => ?_) (fun hc => ?_)
    · exact xX5_takeNumber_j138_j N w3 w4 w5 s13
    · refine zx_lift (pc' := 137) (fun _ => zq_iconst (v := 3) dX5_takeNumber_136 rfl rfl) ?_
      exact zx_iret rfl dX5_takeNumber_137
def jX5_takeNumber_j110 (N : Nat)   (w3 : Int32) (w4 : Int32) (w5 : Int32) (s : zq_S) : Option (Int32 × zq_S) :=
  if w3 = (0 : Int32) then
  jX5_takeNumber_j123 N w3 w4 w5 s
  else
  if w5 < (10 : Int32) then
  jX5_takeNumber_j123 N w3 w4 w5 s
  else
  some ((2 : Int32), s)
set_option maxRecDepth 20000 in
set_option maxHeartbeats 2000000 in
theorem xX5_takeNumber_j110_j (N : Nat)   (w3 : Int32) (w4 : Int32) (w5 : Int32) (s : zq_S) : zq_X yX5_takeNumber RX5 cX5_takeNumber 6 (some .int) ⟨3, 0, 0, 69⟩ zv_i 110 [.ref 26, .null, .null, .int w3, .int w4, .int w5] [] s (jX5_takeNumber_j110 N w3 w4 w5 s) := by
  unfold jX5_takeNumber_j110
  refine zx_lift (pc' := 111) (fun _ => zq_iload_n rfl rfl dX5_takeNumber_110 rfl) ?_
  refine zx_if_eq (pc' := 114) (tgt := 123) dX5_takeNumber_111 rfl rfl (fun hc => ?_) (fun hc => ?_)
  · exact xX5_takeNumber_j123_j N w3 w4 w5 s
  · refine zx_lift (pc' := 116) (fun _ => zq_iload rfl dX5_takeNumber_114 rfl) ?_
    refine zx_lift (pc' := 118) (fun _ => zq_bipush (v := 10) dX5_takeNumber_116 rfl rfl) ?_
    refine zx_icmp_lt (pc' := 121) (tgt := 123) dX5_takeNumber_118 rfl rfl (fun hc => ?_) (fun hc => ?_)
    · exact xX5_takeNumber_j123_j N w3 w4 w5 s
    · refine zx_lift (pc' := 122) (fun _ => zq_iconst (v := 2) dX5_takeNumber_121 rfl rfl) ?_
      exact zx_iret rfl dX5_takeNumber_122
def jX5_takeNumber_j66 (N : Nat)   (w1 : Int32) (w2 : Int32) (w3 : Int32) (w4 : Int32) (s : zq_S) : Option (Int32 × zq_S) :=
  if (w2 - w1) ≤ (2 : Int32) then
  zq_b2 (mX5_byteAt N w1 s) (fun r3 s4 =>
  zq_let (r3 - (48 : Int32)) (fun x5 =>
  if (w2 - w1) = (2 : Int32) then
  zq_b2 (mX5_byteAt N (w1 + (1 : Int32)) s4) (fun r14 s15 =>
  zq_let ((((10 : Int32) * x5) + r14) - (48 : Int32)) (fun x16 =>
  jX5_takeNumber_j110 N w3 w4 x16 s15))
  else
  jX5_takeNumber_j110 N w3 w4 x5 s4))
  else
  some ((2 : Int32), s)
set_option maxRecDepth 20000 in
set_option maxHeartbeats 2000000 in
theorem xX5_takeNumber_j66_j (N : Nat)   (w1 : Int32) (w2 : Int32) (w3 : Int32) (w4 : Int32) (s : zq_S) : zq_X yX5_takeNumber RX5 cX5_takeNumber 6 (some .int) ⟨3, 0, 0, 69⟩ zv_i 66 [.ref 26, .int w1, .int w2, .int w3, .int w4, .null] [] s (jX5_takeNumber_j66 N w1 w2 w3 w4 s) := by
  unfold jX5_takeNumber_j66
  refine zx_lift (pc' := 67) (fun _ => zq_iload_n rfl rfl dX5_takeNumber_66 rfl) ?_
  refine zx_lift (pc' := 68) (fun _ => zq_iload_n rfl rfl dX5_takeNumber_67 rfl) ?_
  refine zx_lift (pc' := 69) (fun _ => zq_isub dX5_takeNumber_68 rfl) ?_
  refine zx_lift (pc' := 70) (fun _ => zq_iconst (v := 2) dX5_takeNumber_69 rfl rfl) ?_
  refine zx_icmp_le (pc' := 73) (tgt := 75) dX5_takeNumber_70 rfl rfl (fun hc => ?_) (fun hc => ?_)
  · refine zx_lift (pc' := 76) (fun _ => zq_aload_n rfl rfl dX5_takeNumber_75 rfl) ?_
    refine zx_lift (pc' := 77) (fun _ => zq_iload_n rfl rfl dX5_takeNumber_76 rfl) ?_
    refine zx_cVi (pc' := 80) zcv_X5_86 (cX5_byteAt_mc N w1 s) zob_26 rfl (by decide) (Nat.le_of_ble_eq_true rfl) dX5_takeNumber_77 rfl rfl (fun r3 s4 => ?_)
    refine zx_lift (pc' := 82) (fun _ => zq_bipush (v := 48) dX5_takeNumber_80 rfl rfl) ?_
    refine zx_lift (pc' := 83) (fun _ => zq_isub dX5_takeNumber_82 rfl) ?_
    refine zx_istore (pc' := 85) (ls' := fun x5 => [.ref 26, .int w1, .int w2, .int w3, .int w4, .int x5]) (by decide) rfl (fun _ => rfl) dX5_takeNumber_83 rfl (fun x5 => ?_)
    refine zx_lift (pc' := 86) (fun _ => zq_iload_n rfl rfl dX5_takeNumber_85 rfl) ?_
    refine zx_lift (pc' := 87) (fun _ => zq_iload_n rfl rfl dX5_takeNumber_86 rfl) ?_
    refine zx_lift (pc' := 88) (fun _ => zq_isub dX5_takeNumber_87 rfl) ?_
    refine zx_lift (pc' := 89) (fun _ => zq_iconst (v := 2) dX5_takeNumber_88 rfl rfl) ?_
    refine zx_icmp_ne (pc' := 92) (tgt := 110) dX5_takeNumber_89 rfl rfl (fun hc => ?_) (fun hc => ?_)
    · refine zx_less [.ref 26, .null, .null, .int w3, .int w4, .int x5] (zq_cr (zq_cz (zq_cz (zq_cr (zq_cr (zq_cr zq_cn)))))) ?_
      exact xX5_takeNumber_j110_j N w3 w4 x5 s4
    · refine zx_lift (pc' := 94) (fun _ => zq_bipush (v := 10) dX5_takeNumber_92 rfl rfl) ?_
      refine zx_lift (pc' := 96) (fun _ => zq_iload rfl dX5_takeNumber_94 rfl) ?_
      refine zx_lift (pc' := 97) (fun _ => zq_imul dX5_takeNumber_96 rfl) ?_
      refine zx_lift (pc' := 98) (fun _ => zq_aload_n rfl rfl dX5_takeNumber_97 rfl) ?_
      refine zx_lift (pc' := 99) (fun _ => zq_iload_n rfl rfl dX5_takeNumber_98 rfl) ?_
      refine zx_lift (pc' := 100) (fun _ => zq_iconst (v := 1) dX5_takeNumber_99 rfl rfl) ?_
      refine zx_lift (pc' := 101) (fun _ => zq_iadd dX5_takeNumber_100 rfl) ?_
      refine zx_cVi (pc' := 104) zcv_X5_86 (cX5_byteAt_mc N (w1 + (1 : Int32)) s4) zob_26 rfl (by decide) (Nat.le_of_ble_eq_true rfl) dX5_takeNumber_101 rfl rfl (fun r14 s15 => ?_)
      refine zx_lift (pc' := 105) (fun _ => zq_iadd dX5_takeNumber_104 rfl) ?_
      refine zx_lift (pc' := 107) (fun _ => zq_bipush (v := 48) dX5_takeNumber_105 rfl rfl) ?_
      refine zx_lift (pc' := 108) (fun _ => zq_isub dX5_takeNumber_107 rfl) ?_
      refine zx_istore (pc' := 110) (ls' := fun x16 => [.ref 26, .int w1, .int w2, .int w3, .int w4, .int x16]) (by decide) rfl (fun _ => rfl) dX5_takeNumber_108 rfl (fun x16 => ?_)
      refine zx_less [.ref 26, .null, .null, .int w3, .int w4, .int x16] (zq_cr (zq_cz (zq_cz (zq_cr (zq_cr (zq_cr zq_cn)))))) ?_
      exact xX5_takeNumber_j110_j N w3 w4 x16 s15
  · refine zx_lift (pc' := 74) (fun _ => zq_iconst (v := 2) dX5_takeNumber_73 rfl rfl) ?_
    exact zx_iret rfl dX5_takeNumber_74
def mX5_takeNumber (N : Nat)  (p1 : Int32) (p2 : Int32) (s : zq_S) : Option (Int32 × zq_S) :=
  zq_let (if (zgf s 26 4) < (5 : Int32) then (0 : Int32) else (if (8 : Int32) < (zgf s 26 4) then (0 : Int32) else (1 : Int32))) (fun x1 =>
  zq_let (if (zgf s 26 4) = (0 : Int32) then (1 : Int32) else (if (zgf s 26 4) = (9 : Int32) then (1 : Int32) else (if (zgf s 26 4) = (10 : Int32) then (1 : Int32) else (0 : Int32)))) (fun x2 =>
  if x1 = (0 : Int32) then
  if x2 = (0 : Int32) then
  some ((1 : Int32), s)
  else
  jX5_takeNumber_j66 N p1 p2 x1 x2 s
  else
  jX5_takeNumber_j66 N p1 p2 x1 x2 s))
set_option maxRecDepth 20000 in
set_option maxHeartbeats 2000000 in
theorem xX5_takeNumber (N : Nat)  (p1 : Int32) (p2 : Int32) (s : zq_S) : zq_X yX5_takeNumber RX5 cX5_takeNumber 6 (some .int) ⟨3, 0, 0, 69⟩ zv_i 0 [.ref 26, .int p1, .int p2, .null, .null, .null] [] s (mX5_takeNumber N p1 p2 s) := by
  unfold mX5_takeNumber
  refine zx_lift (pc' := 1) (fun _ => zq_aload_n rfl rfl dX5_takeNumber_0 rfl) ?_
  refine zx_lift (pc' := 4) (fun _ => zt_getI zfr_X5_48 zfd_26_4 dX5_takeNumber_1 rfl) ?_
  refine zx_lift (pc' := 5) (fun _ => zq_iconst (v := 5) dX5_takeNumber_4 rfl rfl) ?_
  refine zx_tern (pcJ := 22) (lsJ := fun x1 => [.ref 26, .int p1, .int p2, .null, .null, .null]) (stJ := fun x1 => [.int x1]) (fun x1 => ?_) (fun f hJ => ?_)
  rotate_left
  · refine zx_licmp_lt (pc' := 8) (tgt := 21) dX5_takeNumber_5 rfl rfl (fun _ => ?_) (fun _ => ?_)
    · refine zx_lift (pc' := 22) (fun _ => zq_iconst (v := 0) dX5_takeNumber_21 rfl rfl) ?_
      exact zx_lessJ (zq_cr (zq_cr (zq_cr (zq_cz (zq_cz (zq_cz zq_cn)))))) (hJ _)
    · refine zx_lift (pc' := 9) (fun _ => zq_aload_n rfl rfl dX5_takeNumber_8 rfl) ?_
      refine zx_lift (pc' := 12) (fun _ => zt_getI zfr_X5_48 zfd_26_4 dX5_takeNumber_9 rfl) ?_
      refine zx_lift (pc' := 14) (fun _ => zq_bipush (v := 8) dX5_takeNumber_12 rfl rfl) ?_
      refine zx_licmp_gt (pc' := 17) (tgt := 21) dX5_takeNumber_14 rfl rfl (fun _ => ?_) (fun _ => ?_)
      · refine zx_lift (pc' := 22) (fun _ => zq_iconst (v := 0) dX5_takeNumber_21 rfl rfl) ?_
        exact zx_lessJ (zq_cr (zq_cr (zq_cr (zq_cz (zq_cz (zq_cz zq_cn)))))) (hJ _)
      · refine zx_lift (pc' := 18) (fun _ => zq_iconst (v := 1) dX5_takeNumber_17 rfl rfl) ?_
        refine zx_lift (pc' := 22) (fun _ => zq_goto dX5_takeNumber_18 rfl) ?_
        exact zx_lessJ (zq_cr (zq_cr (zq_cr (zq_cz (zq_cz (zq_cz zq_cn)))))) (hJ _)
  refine zx_lift (pc' := 23) (fun _ => zq_istore_n (ls' := [.ref 26, .int p1, .int p2, .int x1, .null, .null]) rfl (by decide) rfl rfl dX5_takeNumber_22 rfl) ?_
  refine zx_lift (pc' := 24) (fun _ => zq_aload_n rfl rfl dX5_takeNumber_23 rfl) ?_
  refine zx_lift (pc' := 27) (fun _ => zt_getI zfr_X5_48 zfd_26_4 dX5_takeNumber_24 rfl) ?_
  refine zx_tern (pcJ := 53) (lsJ := fun x2 => [.ref 26, .int p1, .int p2, .int x1, .null, .null]) (stJ := fun x2 => [.int x2]) (fun x2 => ?_) (fun f hJ => ?_)
  rotate_left
  · refine zx_lif_eq (pc' := 30) (tgt := 48) dX5_takeNumber_27 rfl rfl (fun _ => ?_) (fun _ => ?_)
    · refine zx_lift (pc' := 49) (fun _ => zq_iconst (v := 1) dX5_takeNumber_48 rfl rfl) ?_
      refine zx_lift (pc' := 53) (fun _ => zq_goto dX5_takeNumber_49 rfl) ?_
      exact zx_lessJ (zq_cr (zq_cr (zq_cr (zq_cr (zq_cz (zq_cz zq_cn)))))) (hJ _)
    · refine zx_lift (pc' := 31) (fun _ => zq_aload_n rfl rfl dX5_takeNumber_30 rfl) ?_
      refine zx_lift (pc' := 34) (fun _ => zt_getI zfr_X5_48 zfd_26_4 dX5_takeNumber_31 rfl) ?_
      refine zx_lift (pc' := 36) (fun _ => zq_bipush (v := 9) dX5_takeNumber_34 rfl rfl) ?_
      refine zx_licmp_eq (pc' := 39) (tgt := 48) dX5_takeNumber_36 rfl rfl (fun _ => ?_) (fun _ => ?_)
      · refine zx_lift (pc' := 49) (fun _ => zq_iconst (v := 1) dX5_takeNumber_48 rfl rfl) ?_
        refine zx_lift (pc' := 53) (fun _ => zq_goto dX5_takeNumber_49 rfl) ?_
        exact zx_lessJ (zq_cr (zq_cr (zq_cr (zq_cr (zq_cz (zq_cz zq_cn)))))) (hJ _)
      · refine zx_lift (pc' := 40) (fun _ => zq_aload_n rfl rfl dX5_takeNumber_39 rfl) ?_
        refine zx_lift (pc' := 43) (fun _ => zt_getI zfr_X5_48 zfd_26_4 dX5_takeNumber_40 rfl) ?_
        refine zx_lift (pc' := 45) (fun _ => zq_bipush (v := 10) dX5_takeNumber_43 rfl rfl) ?_
        refine zx_licmp_ne (pc' := 48) (tgt := 52) dX5_takeNumber_45 rfl rfl (fun _ => ?_) (fun _ => ?_)
        · refine zx_lift (pc' := 53) (fun _ => zq_iconst (v := 0) dX5_takeNumber_52 rfl rfl) ?_
          exact zx_lessJ (zq_cr (zq_cr (zq_cr (zq_cr (zq_cz (zq_cz zq_cn)))))) (hJ _)
        · refine zx_lift (pc' := 49) (fun _ => zq_iconst (v := 1) dX5_takeNumber_48 rfl rfl) ?_
          refine zx_lift (pc' := 53) (fun _ => zq_goto dX5_takeNumber_49 rfl) ?_
          exact zx_lessJ (zq_cr (zq_cr (zq_cr (zq_cr (zq_cz (zq_cz zq_cn)))))) (hJ _)
  refine zx_lift (pc' := 55) (fun _ => zq_istore (ls' := [.ref 26, .int p1, .int p2, .int x1, .int x2, .null]) (by decide) rfl rfl dX5_takeNumber_53 rfl) ?_
  refine zx_lift (pc' := 56) (fun _ => zq_iload_n rfl rfl dX5_takeNumber_55 rfl) ?_
  refine zx_if_ne (pc' := 59) (tgt := 66) dX5_takeNumber_56 rfl rfl (fun hc => ?_) (fun hc => ?_)
  · exact xX5_takeNumber_j66_j N p1 p2 x1 x2 s
  · refine zx_lift (pc' := 61) (fun _ => zq_iload rfl dX5_takeNumber_59 rfl) ?_
    refine zx_if_ne (pc' := 64) (tgt := 66) dX5_takeNumber_61 rfl rfl (fun hc => ?_) (fun hc => ?_)
    · exact xX5_takeNumber_j66_j N p1 p2 x1 x2 s
    · refine zx_lift (pc' := 65) (fun _ => zq_iconst (v := 1) dX5_takeNumber_64 rfl rfl) ?_
      exact zx_iret rfl dX5_takeNumber_65
theorem cX5_takeNumber_mc (N : Nat)  (p1 : Int32) (p2 : Int32) (s : zq_S) (v : Int32 × zq_S) (h : mX5_takeNumber N p1 p2 s = some v) : zq_MC yX5_takeNumber cX5_takeNumber 6 (some .int) ⟨3, 0, 0, 69⟩ 0 0 [.ref 26, .int p1, .int p2] (zq_en s) (zv_i v.1, zq_en v.2) := zq_MC_x [.ref 26, .int p1, .int p2, .null, .null, .null] (by decide +kernel) rfl rfl (Nat.le_of_ble_eq_true rfl) (xX5_takeNumber N p1 p2 s) h
def jX5_takeToken_j34 (N : Nat)   (t0 : Int32) (s : zq_S) : Option (Int32 × zq_S) :=
  some (t0, s)
set_option maxRecDepth 20000 in
set_option maxHeartbeats 2000000 in
theorem xX5_takeToken_j34_j (N : Nat)   (t0 : Int32) (s : zq_S) : zq_X yX5_takeToken RX5 cX5_takeToken 3 (some .int) ⟨4, 0, 0, 94⟩ zv_i 34 [.null, .null, .null] [.int t0] s (jX5_takeToken_j34 N t0 s) := by
  unfold jX5_takeToken_j34
  exact zx_iret rfl dX5_takeToken_34
def mX5_takeToken (N : Nat)  (p1 : Int32) (p2 : Int32) (s : zq_S) : Option (Int32 × zq_S) :=
  zq_b2 (mX5_byteAt N p1 s) (fun r1 s2 =>
  if r1 = (32 : Int32) then
  some ((0 : Int32), s2)
  else
  zq_b2 (mX5_isFigure N p1 s2) (fun r3 s4 =>
  if r3 = (0 : Int32) then
  zq_b2 (mX5_takeSign N p1 s4) (fun r5 s6 =>
  jX5_takeToken_j34 N r5 s6)
  else
  zq_b2 (mX5_takeNumber N p1 p2 s4) (fun r7 s8 =>
  jX5_takeToken_j34 N r7 s8)))
set_option maxRecDepth 20000 in
set_option maxHeartbeats 2000000 in
theorem xX5_takeToken (N : Nat)  (p1 : Int32) (p2 : Int32) (s : zq_S) : zq_X yX5_takeToken RX5 cX5_takeToken 3 (some .int) ⟨4, 0, 0, 94⟩ zv_i 0 [.ref 26, .int p1, .int p2] [] s (mX5_takeToken N p1 p2 s) := by
  unfold mX5_takeToken
  refine zx_lift (pc' := 1) (fun _ => zq_aload_n rfl rfl dX5_takeToken_0 rfl) ?_
  refine zx_lift (pc' := 2) (fun _ => zq_iload_n rfl rfl dX5_takeToken_1 rfl) ?_
  refine zx_cVi (pc' := 5) zcv_X5_86 (cX5_byteAt_mc N p1 s) zob_26 rfl (by decide) (Nat.le_of_ble_eq_true rfl) dX5_takeToken_2 rfl rfl (fun r1 s2 => ?_)
  refine zx_lift (pc' := 7) (fun _ => zq_bipush (v := 32) dX5_takeToken_5 rfl rfl) ?_
  refine zx_icmp_ne (pc' := 10) (tgt := 12) dX5_takeToken_7 rfl rfl (fun hc => ?_) (fun hc => ?_)
  · refine zx_lift (pc' := 13) (fun _ => zq_aload_n rfl rfl dX5_takeToken_12 rfl) ?_
    refine zx_lift (pc' := 14) (fun _ => zq_iload_n rfl rfl dX5_takeToken_13 rfl) ?_
    refine zx_cVi (pc' := 17) zcv_X5_89 (cX5_isFigure_mc N p1 s2) zob_26 rfl (by decide) (Nat.le_of_ble_eq_true rfl) dX5_takeToken_14 rfl rfl (fun r3 s4 => ?_)
    refine zx_if_eq (pc' := 20) (tgt := 29) dX5_takeToken_17 rfl rfl (fun hc => ?_) (fun hc => ?_)
    · refine zx_lift (pc' := 30) (fun _ => zq_aload_n rfl rfl dX5_takeToken_29 rfl) ?_
      refine zx_lift (pc' := 31) (fun _ => zq_iload_n rfl rfl dX5_takeToken_30 rfl) ?_
      refine zx_cVi (pc' := 34) zcv_X5_96 (cX5_takeSign_mc N p1 s4) zob_26 rfl (by decide) (Nat.le_of_ble_eq_true rfl) dX5_takeToken_31 rfl rfl (fun r5 s6 => ?_)
      refine zx_less [.null, .null, .null] (zq_cz (zq_cz (zq_cz zq_cn))) ?_
      exact xX5_takeToken_j34_j N r5 s6
    · refine zx_lift (pc' := 21) (fun _ => zq_aload_n rfl rfl dX5_takeToken_20 rfl) ?_
      refine zx_lift (pc' := 22) (fun _ => zq_iload_n rfl rfl dX5_takeToken_21 rfl) ?_
      refine zx_lift (pc' := 23) (fun _ => zq_iload_n rfl rfl dX5_takeToken_22 rfl) ?_
      refine zx_cVi (pc' := 26) zcv_X5_93 (cX5_takeNumber_mc N p1 p2 s4) zob_26 rfl (by decide) (Nat.le_of_ble_eq_true rfl) dX5_takeToken_23 rfl rfl (fun r7 s8 => ?_)
      refine zx_lift (pc' := 34) (fun _ => zq_goto dX5_takeToken_26 rfl) ?_
      refine zx_less [.null, .null, .null] (zq_cz (zq_cz (zq_cz zq_cn))) ?_
      exact xX5_takeToken_j34_j N r7 s8
  · refine zx_lift (pc' := 11) (fun _ => zq_iconst (v := 0) dX5_takeToken_10 rfl rfl) ?_
    exact zx_iret rfl dX5_takeToken_11
theorem cX5_takeToken_mc (N : Nat)  (p1 : Int32) (p2 : Int32) (s : zq_S) (v : Int32 × zq_S) (h : mX5_takeToken N p1 p2 s = some v) : zq_MC yX5_takeToken cX5_takeToken 3 (some .int) ⟨4, 0, 0, 94⟩ 0 0 [.ref 26, .int p1, .int p2] (zq_en s) (zv_i v.1, zq_en v.2) := zq_MC_x [.ref 26, .int p1, .int p2] (by decide +kernel) rfl rfl (Nat.le_of_ble_eq_true rfl) (xX5_takeToken N p1 p2 s) h
def bX5_loneArrow_4 (N : Nat)    (self : Int32 × Int32 × zq_S → Option (Int32 × zq_S)) (v : Int32 × Int32 × zq_S) : Option (Int32 × zq_S) :=
  if (10 : Int32) ≤ v.2.1 then
  some (v.1, v.2.2)
  else
  zq_ck v.2.1 10 (
  zq_let (if (zga v.2.2 29 v.2.1) = (-1 : Int32) then (1 : Int32) else (0 : Int32)) (fun x1 =>
  zq_ck v.2.1 10 (
  zq_let (if (zga v.2.2 30 v.2.1) = (-1 : Int32) then (1 : Int32) else (0 : Int32)) (fun x2 =>
  zq_let (if x1 = x2 then (0 : Int32) else (1 : Int32)) (fun x3 =>
  zq_ck v.2.1 10 (
  zq_ck v.2.1 10 (
  zq_b2 (mJ9_max_7cf53 N (zga v.2.2 29 v.2.1) (zga v.2.2 30 v.2.1) v.2.2) (fun r4 s5 =>
  zq_let (if x3 = (0 : Int32) then v.1 else (if v.1 = (-1 : Int32) then r4 else (if v.1 ≤ r4 then v.1 else r4))) (fun x6 =>
  zq_let (v.2.1 + (1 : Int32)) (fun x7 =>
  self (x6, x7, s5)))))))))))
set_option maxRecDepth 20000 in
set_option maxHeartbeats 2000000 in
theorem xX5_loneArrow_4 (N : Nat)    (self : Int32 × Int32 × zq_S → Option (Int32 × zq_S)) (hself : ∀ v, zq_X yX5_loneArrow RX5 cX5_loneArrow 5 (some .int) ⟨1, 0, 0, 21⟩ zv_i 4 [.ref 26, .int v.1, .int v.2.1, .null, .null] [] v.2.2 (self v)) (v : Int32 × Int32 × zq_S) : zq_X yX5_loneArrow RX5 cX5_loneArrow 5 (some .int) ⟨1, 0, 0, 21⟩ zv_i 4 [.ref 26, .int v.1, .int v.2.1, .null, .null] [] v.2.2 (bX5_loneArrow_4 N self v) := by
  unfold bX5_loneArrow_4
  refine zx_lift (pc' := 5) (fun _ => zq_iload_n rfl rfl dX5_loneArrow_4 rfl) ?_
  refine zx_lift (pc' := 7) (fun _ => zq_bipush (v := 10) dX5_loneArrow_5 rfl rfl) ?_
  refine zx_icmp_ge (pc' := 10) (tgt := 90) dX5_loneArrow_7 rfl rfl (fun hc => ?_) (fun hc => ?_)
  · refine zx_lift (pc' := 91) (fun _ => zq_iload_n rfl rfl dX5_loneArrow_90 rfl) ?_
    exact zx_iret rfl dX5_loneArrow_91
  · refine zx_lift (pc' := 11) (fun _ => zq_aload_n rfl rfl dX5_loneArrow_10 rfl) ?_
    refine zx_lift (pc' := 14) (fun _ => zt_getR zfr_X5_23 zfd_26_10 dX5_loneArrow_11 rfl) ?_
    refine zx_lift (pc' := 15) (fun _ => zq_iload_n rfl rfl dX5_loneArrow_14 rfl) ?_
    refine zx_iaload (pc' := 16) zsh_29 dX5_loneArrow_15 rfl ?_
    refine zx_lift (pc' := 17) (fun _ => zq_iconst (v := (-1)) dX5_loneArrow_16 rfl rfl) ?_
    refine zx_tern (pcJ := 25) (lsJ := fun x1 => [.ref 26, .int v.1, .int v.2.1, .null, .null]) (stJ := fun x1 => [.int x1]) (fun x1 => ?_) (fun f hJ => ?_)
    rotate_left
    · refine zx_licmp_ne (pc' := 20) (tgt := 24) dX5_loneArrow_17 rfl rfl (fun _ => ?_) (fun _ => ?_)
      · refine zx_lift (pc' := 25) (fun _ => zq_iconst (v := 0) dX5_loneArrow_24 rfl rfl) ?_
        exact zx_lessJ (zq_cr (zq_cr (zq_cr (zq_cz (zq_cz zq_cn))))) (hJ _)
      · refine zx_lift (pc' := 21) (fun _ => zq_iconst (v := 1) dX5_loneArrow_20 rfl rfl) ?_
        refine zx_lift (pc' := 25) (fun _ => zq_goto dX5_loneArrow_21 rfl) ?_
        exact zx_lessJ (zq_cr (zq_cr (zq_cr (zq_cz (zq_cz zq_cn))))) (hJ _)
    refine zx_lift (pc' := 26) (fun _ => zq_aload_n rfl rfl dX5_loneArrow_25 rfl) ?_
    refine zx_lift (pc' := 29) (fun _ => zt_getR zfr_X5_26 zfd_26_11 dX5_loneArrow_26 rfl) ?_
    refine zx_lift (pc' := 30) (fun _ => zq_iload_n rfl rfl dX5_loneArrow_29 rfl) ?_
    refine zx_iaload (pc' := 31) zsh_30 dX5_loneArrow_30 rfl ?_
    refine zx_lift (pc' := 32) (fun _ => zq_iconst (v := (-1)) dX5_loneArrow_31 rfl rfl) ?_
    refine zx_tern (pcJ := 40) (lsJ := fun x2 => [.ref 26, .int v.1, .int v.2.1, .null, .null]) (stJ := fun x2 => [.int x2, .int x1]) (fun x2 => ?_) (fun f hJ => ?_)
    rotate_left
    · refine zx_licmp_ne (pc' := 35) (tgt := 39) dX5_loneArrow_32 rfl rfl (fun _ => ?_) (fun _ => ?_)
      · refine zx_lift (pc' := 40) (fun _ => zq_iconst (v := 0) dX5_loneArrow_39 rfl rfl) ?_
        exact zx_lessJ (zq_cr (zq_cr (zq_cr (zq_cz (zq_cz zq_cn))))) (hJ _)
      · refine zx_lift (pc' := 36) (fun _ => zq_iconst (v := 1) dX5_loneArrow_35 rfl rfl) ?_
        refine zx_lift (pc' := 40) (fun _ => zq_goto dX5_loneArrow_36 rfl) ?_
        exact zx_lessJ (zq_cr (zq_cr (zq_cr (zq_cz (zq_cz zq_cn))))) (hJ _)
    refine zx_tern (pcJ := 48) (lsJ := fun x3 => [.ref 26, .int v.1, .int v.2.1, .null, .null]) (stJ := fun x3 => [.int x3]) (fun x3 => ?_) (fun f hJ => ?_)
    rotate_left
    · refine zx_licmp_eq (pc' := 43) (tgt := 47) dX5_loneArrow_40 rfl rfl (fun _ => ?_) (fun _ => ?_)
      · refine zx_lift (pc' := 48) (fun _ => zq_iconst (v := 0) dX5_loneArrow_47 rfl rfl) ?_
        exact zx_lessJ (zq_cr (zq_cr (zq_cr (zq_cz (zq_cz zq_cn))))) (hJ _)
      · refine zx_lift (pc' := 44) (fun _ => zq_iconst (v := 1) dX5_loneArrow_43 rfl rfl) ?_
        refine zx_lift (pc' := 48) (fun _ => zq_goto dX5_loneArrow_44 rfl) ?_
        exact zx_lessJ (zq_cr (zq_cr (zq_cr (zq_cz (zq_cz zq_cn))))) (hJ _)
    refine zx_lift (pc' := 49) (fun _ => zq_istore_n (ls' := [.ref 26, .int v.1, .int v.2.1, .int x3, .null]) rfl (by decide) rfl rfl dX5_loneArrow_48 rfl) ?_
    refine zx_lift (pc' := 50) (fun _ => zq_aload_n rfl rfl dX5_loneArrow_49 rfl) ?_
    refine zx_lift (pc' := 53) (fun _ => zt_getR zfr_X5_23 zfd_26_10 dX5_loneArrow_50 rfl) ?_
    refine zx_lift (pc' := 54) (fun _ => zq_iload_n rfl rfl dX5_loneArrow_53 rfl) ?_
    refine zx_iaload (pc' := 55) zsh_29 dX5_loneArrow_54 rfl ?_
    refine zx_lift (pc' := 56) (fun _ => zq_aload_n rfl rfl dX5_loneArrow_55 rfl) ?_
    refine zx_lift (pc' := 59) (fun _ => zt_getR zfr_X5_26 zfd_26_11 dX5_loneArrow_56 rfl) ?_
    refine zx_lift (pc' := 60) (fun _ => zq_iload_n rfl rfl dX5_loneArrow_59 rfl) ?_
    refine zx_iaload (pc' := 61) zsh_30 dX5_loneArrow_60 rfl ?_
    refine zx_cSi (pc' := 64) zcs_X5_152 (cJ9_max_7cf53_mc N (zga v.2.2 29 v.2.1) (zga v.2.2 30 v.2.1) v.2.2) rfl (by decide) (Nat.le_of_ble_eq_true rfl) dX5_loneArrow_61 rfl rfl (fun r4 s5 => ?_)
    refine zx_lift (pc' := 66) (fun _ => zq_istore (ls' := [.ref 26, .int v.1, .int v.2.1, .int x3, .int r4]) (by decide) rfl rfl dX5_loneArrow_64 rfl) ?_
    refine zx_lift (pc' := 67) (fun _ => zq_iload_n rfl rfl dX5_loneArrow_66 rfl) ?_
    refine zx_tern (pcJ := 84) (lsJ := fun x6 => [.ref 26, .int x6, .int v.2.1, .null, .null]) (stJ := fun x6 => []) (fun x6 => ?_) (fun f hJ => ?_)
    rotate_left
    · refine zx_lif_eq (pc' := 70) (tgt := 84) dX5_loneArrow_67 rfl rfl (fun _ => ?_) (fun _ => ?_)
      · exact zx_lessJ (zq_cr (zq_cr (zq_cr (zq_cz (zq_cz zq_cn))))) (hJ _)
      · refine zx_lift (pc' := 71) (fun _ => zq_iload_n rfl rfl dX5_loneArrow_70 rfl) ?_
        refine zx_lift (pc' := 72) (fun _ => zq_iconst (v := (-1)) dX5_loneArrow_71 rfl rfl) ?_
        refine zx_licmp_eq (pc' := 75) (tgt := 81) dX5_loneArrow_72 rfl rfl (fun _ => ?_) (fun _ => ?_)
        · refine zx_lift (pc' := 83) (fun _ => zq_iload rfl dX5_loneArrow_81 rfl) ?_
          refine zx_lift (pc' := 84) (fun _ => zq_istore_n (ls' := [.ref 26, .int r4, .int v.2.1, .int x3, .int r4]) rfl (by decide) rfl rfl dX5_loneArrow_83 rfl) ?_
          exact zx_lessJ (zq_cr (zq_cr (zq_cr (zq_cz (zq_cz zq_cn))))) (hJ _)
        · refine zx_lift (pc' := 77) (fun _ => zq_iload rfl dX5_loneArrow_75 rfl) ?_
          refine zx_lift (pc' := 78) (fun _ => zq_iload_n rfl rfl dX5_loneArrow_77 rfl) ?_
          refine zx_licmp_ge (pc' := 81) (tgt := 84) dX5_loneArrow_78 rfl rfl (fun _ => ?_) (fun _ => ?_)
          · exact zx_lessJ (zq_cr (zq_cr (zq_cr (zq_cz (zq_cz zq_cn))))) (hJ _)
          · refine zx_lift (pc' := 83) (fun _ => zq_iload rfl dX5_loneArrow_81 rfl) ?_
            refine zx_lift (pc' := 84) (fun _ => zq_istore_n (ls' := [.ref 26, .int r4, .int v.2.1, .int x3, .int r4]) rfl (by decide) rfl rfl dX5_loneArrow_83 rfl) ?_
            exact zx_lessJ (zq_cr (zq_cr (zq_cr (zq_cz (zq_cz zq_cn))))) (hJ _)
    refine zx_iinc (pc' := 87) (ls' := fun x7 => [.ref 26, .int x6, .int x7, .null, .null]) rfl rfl (by decide) rfl (fun _ => rfl) dX5_loneArrow_84 rfl (fun x7 => ?_)
    refine zx_lift (pc' := 4) (fun _ => zq_goto dX5_loneArrow_87 rfl) ?_
    exact hself (x6, x7, s5)
theorem yX5_loneArrow_4 (N : Nat)    (n : Nat) : ∀ v : Int32 × Int32 × zq_S, zq_X yX5_loneArrow RX5 cX5_loneArrow 5 (some .int) ⟨1, 0, 0, 21⟩ zv_i 4 [.ref 26, .int v.1, .int v.2.1, .null, .null] [] v.2.2 (zq_loop (bX5_loneArrow_4 N ) n v) := by
  induction n with
  | zero => exact fun v u hu => by cases hu
  | succ n ih =>
    intro v
    rw [zq_loop_s]
    exact xX5_loneArrow_4 N  (zq_loop (bX5_loneArrow_4 N ) n) ih v
def mX5_loneArrow (N : Nat)   (s : zq_S) : Option (Int32 × zq_S) :=
  zq_loop (bX5_loneArrow_4 N ) N ((-1 : Int32), (0 : Int32), s)
set_option maxRecDepth 20000 in
set_option maxHeartbeats 2000000 in
theorem xX5_loneArrow (N : Nat)   (s : zq_S) : zq_X yX5_loneArrow RX5 cX5_loneArrow 5 (some .int) ⟨1, 0, 0, 21⟩ zv_i 0 [.ref 26, .null, .null, .null, .null] [] s (mX5_loneArrow N s) := by
  unfold mX5_loneArrow
  refine zx_lift (pc' := 1) (fun _ => zq_iconst (v := (-1)) dX5_loneArrow_0 rfl rfl) ?_
  refine zx_lift (pc' := 2) (fun _ => zq_istore_n (ls' := [.ref 26, .int (-1 : Int32), .null, .null, .null]) rfl (by decide) rfl rfl dX5_loneArrow_1 rfl) ?_
  refine zx_lift (pc' := 3) (fun _ => zq_iconst (v := 0) dX5_loneArrow_2 rfl rfl) ?_
  refine zx_lift (pc' := 4) (fun _ => zq_istore_n (ls' := [.ref 26, .int (-1 : Int32), .int (0 : Int32), .null, .null]) rfl (by decide) rfl rfl dX5_loneArrow_3 rfl) ?_
  refine yX5_loneArrow_4 N  N ((-1 : Int32), (0 : Int32), s)
theorem cX5_loneArrow_mc (N : Nat)   (s : zq_S) (v : Int32 × zq_S) (h : mX5_loneArrow N s = some v) : zq_MC yX5_loneArrow cX5_loneArrow 5 (some .int) ⟨1, 0, 0, 21⟩ 0 0 [.ref 26] (zq_en s) (zv_i v.1, zq_en v.2) := zq_MC_x [.ref 26, .null, .null, .null, .null] (by decide +kernel) rfl rfl (Nat.le_of_ble_eq_true rfl) (xX5_loneArrow N s) h
def bX5_readInto_12 (N : Nat) (b1 : Bool)  (k64 : Int32 × Int32 × zq_S → Option (Int32 × zq_S)) (self : Int32 × Int32 × Int32 × zq_S → Option (Int32 × zq_S)) (v : Int32 × Int32 × Int32 × zq_S) : Option (Int32 × zq_S) :=
  if (400 : Int32) ≤ v.2.2.1 then
  k64 (v.1, v.2.1, v.2.2.2)
  else
  if (zgf v.2.2.2 26 1) ≤ v.1 then
  k64 (v.1, v.2.1, v.2.2.2)
  else
  if v.2.1 = (0 : Int32) then
  zq_b2 (mX5_endOfToken N v.1 v.2.2.2) (fun r3 s4 =>
  zq_b2 (mX5_takeToken N v.1 r3 s4) (fun r5 s6 =>
  zq_let (if r5 = (0 : Int32) then r3 else v.1) (fun x7 =>
  zq_let (v.2.2.1 + (1 : Int32)) (fun x8 =>
  self (x7, r5, x8, s6)))))
  else
  k64 (v.1, v.2.1, v.2.2.2)
set_option maxRecDepth 20000 in
set_option maxHeartbeats 2000000 in
theorem xX5_readInto_12 (N : Nat) (b1 : Bool)  (k64 : Int32 × Int32 × zq_S → Option (Int32 × zq_S)) (hk64 : ∀ e, zq_X yX5_readInto RX5 cX5_readInto 6 (some .int) ⟨5, 0, 0, 116⟩ zv_i 64 [.ref 26, .ref (zs b1), .int e.1, .int e.2.1, .null, .null] [] e.2.2 (k64 e)) (self : Int32 × Int32 × Int32 × zq_S → Option (Int32 × zq_S)) (hself : ∀ v, zq_X yX5_readInto RX5 cX5_readInto 6 (some .int) ⟨5, 0, 0, 116⟩ zv_i 12 [.ref 26, .ref (zs b1), .int v.1, .int v.2.1, .int v.2.2.1, .null] [] v.2.2.2 (self v)) (v : Int32 × Int32 × Int32 × zq_S) : zq_X yX5_readInto RX5 cX5_readInto 6 (some .int) ⟨5, 0, 0, 116⟩ zv_i 12 [.ref 26, .ref (zs b1), .int v.1, .int v.2.1, .int v.2.2.1, .null] [] v.2.2.2 (bX5_readInto_12 N b1 k64 self v) := by
  unfold bX5_readInto_12
  refine zx_lift (pc' := 14) (fun _ => zq_iload rfl dX5_readInto_12 rfl) ?_
  refine zx_lift (pc' := 17) (fun _ => zq_sipush (v := 400) dX5_readInto_14 rfl rfl) ?_
  refine zx_icmp_ge (pc' := 20) (tgt := 64) dX5_readInto_17 rfl rfl (fun hc => ?_) (fun hc => ?_)
  · refine zx_less [.ref 26, .ref (zs b1), .int v.1, .int v.2.1, .null, .null] (zq_cr (zq_cr (zq_cr (zq_cr (zq_cz (zq_cz zq_cn)))))) ?_
    exact hk64 (v.1, v.2.1, v.2.2.2)
  · refine zx_lift (pc' := 21) (fun _ => zq_iload_n rfl rfl dX5_readInto_20 rfl) ?_
    refine zx_lift (pc' := 22) (fun _ => zq_aload_n rfl rfl dX5_readInto_21 rfl) ?_
    refine zx_lift (pc' := 25) (fun _ => zt_getI zfr_X5_33 zfd_26_1 dX5_readInto_22 rfl) ?_
    refine zx_icmp_ge (pc' := 28) (tgt := 64) dX5_readInto_25 rfl rfl (fun hc => ?_) (fun hc => ?_)
    · refine zx_less [.ref 26, .ref (zs b1), .int v.1, .int v.2.1, .null, .null] (zq_cr (zq_cr (zq_cr (zq_cr (zq_cz (zq_cz zq_cn)))))) ?_
      exact hk64 (v.1, v.2.1, v.2.2.2)
    · refine zx_lift (pc' := 29) (fun _ => zq_iload_n rfl rfl dX5_readInto_28 rfl) ?_
      refine zx_if_ne (pc' := 32) (tgt := 64) dX5_readInto_29 rfl rfl (fun hc => ?_) (fun hc => ?_)
      · refine zx_less [.ref 26, .ref (zs b1), .int v.1, .int v.2.1, .null, .null] (zq_cr (zq_cr (zq_cr (zq_cr (zq_cz (zq_cz zq_cn)))))) ?_
        exact hk64 (v.1, v.2.1, v.2.2.2)
      · refine zx_lift (pc' := 33) (fun _ => zq_aload_n rfl rfl dX5_readInto_32 rfl) ?_
        refine zx_lift (pc' := 34) (fun _ => zq_iload_n rfl rfl dX5_readInto_33 rfl) ?_
        refine zx_cVi (pc' := 37) zcv_X5_40 (cX5_endOfToken_mc N v.1 v.2.2.2) zob_26 rfl (by decide) (Nat.le_of_ble_eq_true rfl) dX5_readInto_34 rfl rfl (fun r3 s4 => ?_)
        refine zx_lift (pc' := 39) (fun _ => zq_istore (ls' := [.ref 26, .ref (zs b1), .int v.1, .int v.2.1, .int v.2.2.1, .int r3]) (by decide) rfl rfl dX5_readInto_37 rfl) ?_
        refine zx_lift (pc' := 40) (fun _ => zq_aload_n rfl rfl dX5_readInto_39 rfl) ?_
        refine zx_lift (pc' := 41) (fun _ => zq_iload_n rfl rfl dX5_readInto_40 rfl) ?_
        refine zx_lift (pc' := 43) (fun _ => zq_iload rfl dX5_readInto_41 rfl) ?_
        refine zx_cVi (pc' := 46) zcv_X5_44 (cX5_takeToken_mc N v.1 r3 s4) zob_26 rfl (by decide) (Nat.le_of_ble_eq_true rfl) dX5_readInto_43 rfl rfl (fun r5 s6 => ?_)
        refine zx_lift (pc' := 47) (fun _ => zq_istore_n (ls' := [.ref 26, .ref (zs b1), .int v.1, .int r5, .int v.2.2.1, .int r3]) rfl (by decide) rfl rfl dX5_readInto_46 rfl) ?_
        refine zx_lift (pc' := 48) (fun _ => zq_iload_n rfl rfl dX5_readInto_47 rfl) ?_
        refine zx_tern (pcJ := 57) (lsJ := fun x7 => [.ref 26, .ref (zs b1), .null, .int r5, .int v.2.2.1, .null]) (stJ := fun x7 => [.int x7]) (fun x7 => ?_) (fun f hJ => ?_)
        rotate_left
        · refine zx_lif_ne (pc' := 51) (tgt := 56) dX5_readInto_48 rfl rfl (fun _ => ?_) (fun _ => ?_)
          · refine zx_lift (pc' := 57) (fun _ => zq_iload_n rfl rfl dX5_readInto_56 rfl) ?_
            exact zx_lessJ (zq_cr (zq_cr (zq_cz (zq_cr (zq_cr (zq_cz zq_cn)))))) (hJ _)
          · refine zx_lift (pc' := 53) (fun _ => zq_iload rfl dX5_readInto_51 rfl) ?_
            refine zx_lift (pc' := 57) (fun _ => zq_goto dX5_readInto_53 rfl) ?_
            exact zx_lessJ (zq_cr (zq_cr (zq_cz (zq_cr (zq_cr (zq_cz zq_cn)))))) (hJ _)
        refine zx_lift (pc' := 58) (fun _ => zq_istore_n (ls' := [.ref 26, .ref (zs b1), .int x7, .int r5, .int v.2.2.1, .null]) rfl (by decide) rfl rfl dX5_readInto_57 rfl) ?_
        refine zx_iinc (pc' := 61) (ls' := fun x8 => [.ref 26, .ref (zs b1), .int x7, .int r5, .int x8, .null]) rfl rfl (by decide) rfl (fun _ => rfl) dX5_readInto_58 rfl (fun x8 => ?_)
        refine zx_lift (pc' := 12) (fun _ => zq_goto dX5_readInto_61 rfl) ?_
        exact hself (x7, r5, x8, s6)
theorem yX5_readInto_12 (N : Nat) (b1 : Bool)  (k64 : Int32 × Int32 × zq_S → Option (Int32 × zq_S)) (hk64 : ∀ e, zq_X yX5_readInto RX5 cX5_readInto 6 (some .int) ⟨5, 0, 0, 116⟩ zv_i 64 [.ref 26, .ref (zs b1), .int e.1, .int e.2.1, .null, .null] [] e.2.2 (k64 e)) (n : Nat) : ∀ v : Int32 × Int32 × Int32 × zq_S, zq_X yX5_readInto RX5 cX5_readInto 6 (some .int) ⟨5, 0, 0, 116⟩ zv_i 12 [.ref 26, .ref (zs b1), .int v.1, .int v.2.1, .int v.2.2.1, .null] [] v.2.2.2 (zq_loop (bX5_readInto_12 N b1 k64) n v) := by
  induction n with
  | zero => exact fun v u hu => by cases hu
  | succ n ih =>
    intro v
    rw [zq_loop_s]
    exact xX5_readInto_12 N b1 k64 hk64 (zq_loop (bX5_readInto_12 N b1 k64) n) ih v
def jX5_readInto_j106 (N : Nat) (b1 : Bool)  (w2 : Int32) (w3 : Int32) (s : zq_S) : Option (Int32 × zq_S) :=
  zq_let (if w3 = (0 : Int32) then (if ((zgf s 26 7) &&& ((zgf s 26 7) + (1 : Int32))) = (0 : Int32) then w3 else (7 : Int32)) else w3) (fun x13 =>
  zq_let (if x13 = (0 : Int32) then (-1 : Int32) else w2) (fun x14 =>
  zq_let (zpf s 26 2 x14) (fun s15 =>
  zq_b2 (mJ6_bitCount_0f7a4 N (zgf s15 26 7) s15) (fun r16 s17 =>
  zq_let (zpf s17 (zs b1) 7 r16) (fun s18 =>
  zq_let (zpf s18 26 1 (0 : Int32)) (fun s19 =>
  some (x13, s19)))))))
set_option maxRecDepth 20000 in
set_option maxHeartbeats 2000000 in
theorem xX5_readInto_j106_j (N : Nat) (b1 : Bool)  (w2 : Int32) (w3 : Int32) (s : zq_S) : zq_X yX5_readInto RX5 cX5_readInto 6 (some .int) ⟨5, 0, 0, 116⟩ zv_i 106 [.ref 26, .ref (zs b1), .int w2, .int w3, .null, .null] [] s (jX5_readInto_j106 N b1 w2 w3 s) := by
  unfold jX5_readInto_j106
  refine zx_lift (pc' := 107) (fun _ => zq_iload_n rfl rfl dX5_readInto_106 rfl) ?_
  refine zx_tern (pcJ := 127) (lsJ := fun x13 => [.ref 26, .ref (zs b1), .int w2, .int x13, .null, .null]) (stJ := fun x13 => []) (fun x13 => ?_) (fun f hJ => ?_)
  rotate_left
  · refine zx_lif_ne (pc' := 110) (tgt := 127) dX5_readInto_107 rfl rfl (fun _ => ?_) (fun _ => ?_)
    · exact zx_lessJ (zq_cr (zq_cr (zq_cr (zq_cr (zq_cz (zq_cz zq_cn)))))) (hJ _)
    · refine zx_lift (pc' := 111) (fun _ => zq_aload_n rfl rfl dX5_readInto_110 rfl) ?_
      refine zx_lift (pc' := 114) (fun _ => zt_getI zfr_X5_58 zfd_26_7 dX5_readInto_111 rfl) ?_
      refine zx_lift (pc' := 115) (fun _ => zq_aload_n rfl rfl dX5_readInto_114 rfl) ?_
      refine zx_lift (pc' := 118) (fun _ => zt_getI zfr_X5_58 zfd_26_7 dX5_readInto_115 rfl) ?_
      refine zx_lift (pc' := 119) (fun _ => zq_iconst (v := 1) dX5_readInto_118 rfl rfl) ?_
      refine zx_lift (pc' := 120) (fun _ => zq_iadd dX5_readInto_119 rfl) ?_
      refine zx_lift (pc' := 121) (fun _ => zq_iand dX5_readInto_120 rfl) ?_
      refine zx_lif_eq (pc' := 124) (tgt := 127) dX5_readInto_121 rfl rfl (fun _ => ?_) (fun _ => ?_)
      · exact zx_lessJ (zq_cr (zq_cr (zq_cr (zq_cr (zq_cz (zq_cz zq_cn)))))) (hJ _)
      · refine zx_lift (pc' := 126) (fun _ => zq_bipush (v := 7) dX5_readInto_124 rfl rfl) ?_
        refine zx_lift (pc' := 127) (fun _ => zq_istore_n (ls' := [.ref 26, .ref (zs b1), .int w2, .int (7 : Int32), .null, .null]) rfl (by decide) rfl rfl dX5_readInto_126 rfl) ?_
        exact zx_lessJ (zq_cr (zq_cr (zq_cr (zq_cr (zq_cz (zq_cz zq_cn)))))) (hJ _)
  refine zx_lift (pc' := 128) (fun _ => zq_aload_n rfl rfl dX5_readInto_127 rfl) ?_
  refine zx_lift (pc' := 129) (fun _ => zq_iload_n rfl rfl dX5_readInto_128 rfl) ?_
  refine zx_tern (pcJ := 137) (lsJ := fun x14 => [.ref 26, .ref (zs b1), .null, .int x13, .null, .null]) (stJ := fun x14 => [.int x14, .ref 26]) (fun x14 => ?_) (fun f hJ => ?_)
  rotate_left
  · refine zx_lif_ne (pc' := 132) (tgt := 136) dX5_readInto_129 rfl rfl (fun _ => ?_) (fun _ => ?_)
    · refine zx_lift (pc' := 137) (fun _ => zq_iload_n rfl rfl dX5_readInto_136 rfl) ?_
      exact zx_lessJ (zq_cr (zq_cr (zq_cz (zq_cr (zq_cz (zq_cz zq_cn)))))) (hJ _)
    · refine zx_lift (pc' := 133) (fun _ => zq_iconst (v := (-1)) dX5_readInto_132 rfl rfl) ?_
      refine zx_lift (pc' := 137) (fun _ => zq_goto dX5_readInto_133 rfl) ?_
      exact zx_lessJ (zq_cr (zq_cr (zq_cz (zq_cr (zq_cz (zq_cz zq_cn)))))) (hJ _)
  refine zx_putI (pc' := 140) zfr_X5_15 (fun _ => ⟨rfl, rfl⟩) zfd_26_2 dX5_readInto_137 rfl (fun s15 => ?_)
  refine zx_lift (pc' := 141) (fun _ => zq_aload_n rfl rfl dX5_readInto_140 rfl) ?_
  refine zx_lift (pc' := 142) (fun _ => zq_aload_n rfl rfl dX5_readInto_141 rfl) ?_
  refine zx_lift (pc' := 145) (fun _ => zt_getI zfr_X5_58 zfd_26_7 dX5_readInto_142 rfl) ?_
  refine zx_cSi (pc' := 148) zcs_X5_61 (cJ6_bitCount_0f7a4_mc N (zgf s15 26 7) s15) rfl (by decide) (Nat.le_of_ble_eq_true rfl) dX5_readInto_145 rfl rfl (fun r16 s17 => ?_)
  refine zx_putI (pc' := 151) zfr_X5_66 (fun _ => ⟨rfl, rfl⟩) (zfd_s_7 b1) dX5_readInto_148 rfl (fun s18 => ?_)
  refine zx_lift (pc' := 152) (fun _ => zq_aload_n rfl rfl dX5_readInto_151 rfl) ?_
  refine zx_lift (pc' := 153) (fun _ => zq_iconst (v := 0) dX5_readInto_152 rfl rfl) ?_
  refine zx_putI (pc' := 156) zfr_X5_33 (fun _ => ⟨rfl, rfl⟩) zfd_26_1 dX5_readInto_153 rfl (fun s19 => ?_)
  refine zx_lift (pc' := 157) (fun _ => zq_iload_n rfl rfl dX5_readInto_156 rfl) ?_
  exact zx_iret rfl dX5_readInto_157
def jX5_readInto_j64 (N : Nat) (b1 : Bool)  (w2 : Int32) (w3 : Int32) (s : zq_S) : Option (Int32 × zq_S) :=
  zq_let (if w3 = (0 : Int32) then (if (zgf s 26 4) = (0 : Int32) then (if (zgf s 26 6) ≤ (0 : Int32) then w3 else (1 : Int32)) else (1 : Int32)) else w3) (fun x10 =>
  zq_b2 (mX5_loneArrow N s) (fun r11 s12 =>
  if x10 = (0 : Int32) then
  if r11 = (-1 : Int32) then
  jX5_readInto_j106 N b1 w2 x10 s12
  else
  jX5_readInto_j106 N b1 r11 (6 : Int32) s12
  else
  jX5_readInto_j106 N b1 w2 x10 s12))
set_option maxRecDepth 20000 in
set_option maxHeartbeats 2000000 in
theorem xX5_readInto_j64_j (N : Nat) (b1 : Bool)  (w2 : Int32) (w3 : Int32) (s : zq_S) : zq_X yX5_readInto RX5 cX5_readInto 6 (some .int) ⟨5, 0, 0, 116⟩ zv_i 64 [.ref 26, .ref (zs b1), .int w2, .int w3, .null, .null] [] s (jX5_readInto_j64 N b1 w2 w3 s) := by
  unfold jX5_readInto_j64
  refine zx_lift (pc' := 65) (fun _ => zq_iload_n rfl rfl dX5_readInto_64 rfl) ?_
  refine zx_tern (pcJ := 84) (lsJ := fun x10 => [.ref 26, .ref (zs b1), .int w2, .int x10, .null, .null]) (stJ := fun x10 => []) (fun x10 => ?_) (fun f hJ => ?_)
  rotate_left
  · refine zx_lif_ne (pc' := 68) (tgt := 84) dX5_readInto_65 rfl rfl (fun _ => ?_) (fun _ => ?_)
    · exact zx_lessJ (zq_cr (zq_cr (zq_cr (zq_cr (zq_cz (zq_cz zq_cn)))))) (hJ _)
    · refine zx_lift (pc' := 69) (fun _ => zq_aload_n rfl rfl dX5_readInto_68 rfl) ?_
      refine zx_lift (pc' := 72) (fun _ => zt_getI zfr_X5_48 zfd_26_4 dX5_readInto_69 rfl) ?_
      refine zx_lif_ne (pc' := 75) (tgt := 82) dX5_readInto_72 rfl rfl (fun _ => ?_) (fun _ => ?_)
      · refine zx_lift (pc' := 83) (fun _ => zq_iconst (v := 1) dX5_readInto_82 rfl rfl) ?_
        refine zx_lift (pc' := 84) (fun _ => zq_istore_n (ls' := [.ref 26, .ref (zs b1), .int w2, .int (1 : Int32), .null, .null]) rfl (by decide) rfl rfl dX5_readInto_83 rfl) ?_
        exact zx_lessJ (zq_cr (zq_cr (zq_cr (zq_cr (zq_cz (zq_cz zq_cn)))))) (hJ _)
      · refine zx_lift (pc' := 76) (fun _ => zq_aload_n rfl rfl dX5_readInto_75 rfl) ?_
        refine zx_lift (pc' := 79) (fun _ => zt_getI zfr_X5_51 zfd_26_6 dX5_readInto_76 rfl) ?_
        refine zx_lif_le (pc' := 82) (tgt := 84) dX5_readInto_79 rfl rfl (fun _ => ?_) (fun _ => ?_)
        · exact zx_lessJ (zq_cr (zq_cr (zq_cr (zq_cr (zq_cz (zq_cz zq_cn)))))) (hJ _)
        · refine zx_lift (pc' := 83) (fun _ => zq_iconst (v := 1) dX5_readInto_82 rfl rfl) ?_
          refine zx_lift (pc' := 84) (fun _ => zq_istore_n (ls' := [.ref 26, .ref (zs b1), .int w2, .int (1 : Int32), .null, .null]) rfl (by decide) rfl rfl dX5_readInto_83 rfl) ?_
          exact zx_lessJ (zq_cr (zq_cr (zq_cr (zq_cr (zq_cz (zq_cz zq_cn)))))) (hJ _)
  refine zx_lift (pc' := 85) (fun _ => zq_aload_n rfl rfl dX5_readInto_84 rfl) ?_
  refine zx_cVi (pc' := 88) zcv_X5_54 (cX5_loneArrow_mc N s) zob_26 rfl (by decide) (Nat.le_of_ble_eq_true rfl) dX5_readInto_85 rfl rfl (fun r11 s12 => ?_)
  refine zx_lift (pc' := 90) (fun _ => zq_istore (ls' := [.ref 26, .ref (zs b1), .int w2, .int x10, .int r11, .null]) (by decide) rfl rfl dX5_readInto_88 rfl) ?_
  refine zx_lift (pc' := 91) (fun _ => zq_iload_n rfl rfl dX5_readInto_90 rfl) ?_
  refine zx_if_ne (pc' := 94) (tgt := 106) dX5_readInto_91 rfl rfl (fun hc => ?_) (fun hc => ?_)
  · refine zx_less [.ref 26, .ref (zs b1), .int w2, .int x10, .null, .null] (zq_cr (zq_cr (zq_cr (zq_cr (zq_cz (zq_cz zq_cn)))))) ?_
    exact xX5_readInto_j106_j N b1 w2 x10 s12
  · refine zx_lift (pc' := 96) (fun _ => zq_iload rfl dX5_readInto_94 rfl) ?_
    refine zx_lift (pc' := 97) (fun _ => zq_iconst (v := (-1)) dX5_readInto_96 rfl rfl) ?_
    refine zx_icmp_eq (pc' := 100) (tgt := 106) dX5_readInto_97 rfl rfl (fun hc => ?_) (fun hc => ?_)
    · refine zx_less [.ref 26, .ref (zs b1), .int w2, .int x10, .null, .null] (zq_cr (zq_cr (zq_cr (zq_cr (zq_cz (zq_cz zq_cn)))))) ?_
      exact xX5_readInto_j106_j N b1 w2 x10 s12
    · refine zx_lift (pc' := 102) (fun _ => zq_bipush (v := 6) dX5_readInto_100 rfl rfl) ?_
      refine zx_lift (pc' := 103) (fun _ => zq_istore_n (ls' := [.ref 26, .ref (zs b1), .int w2, .int (6 : Int32), .int r11, .null]) rfl (by decide) rfl rfl dX5_readInto_102 rfl) ?_
      refine zx_lift (pc' := 105) (fun _ => zq_iload rfl dX5_readInto_103 rfl) ?_
      refine zx_lift (pc' := 106) (fun _ => zq_istore_n (ls' := [.ref 26, .ref (zs b1), .int r11, .int (6 : Int32), .int r11, .null]) rfl (by decide) rfl rfl dX5_readInto_105 rfl) ?_
      refine zx_less [.ref 26, .ref (zs b1), .int r11, .int (6 : Int32), .null, .null] (zq_cr (zq_cr (zq_cr (zq_cr (zq_cz (zq_cz zq_cn)))))) ?_
      exact xX5_readInto_j106_j N b1 r11 (6 : Int32) s12
def mX5_readInto (N : Nat) (b1 : Bool)  (s : zq_S) : Option (Int32 × zq_S) :=
  zq_b2 (mX5_start N b1 s) (fun r1 s2 =>
  zq_loop (bX5_readInto_12 N b1 (fun e9 =>
  jX5_readInto_j64 N b1 e9.1 e9.2.1 e9.2.2)) N ((0 : Int32), (0 : Int32), (0 : Int32), s2))
set_option maxRecDepth 20000 in
set_option maxHeartbeats 2000000 in
theorem xX5_readInto (N : Nat) (b1 : Bool)  (s : zq_S) : zq_X yX5_readInto RX5 cX5_readInto 6 (some .int) ⟨5, 0, 0, 116⟩ zv_i 0 [.ref 26, .ref (zs b1), .null, .null, .null, .null] [] s (mX5_readInto N b1 s) := by
  unfold mX5_readInto
  refine zx_lift (pc' := 1) (fun _ => zq_aload_n rfl rfl dX5_readInto_0 rfl) ?_
  refine zx_lift (pc' := 2) (fun _ => zq_aload_n rfl rfl dX5_readInto_1 rfl) ?_
  refine zx_cVv (pc' := 5) zcv_X5_36 (cX5_start_mc N b1 s) zob_26 rfl (by decide) (Nat.le_of_ble_eq_true rfl) dX5_readInto_2 rfl rfl (fun r1 s2 => ?_)
  refine zx_lift (pc' := 6) (fun _ => zq_iconst (v := 0) dX5_readInto_5 rfl rfl) ?_
  refine zx_lift (pc' := 7) (fun _ => zq_istore_n (ls' := [.ref 26, .ref (zs b1), .int (0 : Int32), .null, .null, .null]) rfl (by decide) rfl rfl dX5_readInto_6 rfl) ?_
  refine zx_lift (pc' := 8) (fun _ => zq_iconst (v := 0) dX5_readInto_7 rfl rfl) ?_
  refine zx_lift (pc' := 9) (fun _ => zq_istore_n (ls' := [.ref 26, .ref (zs b1), .int (0 : Int32), .int (0 : Int32), .null, .null]) rfl (by decide) rfl rfl dX5_readInto_8 rfl) ?_
  refine zx_lift (pc' := 10) (fun _ => zq_iconst (v := 0) dX5_readInto_9 rfl rfl) ?_
  refine zx_lift (pc' := 12) (fun _ => zq_istore (ls' := [.ref 26, .ref (zs b1), .int (0 : Int32), .int (0 : Int32), .int (0 : Int32), .null]) (by decide) rfl rfl dX5_readInto_10 rfl) ?_
  refine yX5_readInto_12 N b1 _ (fun e9 => ?_) N ((0 : Int32), (0 : Int32), (0 : Int32), s2)
  exact xX5_readInto_j64_j N b1 e9.1 e9.2.1 e9.2.2
theorem cX5_readInto_mc (N : Nat) (b1 : Bool)  (s : zq_S) (v : Int32 × zq_S) (h : mX5_readInto N b1 s = some v) : zq_MC yX5_readInto cX5_readInto 6 (some .int) ⟨5, 0, 0, 116⟩ 0 0 [.ref 26, .ref (zs b1)] (zq_en s) (zv_i v.1, zq_en v.2) := zq_MC_x [.ref 26, .ref (zs b1), .null, .null, .null, .null] (by decide +kernel) rfl rfl (Nat.le_of_ble_eq_true rfl) (xX5_readInto N b1 s) h
def mX3_startOn (N : Nat) (b1 : Bool)  (s : zq_S) : Option (Unit × zq_S) :=
  zq_let (zpb s 3 b1) (fun s1 =>
  zq_let (zpfi s1 32 10 (0 : Int32)) (fun s2 =>
  zq_let (zpfi s2 33 4 (0 : Int32)) (fun s3 =>
  zq_b2 (mX3_settle N s3) (fun r4 s5 =>
  some ((), s5)))))
set_option maxRecDepth 20000 in
set_option maxHeartbeats 2000000 in
theorem xX3_startOn (N : Nat) (b1 : Bool)  (s : zq_S) : zq_X yX3_startOn RX3 cX3_startOn 2 none ⟨3, 0, 0, 67⟩ zv_v 0 [.ref 31, .ref (zs b1)] [] s (mX3_startOn N b1 s) := by
  unfold mX3_startOn
  refine zx_lift (pc' := 1) (fun _ => zq_aload_n rfl rfl dX3_startOn_0 rfl) ?_
  refine zx_lift (pc' := 2) (fun _ => zq_aload_n rfl rfl dX3_startOn_1 rfl) ?_
  refine zx_putP (pc' := 5) zfr_X3_34 (fun _ _ => ⟨rfl, rfl⟩) zpt_3 dX3_startOn_2 rfl (fun s1 => ?_)
  refine zx_lift (pc' := 6) (fun _ => zq_aload_n rfl rfl dX3_startOn_5 rfl) ?_
  refine zx_lift (pc' := 9) (fun _ => zt_getR zfr_X3_9 zfd_31_1 dX3_startOn_6 rfl) ?_
  refine zx_lift (pc' := 10) (fun _ => zq_iconst (v := 0) dX3_startOn_9 rfl rfl) ?_
  refine zx_fillI (pc' := 13) zcs_X3_38 zsh_32 ⟨by decide, by decide, Nat.le_of_ble_eq_true rfl⟩ dX3_startOn_10 rfl (fun s2 => ?_)
  refine zx_lift (pc' := 14) (fun _ => zq_aload_n rfl rfl dX3_startOn_13 rfl) ?_
  refine zx_lift (pc' := 17) (fun _ => zt_getR zfr_X3_15 zfd_31_2 dX3_startOn_14 rfl) ?_
  refine zx_lift (pc' := 18) (fun _ => zq_iconst (v := 0) dX3_startOn_17 rfl rfl) ?_
  refine zx_fillI (pc' := 21) zcs_X3_38 zsh_33 ⟨by decide, by decide, Nat.le_of_ble_eq_true rfl⟩ dX3_startOn_18 rfl (fun s3 => ?_)
  refine zx_lift (pc' := 22) (fun _ => zq_aload_n rfl rfl dX3_startOn_21 rfl) ?_
  refine zx_cVi (pc' := 25) zcv_X3_44 (cX3_settle_mc N s3) zob_31 rfl (by decide) (Nat.le_of_ble_eq_true rfl) dX3_startOn_22 rfl rfl (fun r4 s5 => ?_)
  refine zx_lift (pc' := 26) (fun _ => zq_pop rfl dX3_startOn_25 rfl) ?_
  exact zx_vret rfl dX3_startOn_26
theorem cX3_startOn_mc (N : Nat) (b1 : Bool)  (s : zq_S) (v : Unit × zq_S) (h : mX3_startOn N b1 s = some v) : zq_MC yX3_startOn cX3_startOn 2 none ⟨3, 0, 0, 67⟩ 0 0 [.ref 31, .ref (zs b1)] (zq_en s) (zv_v v.1, zq_en v.2) := zq_MC_x [.ref 31, .ref (zs b1)] (by decide +kernel) rfl rfl (Nat.le_of_ble_eq_true rfl) (xX3_startOn N b1 s) h
def mX8_unmakeAll (N : Nat) (b0 : Bool)  (s : zq_S) : Option (Unit × zq_S) :=
  zq_let (zpfi s (zf b0 + 2) (zfS b0) (-1 : Int32)) (fun s1 =>
  some ((), s1))
set_option maxRecDepth 20000 in
set_option maxHeartbeats 2000000 in
theorem xX8_unmakeAll (N : Nat) (b0 : Bool)  (s : zq_S) : zq_X yX8_unmakeAll RX8 cX8_unmakeAll 1 none ⟨1, 0, 0, 23⟩ zv_v 0 [.ref (zf b0)] [] s (mX8_unmakeAll N b0 s) := by
  unfold mX8_unmakeAll
  refine zx_lift (pc' := 1) (fun _ => zq_aload_n rfl rfl dX8_unmakeAll_0 rfl) ?_
  refine zx_lift (pc' := 4) (fun _ => zt_getR zfr_X8_25 (zfd_f_2 b0) dX8_unmakeAll_1 rfl) ?_
  refine zx_lift (pc' := 5) (fun _ => zq_iconst (v := (-1)) dX8_unmakeAll_4 rfl rfl) ?_
  refine zx_fillI (pc' := 8) zcs_X8_29 (zsh_f2 b0) ⟨by decide, by decide, Nat.le_of_ble_eq_true rfl⟩ dX8_unmakeAll_5 rfl (fun s1 => ?_)
  exact zx_vret rfl dX8_unmakeAll_8
theorem cX8_unmakeAll_mc (N : Nat) (b0 : Bool)  (s : zq_S) (v : Unit × zq_S) (h : mX8_unmakeAll N b0 s = some v) : zq_MC yX8_unmakeAll cX8_unmakeAll 1 none ⟨1, 0, 0, 23⟩ 0 0 [.ref (zf b0)] (zq_en s) (zv_v v.1, zq_en v.2) := zq_MC_x [.ref (zf b0)] (by decide +kernel) rfl rfl (Nat.le_of_ble_eq_true rfl) (xX8_unmakeAll N b0 s) h
def mX9_startOn (N : Nat) (b1 : Bool)  (s : zq_S) : Option (Unit × zq_S) :=
  zq_let (zpb s 4 b1) (fun s1 =>
  zq_b2 (mX8_unmakeAll N false s1) (fun r2 s3 =>
  some ((), s3)))
set_option maxRecDepth 20000 in
set_option maxHeartbeats 2000000 in
theorem xX9_startOn (N : Nat) (b1 : Bool)  (s : zq_S) : zq_X yX9_startOn RX9 cX9_startOn 2 none ⟨2, 0, 0, 43⟩ zv_v 0 [.ref 38, .ref (zs b1)] [] s (mX9_startOn N b1 s) := by
  unfold mX9_startOn
  refine zx_lift (pc' := 1) (fun _ => zq_aload_n rfl rfl dX9_startOn_0 rfl) ?_
  refine zx_lift (pc' := 2) (fun _ => zq_aload_n rfl rfl dX9_startOn_1 rfl) ?_
  refine zx_putP (pc' := 5) zfr_X9_20 (fun _ _ => ⟨rfl, rfl⟩) zpt_4 dX9_startOn_2 rfl (fun s1 => ?_)
  refine zx_lift (pc' := 6) (fun _ => zq_aload_n rfl rfl dX9_startOn_5 rfl) ?_
  refine zx_lift (pc' := 9) (fun _ => zt_getR zfr_X9_14 zfd_38_0 dX9_startOn_6 rfl) ?_
  refine zx_cVv (pc' := 12) zcv_X9_24 (cX8_unmakeAll_mc N false s1) (zob_f false) rfl (by decide) (Nat.le_of_ble_eq_true rfl) dX9_startOn_9 rfl rfl (fun r2 s3 => ?_)
  exact zx_vret rfl dX9_startOn_12
theorem cX9_startOn_mc (N : Nat) (b1 : Bool)  (s : zq_S) (v : Unit × zq_S) (h : mX9_startOn N b1 s = some v) : zq_MC yX9_startOn cX9_startOn 2 none ⟨2, 0, 0, 43⟩ 0 0 [.ref 38, .ref (zs b1)] (zq_en s) (zv_v v.1, zq_en v.2) := zq_MC_x [.ref 38, .ref (zs b1)] (by decide +kernel) rfl rfl (Nat.le_of_ble_eq_true rfl) (xX9_startOn N b1 s) h
def mX11_sheet (N : Nat)   (s : zq_S) : Option (Int32 × zq_S) :=
  zq_b2 (mX5_readInto N (zgb s 1) s) (fun r1 s2 =>
  zq_let (zpf s2 0 12 (zgf s2 26 2)) (fun s3 =>
  if r1 = (0 : Int32) then
  zq_let (zpb s3 0 (zgb s3 1)) (fun s4 =>
  zq_let (zpb s4 1 (zgb s3 0)) (fun s5 =>
  zq_b2 (mX3_startOn N (zgb s5 0) s5) (fun r6 s7 =>
  zq_b2 (mX9_startOn N (zgb s7 0) s7) (fun r8 s9 =>
  some ((zgf s9 (zs (zgb s9 0)) 7), s9)))))
  else
  some (((-10 : Int32) - r1), s3)))
set_option maxRecDepth 20000 in
set_option maxHeartbeats 2000000 in
theorem xX11_sheet (N : Nat)   (s : zq_S) : zq_X yX11_sheet RX11 cX11_sheet 3 (some .int) ⟨6, 0, 0, 141⟩ zv_i 0 [.ref 0, .null, .null] [] s (mX11_sheet N s) := by
  unfold mX11_sheet
  refine zx_lift (pc' := 1) (fun _ => zq_aload_n rfl rfl dX11_sheet_0 rfl) ?_
  refine zx_lift (pc' := 4) (fun _ => zt_getR zfr_X11_24 zfd_0_0 dX11_sheet_1 rfl) ?_
  refine zx_lift (pc' := 5) (fun _ => zq_aload_n rfl rfl dX11_sheet_4 rfl) ?_
  refine zx_lift (pc' := 8) (fun _ => zt_getP zfr_X11_16 zfd_0_11 dX11_sheet_5 rfl) ?_
  refine zx_cVi (pc' := 11) zcv_X11_109 (cX5_readInto_mc N (zgb s 1) s) zob_26 rfl (by decide) (Nat.le_of_ble_eq_true rfl) dX11_sheet_8 rfl rfl (fun r1 s2 => ?_)
  refine zx_lift (pc' := 12) (fun _ => zq_istore_n (ls' := [.ref 0, .int r1, .null]) rfl (by decide) rfl rfl dX11_sheet_11 rfl) ?_
  refine zx_lift (pc' := 13) (fun _ => zq_aload_n rfl rfl dX11_sheet_12 rfl) ?_
  refine zx_lift (pc' := 14) (fun _ => zq_aload_n rfl rfl dX11_sheet_13 rfl) ?_
  refine zx_lift (pc' := 17) (fun _ => zt_getR zfr_X11_24 zfd_0_0 dX11_sheet_14 rfl) ?_
  refine zx_lift (pc' := 20) (fun _ => zt_getI zfr_X11_113 zfd_26_2 dX11_sheet_17 rfl) ?_
  refine zx_putI (pc' := 23) zfr_X11_99 (fun _ => ⟨rfl, rfl⟩) zfd_0_12 dX11_sheet_20 rfl (fun s3 => ?_)
  refine zx_lift (pc' := 24) (fun _ => zq_iload_n rfl rfl dX11_sheet_23 rfl) ?_
  refine zx_if_eq (pc' := 27) (tgt := 32) dX11_sheet_24 rfl rfl (fun hc => ?_) (fun hc => ?_)
  · refine zx_lift (pc' := 33) (fun _ => zq_aload_n rfl rfl dX11_sheet_32 rfl) ?_
    refine zx_lift (pc' := 36) (fun _ => zt_getP zfr_X11_12 zfd_0_10 dX11_sheet_33 rfl) ?_
    refine zx_lift (pc' := 37) (fun _ => zq_astore_n (ls' := [.ref 0, .int r1, .ref (zs (zgb s3 0))]) rfl (by decide) rfl rfl dX11_sheet_36 rfl) ?_
    refine zx_lift (pc' := 38) (fun _ => zq_aload_n rfl rfl dX11_sheet_37 rfl) ?_
    refine zx_lift (pc' := 39) (fun _ => zq_aload_n rfl rfl dX11_sheet_38 rfl) ?_
    refine zx_lift (pc' := 42) (fun _ => zt_getP zfr_X11_16 zfd_0_11 dX11_sheet_39 rfl) ?_
    refine zx_putP (pc' := 45) zfr_X11_12 (fun _ _ => ⟨rfl, rfl⟩) zpt_0 dX11_sheet_42 rfl (fun s4 => ?_)
    refine zx_lift (pc' := 46) (fun _ => zq_aload_n rfl rfl dX11_sheet_45 rfl) ?_
    refine zx_lift (pc' := 47) (fun _ => zq_aload_n rfl rfl dX11_sheet_46 rfl) ?_
    refine zx_putP (pc' := 50) zfr_X11_16 (fun _ _ => ⟨rfl, rfl⟩) zpt_1 dX11_sheet_47 rfl (fun s5 => ?_)
    refine zx_lift (pc' := 51) (fun _ => zq_aload_n rfl rfl dX11_sheet_50 rfl) ?_
    refine zx_lift (pc' := 54) (fun _ => zt_getR zfr_X11_31 zfd_0_1 dX11_sheet_51 rfl) ?_
    refine zx_lift (pc' := 55) (fun _ => zq_aload_n rfl rfl dX11_sheet_54 rfl) ?_
    refine zx_lift (pc' := 58) (fun _ => zt_getP zfr_X11_12 zfd_0_10 dX11_sheet_55 rfl) ?_
    refine zx_cVv (pc' := 61) zcv_X11_116 (cX3_startOn_mc N (zgb s5 0) s5) zob_31 rfl (by decide) (Nat.le_of_ble_eq_true rfl) dX11_sheet_58 rfl rfl (fun r6 s7 => ?_)
    refine zx_lift (pc' := 62) (fun _ => zq_aload_n rfl rfl dX11_sheet_61 rfl) ?_
    refine zx_lift (pc' := 65) (fun _ => zt_getR zfr_X11_38 zfd_0_2 dX11_sheet_62 rfl) ?_
    refine zx_lift (pc' := 66) (fun _ => zq_aload_n rfl rfl dX11_sheet_65 rfl) ?_
    refine zx_lift (pc' := 69) (fun _ => zt_getP zfr_X11_12 zfd_0_10 dX11_sheet_66 rfl) ?_
    refine zx_cVv (pc' := 72) zcv_X11_119 (cX9_startOn_mc N (zgb s7 0) s7) zob_38 rfl (by decide) (Nat.le_of_ble_eq_true rfl) dX11_sheet_69 rfl rfl (fun r8 s9 => ?_)
    refine zx_lift (pc' := 73) (fun _ => zq_aload_n rfl rfl dX11_sheet_72 rfl) ?_
    refine zx_lift (pc' := 76) (fun _ => zt_getP zfr_X11_12 zfd_0_10 dX11_sheet_73 rfl) ?_
    refine zx_lift (pc' := 79) (fun _ => zt_getI zfr_X11_120 (zfd_s_7 (zgb s9 0)) dX11_sheet_76 rfl) ?_
    exact zx_iret rfl dX11_sheet_79
  · refine zx_lift (pc' := 29) (fun _ => zq_bipush (v := (-10)) dX11_sheet_27 rfl rfl) ?_
    refine zx_lift (pc' := 30) (fun _ => zq_iload_n rfl rfl dX11_sheet_29 rfl) ?_
    refine zx_lift (pc' := 31) (fun _ => zq_isub dX11_sheet_30 rfl) ?_
    exact zx_iret rfl dX11_sheet_31
theorem cX11_sheet_mc (N : Nat)   (s : zq_S) (v : Int32 × zq_S) (h : mX11_sheet N s = some v) : zq_MC yX11_sheet cX11_sheet 3 (some .int) ⟨6, 0, 0, 141⟩ 0 0 [.ref 0] (zq_en s) (zv_i v.1, zq_en v.2) := zq_MC_x [.ref 0, .null, .null] (by decide +kernel) rfl rfl (Nat.le_of_ble_eq_true rfl) (xX11_sheet N s) h
def jX11_wordOrSize_j28 (N : Nat)   (t0 : Int32) (s : zq_S) : Option (Int32 × zq_S) :=
  some (t0, s)
set_option maxRecDepth 20000 in
set_option maxHeartbeats 2000000 in
theorem xX11_wordOrSize_j28_j (N : Nat)   (t0 : Int32) (s : zq_S) : zq_X yX11_wordOrSize RX11 cX11_wordOrSize 4 (some .int) ⟨3, 0, 0, 71⟩ zv_i 28 [.null, .null, .null, .null] [.int t0] s (jX11_wordOrSize_j28 N t0 s) := by
  unfold jX11_wordOrSize_j28
  exact zx_iret rfl dX11_wordOrSize_28
def mX11_wordOrSize (N : Nat)  (p1 : Int32) (p2 : Int32) (s : zq_S) : Option (Int32 × zq_S) :=
  zq_b2 (mX9_with N p1 s) (fun r1 s2 =>
  if p2 = (-1 : Int32) then
  zq_b2 (mX8_sizeOf N false p1 s2) (fun r5 s6 =>
  jX11_wordOrSize_j28 N r5 s6)
  else
  zq_b2 (mX8_wordAt N false p1 p2 s2) (fun r3 s4 =>
  jX11_wordOrSize_j28 N r3 s4))
set_option maxRecDepth 20000 in
set_option maxHeartbeats 2000000 in
theorem xX11_wordOrSize (N : Nat)  (p1 : Int32) (p2 : Int32) (s : zq_S) : zq_X yX11_wordOrSize RX11 cX11_wordOrSize 4 (some .int) ⟨3, 0, 0, 71⟩ zv_i 0 [.ref 0, .int p1, .int p2, .null] [] s (mX11_wordOrSize N p1 p2 s) := by
  unfold mX11_wordOrSize
  refine zx_lift (pc' := 1) (fun _ => zq_aload_n rfl rfl dX11_wordOrSize_0 rfl) ?_
  refine zx_lift (pc' := 4) (fun _ => zt_getR zfr_X11_38 zfd_0_2 dX11_wordOrSize_1 rfl) ?_
  refine zx_lift (pc' := 5) (fun _ => zq_iload_n rfl rfl dX11_wordOrSize_4 rfl) ?_
  refine zx_cVw (pc' := 8) zcv_X11_252 (cX9_with_mc N p1 s) zob_38 rfl (by decide) (Nat.le_of_ble_eq_true rfl) dX11_wordOrSize_5 rfl rfl (fun r1 s2 => ?_)
  refine zx_lift (pc' := 9) (fun _ => zq_astore_n (ls' := [.ref 0, .int p1, .int p2, .ref (zf false)]) rfl (by decide) rfl rfl dX11_wordOrSize_8 rfl) ?_
  refine zx_lift (pc' := 10) (fun _ => zq_iload_n rfl rfl dX11_wordOrSize_9 rfl) ?_
  refine zx_lift (pc' := 11) (fun _ => zq_iconst (v := (-1)) dX11_wordOrSize_10 rfl rfl) ?_
  refine zx_icmp_ne (pc' := 14) (tgt := 22) dX11_wordOrSize_11 rfl rfl (fun hc => ?_) (fun hc => ?_)
  · refine zx_lift (pc' := 23) (fun _ => zq_aload_n rfl rfl dX11_wordOrSize_22 rfl) ?_
    refine zx_lift (pc' := 24) (fun _ => zq_iload_n rfl rfl dX11_wordOrSize_23 rfl) ?_
    refine zx_lift (pc' := 25) (fun _ => zq_iload_n rfl rfl dX11_wordOrSize_24 rfl) ?_
    refine zx_cVi (pc' := 28) zcv_X11_306 (cX8_wordAt_mc N false p1 p2 s2) (zob_f false) rfl (by decide) (Nat.le_of_ble_eq_true rfl) dX11_wordOrSize_25 rfl rfl (fun r3 s4 => ?_)
    refine zx_less [.null, .null, .null, .null] (zq_cz (zq_cz (zq_cz (zq_cz zq_cn)))) ?_
    exact xX11_wordOrSize_j28_j N r3 s4
  · refine zx_lift (pc' := 15) (fun _ => zq_aload_n rfl rfl dX11_wordOrSize_14 rfl) ?_
    refine zx_lift (pc' := 16) (fun _ => zq_iload_n rfl rfl dX11_wordOrSize_15 rfl) ?_
    refine zx_cVi (pc' := 19) zcv_X11_166 (cX8_sizeOf_mc N false p1 s2) (zob_f false) rfl (by decide) (Nat.le_of_ble_eq_true rfl) dX11_wordOrSize_16 rfl rfl (fun r5 s6 => ?_)
    refine zx_lift (pc' := 28) (fun _ => zq_goto dX11_wordOrSize_19 rfl) ?_
    refine zx_less [.null, .null, .null, .null] (zq_cz (zq_cz (zq_cz (zq_cz zq_cn)))) ?_
    exact xX11_wordOrSize_j28_j N r5 s6
theorem cX11_wordOrSize_mc (N : Nat)  (p1 : Int32) (p2 : Int32) (s : zq_S) (v : Int32 × zq_S) (h : mX11_wordOrSize N p1 p2 s = some v) : zq_MC yX11_wordOrSize cX11_wordOrSize 4 (some .int) ⟨3, 0, 0, 71⟩ 0 0 [.ref 0, .int p1, .int p2] (zq_en s) (zv_i v.1, zq_en v.2) := zq_MC_x [.ref 0, .int p1, .int p2, .null] (by decide +kernel) rfl rfl (Nat.le_of_ble_eq_true rfl) (xX11_wordOrSize N p1 p2 s) h
