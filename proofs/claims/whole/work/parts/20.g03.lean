def bX6_findFirst_18 (N : Nat)    (self : Int64 × Int32 × Int32 × Int32 × zq_S → Option (Unit × zq_S)) (v : Int64 × Int32 × Int32 × Int32 × zq_S) : Option (Unit × zq_S) :=
  if (zgf v.2.2.2.2 (zs (zgb v.2.2.2.2 3)) 7) ≤ v.2.2.2.1 then
  some ((), v.2.2.2.2)
  else
  zq_b2 (mX6_leastMark N v.2.1 v.2.2.1 v.1 v.2.2.2.2) (fun r2 s3 =>
  zq_ck r2 10 (
  zq_let (if (zga s3 32 r2) = v.2.2.1 then (0 : Int64) else (1000 : Int64)) (fun x4 =>
  zq_let (v.1 - x4) (fun x5 =>
  zq_ck r2 10 (
  zq_let (zga s3 32 r2) (fun x6 =>
  zq_let (v.2.1 ||| ((1 : Int32) <<< (r2 &&& 31))) (fun x7 =>
  zq_ck v.2.2.2.1 10 (
  zq_let (zpa s3 47 v.2.2.2.1 r2) (fun s8 =>
  zq_let (v.2.2.2.1 + (1 : Int32)) (fun x9 =>
  self (x5, x7, x6, x9, s8)))))))))))
set_option maxRecDepth 20000 in
set_option maxHeartbeats 2000000 in
theorem xX6_findFirst_18 (N : Nat)    (self : Int64 × Int32 × Int32 × Int32 × zq_S → Option (Unit × zq_S)) (hself : ∀ v, zq_X yX6_findFirst RX6 cX6_findFirst 7 none ⟨2, 0, 0, 51⟩ zv_v 18 [.ref 46, .long v.1, .null, .int v.2.1, .int v.2.2.1, .int v.2.2.2.1, .null] [] v.2.2.2.2 (self v)) (v : Int64 × Int32 × Int32 × Int32 × zq_S) : zq_X yX6_findFirst RX6 cX6_findFirst 7 none ⟨2, 0, 0, 51⟩ zv_v 18 [.ref 46, .long v.1, .null, .int v.2.1, .int v.2.2.1, .int v.2.2.2.1, .null] [] v.2.2.2.2 (bX6_findFirst_18 N self v) := by
  unfold bX6_findFirst_18
  refine zx_lift (pc' := 20) (fun _ => zq_iload rfl dX6_findFirst_18 rfl) ?_
  refine zx_lift (pc' := 21) (fun _ => zq_aload_n rfl rfl dX6_findFirst_20 rfl) ?_
  refine zx_lift (pc' := 24) (fun _ => zt_getR zfr_X6_23 zfd_46_0 dX6_findFirst_21 rfl) ?_
  refine zx_lift (pc' := 27) (fun _ => zt_getP zfr_X6_112 zfd_31_0 dX6_findFirst_24 rfl) ?_
  refine zx_lift (pc' := 30) (fun _ => zt_getI zfr_X6_116 (zfd_s_7 (zgb v.2.2.2.2 3)) dX6_findFirst_27 rfl) ?_
  refine zx_icmp_ge (pc' := 33) (tgt := 102) dX6_findFirst_30 rfl rfl (fun hc => ?_) (fun hc => ?_)
  · exact zx_vret rfl dX6_findFirst_102
  · refine zx_lift (pc' := 34) (fun _ => zq_aload_n rfl rfl dX6_findFirst_33 rfl) ?_
    refine zx_lift (pc' := 35) (fun _ => zq_iload_n rfl rfl dX6_findFirst_34 rfl) ?_
    refine zx_lift (pc' := 37) (fun _ => zq_iload rfl dX6_findFirst_35 rfl) ?_
    refine zx_lift (pc' := 38) (fun _ => zq_lload_n rfl rfl dX6_findFirst_37 rfl) ?_
    refine zx_cVi (pc' := 41) zcv_X6_121 (cX6_leastMark_mc N v.2.1 v.2.2.1 v.1 v.2.2.2.2) zob_46 rfl (by decide) (Nat.le_of_ble_eq_true rfl) dX6_findFirst_38 rfl rfl (fun r2 s3 => ?_)
    refine zx_lift (pc' := 43) (fun _ => zq_istore (ls' := [.ref 46, .long v.1, .null, .int v.2.1, .int v.2.2.1, .int v.2.2.2.1, .int r2]) (by decide) rfl rfl dX6_findFirst_41 rfl) ?_
    refine zx_lift (pc' := 44) (fun _ => zq_lload_n rfl rfl dX6_findFirst_43 rfl) ?_
    refine zx_lift (pc' := 45) (fun _ => zq_aload_n rfl rfl dX6_findFirst_44 rfl) ?_
    refine zx_lift (pc' := 48) (fun _ => zt_getR zfr_X6_23 zfd_46_0 dX6_findFirst_45 rfl) ?_
    refine zx_lift (pc' := 51) (fun _ => zt_getR zfr_X6_109 zfd_31_1 dX6_findFirst_48 rfl) ?_
    refine zx_lift (pc' := 53) (fun _ => zq_iload rfl dX6_findFirst_51 rfl) ?_
    refine zx_iaload (pc' := 54) zsh_32 dX6_findFirst_53 rfl ?_
    refine zx_lift (pc' := 56) (fun _ => zq_iload rfl dX6_findFirst_54 rfl) ?_
    refine zx_tern (pcJ := 66) (lsJ := fun x4 => [.ref 46, .null, .null, .int v.2.1, .null, .int v.2.2.2.1, .int r2]) (stJ := fun x4 => [.long x4, .long v.1]) (fun x4 => ?_) (fun f hJ => ?_)
    rotate_left
    · refine zx_licmp_ne (pc' := 59) (tgt := 63) dX6_findFirst_56 rfl rfl (fun _ => ?_) (fun _ => ?_)
      · refine zx_lift (pc' := 66) (fun _ => zq_ldc2 zk_X6_47 dX6_findFirst_63 rfl) ?_
        exact zx_lessJ (zq_cr (zq_cz (zq_cz (zq_cr (zq_cz (zq_cr (zq_cr zq_cn))))))) (hJ _)
      · refine zx_lift (pc' := 60) (fun _ => zq_lconst (v := 0) dX6_findFirst_59 rfl rfl) ?_
        refine zx_lift (pc' := 66) (fun _ => zq_goto dX6_findFirst_60 rfl) ?_
        exact zx_lessJ (zq_cr (zq_cz (zq_cz (zq_cr (zq_cz (zq_cr (zq_cr zq_cn))))))) (hJ _)
    refine zx_lift (pc' := 67) (fun _ => zq_lsub dX6_findFirst_66 rfl) ?_
    refine zx_lstore_n (pc' := 68) (ls' := fun x5 => [.ref 46, .long x5, .null, .int v.2.1, .null, .int v.2.2.2.1, .int r2]) rfl (by decide) rfl (fun _ => rfl) dX6_findFirst_67 rfl (fun x5 => ?_)
    refine zx_lift (pc' := 69) (fun _ => zq_aload_n rfl rfl dX6_findFirst_68 rfl) ?_
    refine zx_lift (pc' := 72) (fun _ => zt_getR zfr_X6_23 zfd_46_0 dX6_findFirst_69 rfl) ?_
    refine zx_lift (pc' := 75) (fun _ => zt_getR zfr_X6_109 zfd_31_1 dX6_findFirst_72 rfl) ?_
    refine zx_lift (pc' := 77) (fun _ => zq_iload rfl dX6_findFirst_75 rfl) ?_
    refine zx_iaload (pc' := 78) zsh_32 dX6_findFirst_77 rfl ?_
    refine zx_istore (pc' := 80) (ls' := fun x6 => [.ref 46, .long x5, .null, .int v.2.1, .int x6, .int v.2.2.2.1, .int r2]) (by decide) rfl (fun _ => rfl) dX6_findFirst_78 rfl (fun x6 => ?_)
    refine zx_lift (pc' := 81) (fun _ => zq_iload_n rfl rfl dX6_findFirst_80 rfl) ?_
    refine zx_lift (pc' := 82) (fun _ => zq_iconst (v := 1) dX6_findFirst_81 rfl rfl) ?_
    refine zx_lift (pc' := 84) (fun _ => zq_iload rfl dX6_findFirst_82 rfl) ?_
    refine zx_lift (pc' := 85) (fun _ => zq_ishl dX6_findFirst_84 rfl) ?_
    refine zx_lift (pc' := 86) (fun _ => zq_ior dX6_findFirst_85 rfl) ?_
    refine zx_istore_n (pc' := 87) (ls' := fun x7 => [.ref 46, .long x5, .null, .int x7, .int x6, .int v.2.2.2.1, .int r2]) rfl (by decide) rfl (fun _ => rfl) dX6_findFirst_86 rfl (fun x7 => ?_)
    refine zx_lift (pc' := 88) (fun _ => zq_aload_n rfl rfl dX6_findFirst_87 rfl) ?_
    refine zx_lift (pc' := 91) (fun _ => zt_getR zfr_X6_9 zfd_46_4 dX6_findFirst_88 rfl) ?_
    refine zx_lift (pc' := 93) (fun _ => zq_iload rfl dX6_findFirst_91 rfl) ?_
    refine zx_lift (pc' := 95) (fun _ => zq_iload rfl dX6_findFirst_93 rfl) ?_
    refine zx_iastore (pc' := 96) zsh_47 dX6_findFirst_95 rfl (fun s8 => ?_)
    refine zx_iinc (pc' := 99) (ls' := fun x9 => [.ref 46, .long x5, .null, .int x7, .int x6, .int x9, .int r2]) rfl rfl (by decide) rfl (fun _ => rfl) dX6_findFirst_96 rfl (fun x9 => ?_)
    refine zx_lift (pc' := 18) (fun _ => zq_goto dX6_findFirst_99 rfl) ?_
    refine zx_less [.ref 46, .long x5, .null, .int x7, .int x6, .int x9, .null] (zq_cr (zq_cr (zq_cz (zq_cr (zq_cr (zq_cr (zq_cz zq_cn))))))) ?_
    exact hself (x5, x7, x6, x9, s8)
theorem yX6_findFirst_18 (N : Nat)    (n : Nat) : ∀ v : Int64 × Int32 × Int32 × Int32 × zq_S, zq_X yX6_findFirst RX6 cX6_findFirst 7 none ⟨2, 0, 0, 51⟩ zv_v 18 [.ref 46, .long v.1, .null, .int v.2.1, .int v.2.2.1, .int v.2.2.2.1, .null] [] v.2.2.2.2 (zq_loop (bX6_findFirst_18 N ) n v) := by
  induction n with
  | zero => exact fun v u hu => by cases hu
  | succ n ih =>
    intro v
    rw [zq_loop_s]
    exact xX6_findFirst_18 N  (zq_loop (bX6_findFirst_18 N ) n) ih v
def mX6_findFirst (N : Nat)   (s : zq_S) : Option (Unit × zq_S) :=
  zq_let ((Int32.toInt64 (zgf s 46 6)) * (1000 : Int64)) (fun x1 =>
  zq_loop (bX6_findFirst_18 N ) N (x1, (0 : Int32), (-1 : Int32), (0 : Int32), s))
set_option maxRecDepth 20000 in
set_option maxHeartbeats 2000000 in
theorem xX6_findFirst (N : Nat)   (s : zq_S) : zq_X yX6_findFirst RX6 cX6_findFirst 7 none ⟨2, 0, 0, 51⟩ zv_v 0 [.ref 46, .null, .null, .null, .null, .null, .null] [] s (mX6_findFirst N s) := by
  unfold mX6_findFirst
  refine zx_lift (pc' := 1) (fun _ => zq_aload_n rfl rfl dX6_findFirst_0 rfl) ?_
  refine zx_lift (pc' := 4) (fun _ => zt_getI zfr_X6_49 zfd_46_6 dX6_findFirst_1 rfl) ?_
  refine zx_lift (pc' := 5) (fun _ => zq_i2l dX6_findFirst_4 rfl) ?_
  refine zx_lift (pc' := 8) (fun _ => zq_ldc2 zk_X6_47 dX6_findFirst_5 rfl) ?_
  refine zx_lift (pc' := 9) (fun _ => zq_lmul dX6_findFirst_8 rfl) ?_
  refine zx_lstore_n (pc' := 10) (ls' := fun x1 => [.ref 46, .long x1, .null, .null, .null, .null, .null]) rfl (by decide) rfl (fun _ => rfl) dX6_findFirst_9 rfl (fun x1 => ?_)
  refine zx_lift (pc' := 11) (fun _ => zq_iconst (v := 0) dX6_findFirst_10 rfl rfl) ?_
  refine zx_lift (pc' := 12) (fun _ => zq_istore_n (ls' := [.ref 46, .long x1, .null, .int (0 : Int32), .null, .null, .null]) rfl (by decide) rfl rfl dX6_findFirst_11 rfl) ?_
  refine zx_lift (pc' := 13) (fun _ => zq_iconst (v := (-1)) dX6_findFirst_12 rfl rfl) ?_
  refine zx_lift (pc' := 15) (fun _ => zq_istore (ls' := [.ref 46, .long x1, .null, .int (0 : Int32), .int (-1 : Int32), .null, .null]) (by decide) rfl rfl dX6_findFirst_13 rfl) ?_
  refine zx_lift (pc' := 16) (fun _ => zq_iconst (v := 0) dX6_findFirst_15 rfl rfl) ?_
  refine zx_lift (pc' := 18) (fun _ => zq_istore (ls' := [.ref 46, .long x1, .null, .int (0 : Int32), .int (-1 : Int32), .int (0 : Int32), .null]) (by decide) rfl rfl dX6_findFirst_16 rfl) ?_
  refine yX6_findFirst_18 N  N (x1, (0 : Int32), (-1 : Int32), (0 : Int32), s)
theorem cX6_findFirst_mc (N : Nat)   (s : zq_S) (v : Unit × zq_S) (h : mX6_findFirst N s = some v) : zq_MC yX6_findFirst cX6_findFirst 7 none ⟨2, 0, 0, 51⟩ 0 0 [.ref 46] (zq_en s) (zv_v v.1, zq_en v.2) := zq_MC_x [.ref 46, .null, .null, .null, .null, .null, .null] (by decide +kernel) rfl rfl (Nat.le_of_ble_eq_true rfl) (xX6_findFirst N s) h
def jX6_fewest_j43 (N : Nat)    (s : zq_S) : Option (Int32 × zq_S) :=
  some ((zgf s 46 6), s)
set_option maxRecDepth 20000 in
set_option maxHeartbeats 2000000 in
theorem xX6_fewest_j43_j (N : Nat)    (s : zq_S) : zq_X yX6_fewest RX6 cX6_fewest 1 (some .int) ⟨5, 0, 0, 119⟩ zv_i 43 [.ref 46] [] s (jX6_fewest_j43 N s) := by
  unfold jX6_fewest_j43
  refine zx_lift (pc' := 44) (fun _ => zq_aload_n rfl rfl dX6_fewest_43 rfl) ?_
  refine zx_lift (pc' := 47) (fun _ => zt_getI zfr_X6_49 zfd_46_6 dX6_fewest_44 rfl) ?_
  exact zx_iret rfl dX6_fewest_47
def mX6_fewest (N : Nat)   (s : zq_S) : Option (Int32 × zq_S) :=
  if (zgf s 46 7) = (zgf s 31 8) then
  jX6_fewest_j43 N s
  else
  zq_let (zpf s 46 7 (zgf s 31 8)) (fun s1 =>
  zq_b2 (mX6_fillCosts N (0 : Int32) s1) (fun r2 s3 =>
  zq_let (zpf s3 46 6 (Int64.toInt32 (r2 / (1000 : Int64)))) (fun s4 =>
  zq_b2 (mX6_findFirst N s4) (fun r5 s6 =>
  jX6_fewest_j43 N s6))))
set_option maxRecDepth 20000 in
set_option maxHeartbeats 2000000 in
theorem xX6_fewest (N : Nat)   (s : zq_S) : zq_X yX6_fewest RX6 cX6_fewest 1 (some .int) ⟨5, 0, 0, 119⟩ zv_i 0 [.ref 46] [] s (mX6_fewest N s) := by
  unfold mX6_fewest
  refine zx_lift (pc' := 1) (fun _ => zq_aload_n rfl rfl dX6_fewest_0 rfl) ?_
  refine zx_lift (pc' := 4) (fun _ => zt_getI zfr_X6_19 zfd_46_7 dX6_fewest_1 rfl) ?_
  refine zx_lift (pc' := 5) (fun _ => zq_aload_n rfl rfl dX6_fewest_4 rfl) ?_
  refine zx_lift (pc' := 8) (fun _ => zt_getR zfr_X6_23 zfd_46_0 dX6_fewest_5 rfl) ?_
  refine zx_lift (pc' := 11) (fun _ => zt_getI zfr_X6_38 zfd_31_8 dX6_fewest_8 rfl) ?_
  refine zx_icmp_eq (pc' := 14) (tgt := 43) dX6_fewest_11 rfl rfl (fun hc => ?_) (fun hc => ?_)
  · exact xX6_fewest_j43_j N s
  · refine zx_lift (pc' := 15) (fun _ => zq_aload_n rfl rfl dX6_fewest_14 rfl) ?_
    refine zx_lift (pc' := 16) (fun _ => zq_aload_n rfl rfl dX6_fewest_15 rfl) ?_
    refine zx_lift (pc' := 19) (fun _ => zt_getR zfr_X6_23 zfd_46_0 dX6_fewest_16 rfl) ?_
    refine zx_lift (pc' := 22) (fun _ => zt_getI zfr_X6_38 zfd_31_8 dX6_fewest_19 rfl) ?_
    refine zx_putI (pc' := 25) zfr_X6_19 (fun _ => ⟨rfl, rfl⟩) zfd_46_7 dX6_fewest_22 rfl (fun s1 => ?_)
    refine zx_lift (pc' := 26) (fun _ => zq_aload_n rfl rfl dX6_fewest_25 rfl) ?_
    refine zx_lift (pc' := 27) (fun _ => zq_aload_n rfl rfl dX6_fewest_26 rfl) ?_
    refine zx_lift (pc' := 28) (fun _ => zq_iconst (v := 0) dX6_fewest_27 rfl rfl) ?_
    refine zx_cVl (pc' := 31) zcv_X6_43 (cX6_fillCosts_mc N (0 : Int32) s1) zob_46 rfl (by decide) (Nat.le_of_ble_eq_true rfl) dX6_fewest_28 rfl rfl (fun r2 s3 => ?_)
    refine zx_lift (pc' := 34) (fun _ => zq_ldc2 zk_X6_47 dX6_fewest_31 rfl) ?_
    refine zx_lift (pc' := 35) (fun _ => zq_ldiv (by decide) dX6_fewest_34 rfl) ?_
    refine zx_lift (pc' := 36) (fun _ => zq_l2i dX6_fewest_35 rfl) ?_
    refine zx_putI (pc' := 39) zfr_X6_49 (fun _ => ⟨rfl, rfl⟩) zfd_46_6 dX6_fewest_36 rfl (fun s4 => ?_)
    refine zx_lift (pc' := 40) (fun _ => zq_aload_n rfl rfl dX6_fewest_39 rfl) ?_
    refine zx_cVv (pc' := 43) zcv_X6_52 (cX6_findFirst_mc N s4) zob_46 rfl (by decide) (Nat.le_of_ble_eq_true rfl) dX6_fewest_40 rfl rfl (fun r5 s6 => ?_)
    exact xX6_fewest_j43_j N s6
theorem cX6_fewest_mc (N : Nat)   (s : zq_S) (v : Int32 × zq_S) (h : mX6_fewest N s = some v) : zq_MC yX6_fewest cX6_fewest 1 (some .int) ⟨5, 0, 0, 119⟩ 0 0 [.ref 46] (zq_en s) (zv_i v.1, zq_en v.2) := zq_MC_x [.ref 46] (by decide +kernel) rfl rfl (Nat.le_of_ble_eq_true rfl) (xX6_fewest N s) h
def mX11_count (N : Nat)  (p1 : Int32) (s : zq_S) : Option (Int32 × zq_S) :=
  if p1 = (0 : Int32) then
  some ((zgf s (zs (zgb s 0)) 7), s)
  else if p1 = (1 : Int32) then
  some ((zgf s (zs (zgb s 0)) 8), s)
  else if p1 = (2 : Int32) then
  some ((zgf s 26 1), s)
  else if p1 = (3 : Int32) then
  zq_b2 (mX8_sizeOf N true (4 : Int32) s) (fun r4 s5 =>
  some (r4, s5))
  else if p1 = (4 : Int32) then
  some ((zgf s 56 5), s)
  else if p1 = (5 : Int32) then
  some ((zgf s 42 1), s)
  else if p1 = (6 : Int32) then
  zq_b2 (mX3_inksInUse N s) (fun r9 s10 =>
  some (r9, s10))
  else if p1 = (7 : Int32) then
  zq_b2 (mX6_fewest N s) (fun r12 s13 =>
  some (r12, s13))
  else 
  some ((-1002 : Int32), s)
set_option maxRecDepth 20000 in
set_option maxHeartbeats 2000000 in
theorem xX11_count (N : Nat)  (p1 : Int32) (s : zq_S) : zq_X yX11_count RX11 cX11_count 2 (some .int) ⟨6, 0, 0, 139⟩ zv_i 0 [.ref 0, .int p1] [] s (mX11_count N p1 s) := by
  unfold mX11_count
  refine zx_lift (pc' := 1) (fun _ => zq_iload_n rfl rfl dX11_count_0 rfl) ?_
  refine zx_ite (fun hc => ?_) (fun hn1 => ?_)
  · refine zx_tabIn (tgt := 48) hc dX11_count_1 (by decide) (by decide) rfl rfl ?_
    refine zx_lift (pc' := 49) (fun _ => zq_aload_n rfl rfl dX11_count_48 rfl) ?_
    refine zx_lift (pc' := 52) (fun _ => zt_getP zfr_X11_12 zfd_0_10 dX11_count_49 rfl) ?_
    refine zx_lift (pc' := 55) (fun _ => zt_getI zfr_X11_120 (zfd_s_7 (zgb s 0)) dX11_count_52 rfl) ?_
    exact zx_iret rfl dX11_count_55
  refine zx_ite (fun hc => ?_) (fun hn2 => ?_)
  · refine zx_tabIn (tgt := 56) hc dX11_count_1 (by decide) (by decide) rfl rfl ?_
    refine zx_lift (pc' := 57) (fun _ => zq_aload_n rfl rfl dX11_count_56 rfl) ?_
    refine zx_lift (pc' := 60) (fun _ => zt_getP zfr_X11_12 zfd_0_10 dX11_count_57 rfl) ?_
    refine zx_lift (pc' := 63) (fun _ => zt_getI zfr_X11_163 (zfd_s_8 (zgb s 0)) dX11_count_60 rfl) ?_
    exact zx_iret rfl dX11_count_63
  refine zx_ite (fun hc => ?_) (fun hn3 => ?_)
  · refine zx_tabIn (tgt := 64) hc dX11_count_1 (by decide) (by decide) rfl rfl ?_
    refine zx_lift (pc' := 65) (fun _ => zq_aload_n rfl rfl dX11_count_64 rfl) ?_
    refine zx_lift (pc' := 68) (fun _ => zt_getR zfr_X11_24 zfd_0_0 dX11_count_65 rfl) ?_
    refine zx_lift (pc' := 71) (fun _ => zt_getI zfr_X11_103 zfd_26_1 dX11_count_68 rfl) ?_
    exact zx_iret rfl dX11_count_71
  refine zx_ite (fun hc => ?_) (fun hn6 => ?_)
  · refine zx_tabIn (tgt := 72) hc dX11_count_1 (by decide) (by decide) rfl rfl ?_
    refine zx_lift (pc' := 73) (fun _ => zq_aload_n rfl rfl dX11_count_72 rfl) ?_
    refine zx_lift (pc' := 76) (fun _ => zt_getR zfr_X11_79 zfd_0_7 dX11_count_73 rfl) ?_
    refine zx_lift (pc' := 77) (fun _ => zq_iconst (v := 4) dX11_count_76 rfl rfl) ?_
    refine zx_cVi (pc' := 80) zcv_X11_166 (cX8_sizeOf_mc N true (4 : Int32) s) (zob_f true) rfl (by decide) (Nat.le_of_ble_eq_true rfl) dX11_count_77 rfl rfl (fun r4 s5 => ?_)
    exact zx_iret rfl dX11_count_80
  refine zx_ite (fun hc => ?_) (fun hn7 => ?_)
  · refine zx_tabIn (tgt := 81) hc dX11_count_1 (by decide) (by decide) rfl rfl ?_
    refine zx_lift (pc' := 82) (fun _ => zq_aload_n rfl rfl dX11_count_81 rfl) ?_
    refine zx_lift (pc' := 85) (fun _ => zt_getR zfr_X11_95 zfd_0_8 dX11_count_82 rfl) ?_
    refine zx_lift (pc' := 88) (fun _ => zt_getI zfr_X11_170 zfd_56_5 dX11_count_85 rfl) ?_
    exact zx_iret rfl dX11_count_88
  refine zx_ite (fun hc => ?_) (fun hn8 => ?_)
  · refine zx_tabIn (tgt := 89) hc dX11_count_1 (by decide) (by decide) rfl rfl ?_
    refine zx_lift (pc' := 90) (fun _ => zq_aload_n rfl rfl dX11_count_89 rfl) ?_
    refine zx_lift (pc' := 93) (fun _ => zt_getR zfr_X11_45 zfd_0_3 dX11_count_90 rfl) ?_
    refine zx_lift (pc' := 96) (fun _ => zt_getI zfr_X11_173 zfd_42_1 dX11_count_93 rfl) ?_
    exact zx_iret rfl dX11_count_96
  refine zx_ite (fun hc => ?_) (fun hn11 => ?_)
  · refine zx_tabIn (tgt := 97) hc dX11_count_1 (by decide) (by decide) rfl rfl ?_
    refine zx_lift (pc' := 98) (fun _ => zq_aload_n rfl rfl dX11_count_97 rfl) ?_
    refine zx_lift (pc' := 101) (fun _ => zt_getR zfr_X11_31 zfd_0_1 dX11_count_98 rfl) ?_
    refine zx_cVi (pc' := 104) zcv_X11_176 (cX3_inksInUse_mc N s) zob_31 rfl (by decide) (Nat.le_of_ble_eq_true rfl) dX11_count_101 rfl rfl (fun r9 s10 => ?_)
    exact zx_iret rfl dX11_count_104
  refine zx_ite (fun hc => ?_) (fun hn14 => ?_)
  · refine zx_tabIn (tgt := 105) hc dX11_count_1 (by decide) (by decide) rfl rfl ?_
    refine zx_lift (pc' := 106) (fun _ => zq_aload_n rfl rfl dX11_count_105 rfl) ?_
    refine zx_lift (pc' := 109) (fun _ => zt_getR zfr_X11_61 zfd_0_5 dX11_count_106 rfl) ?_
    refine zx_cVi (pc' := 112) zcv_X11_180 (cX6_fewest_mc N s) zob_46 rfl (by decide) (Nat.le_of_ble_eq_true rfl) dX11_count_109 rfl rfl (fun r12 s13 => ?_)
    exact zx_iret rfl dX11_count_112
  refine zx_tabOut (tgt := 113) dX11_count_1 (by have := zq_tk (k := 0) hn1 (by decide); have := zq_tk (k := 1) hn2 (by decide); have := zq_tk (k := 2) hn3 (by decide); have := zq_tk (k := 3) hn6 (by decide); have := zq_tk (k := 4) hn7 (by decide); have := zq_tk (k := 5) hn8 (by decide); have := zq_tk (k := 6) hn11 (by decide); have := zq_tk (k := 7) hn14 (by decide); omega) rfl ?_
  refine zx_lift (pc' := 116) (fun _ => zq_sipush (v := (-1002)) dX11_count_113 rfl rfl) ?_
  exact zx_iret rfl dX11_count_116
theorem cX11_count_mc (N : Nat)  (p1 : Int32) (s : zq_S) (v : Int32 × zq_S) (h : mX11_count N p1 s = some v) : zq_MC yX11_count cX11_count 2 (some .int) ⟨6, 0, 0, 139⟩ 0 0 [.ref 0, .int p1] (zq_en s) (zv_i v.1, zq_en v.2) := zq_MC_x [.ref 0, .int p1] (by decide +kernel) rfl rfl (Nat.le_of_ble_eq_true rfl) (xX11_count N p1 s) h
def mX11_drop (N : Nat)   (s : zq_S) : Option (Int32 × zq_S) :=
  if (zgf s 56 5) = (0 : Int32) then
  some ((-1 : Int32), s)
  else
  zq_let (zpf s 56 5 ((zgf s 56 5) - (1 : Int32))) (fun s1 =>
  zq_b2 (mX8_sizeOf N true (zgf s1 56 5) s1) (fun r2 s3 =>
  some (r2, s3)))
set_option maxRecDepth 20000 in
set_option maxHeartbeats 2000000 in
theorem xX11_drop (N : Nat)   (s : zq_S) : zq_X yX11_drop RX11 cX11_drop 1 (some .int) ⟨2, 0, 0, 42⟩ zv_i 0 [.ref 0] [] s (mX11_drop N s) := by
  unfold mX11_drop
  refine zx_lift (pc' := 1) (fun _ => zq_aload_n rfl rfl dX11_drop_0 rfl) ?_
  refine zx_lift (pc' := 4) (fun _ => zt_getR zfr_X11_95 zfd_0_8 dX11_drop_1 rfl) ?_
  refine zx_lift (pc' := 7) (fun _ => zt_getI zfr_X11_170 zfd_56_5 dX11_drop_4 rfl) ?_
  refine zx_if_ne (pc' := 10) (tgt := 12) dX11_drop_7 rfl rfl (fun hc => ?_) (fun hc => ?_)
  · refine zx_lift (pc' := 13) (fun _ => zq_aload_n rfl rfl dX11_drop_12 rfl) ?_
    refine zx_lift (pc' := 16) (fun _ => zt_getR zfr_X11_95 zfd_0_8 dX11_drop_13 rfl) ?_
    refine zx_lift (pc' := 17) (fun _ => zq_dup rfl dX11_drop_16 rfl) ?_
    refine zx_lift (pc' := 20) (fun _ => zt_getI zfr_X11_170 zfd_56_5 dX11_drop_17 rfl) ?_
    refine zx_lift (pc' := 21) (fun _ => zq_iconst (v := 1) dX11_drop_20 rfl rfl) ?_
    refine zx_lift (pc' := 22) (fun _ => zq_isub dX11_drop_21 rfl) ?_
    refine zx_putI (pc' := 25) zfr_X11_170 (fun _ => ⟨rfl, rfl⟩) zfd_56_5 dX11_drop_22 rfl (fun s1 => ?_)
    refine zx_lift (pc' := 26) (fun _ => zq_aload_n rfl rfl dX11_drop_25 rfl) ?_
    refine zx_lift (pc' := 29) (fun _ => zt_getR zfr_X11_79 zfd_0_7 dX11_drop_26 rfl) ?_
    refine zx_lift (pc' := 30) (fun _ => zq_aload_n rfl rfl dX11_drop_29 rfl) ?_
    refine zx_lift (pc' := 33) (fun _ => zt_getR zfr_X11_95 zfd_0_8 dX11_drop_30 rfl) ?_
    refine zx_lift (pc' := 36) (fun _ => zt_getI zfr_X11_170 zfd_56_5 dX11_drop_33 rfl) ?_
    refine zx_cVi (pc' := 39) zcv_X11_166 (cX8_sizeOf_mc N true (zgf s1 56 5) s1) (zob_f true) rfl (by decide) (Nat.le_of_ble_eq_true rfl) dX11_drop_36 rfl rfl (fun r2 s3 => ?_)
    exact zx_iret rfl dX11_drop_39
  · refine zx_lift (pc' := 11) (fun _ => zq_iconst (v := (-1)) dX11_drop_10 rfl rfl) ?_
    exact zx_iret rfl dX11_drop_11
theorem cX11_drop_mc (N : Nat)   (s : zq_S) (v : Int32 × zq_S) (h : mX11_drop N s = some v) : zq_MC yX11_drop cX11_drop 1 (some .int) ⟨2, 0, 0, 42⟩ 0 0 [.ref 0] (zq_en s) (zv_i v.1, zq_en v.2) := zq_MC_x [.ref 0] (by decide +kernel) rfl rfl (Nat.le_of_ble_eq_true rfl) (xX11_drop N s) h
def mX11_isInk (N : Nat)  (p0 : Int32) (s : zq_S) : Option (Int32 × zq_S) :=
  zq_let (if p0 < (0 : Int32) then (0 : Int32) else (if (4 : Int32) ≤ p0 then (0 : Int32) else (1 : Int32))) (fun x1 =>
  zq_bz x1 (some (x1, s)))
set_option maxRecDepth 20000 in
set_option maxHeartbeats 2000000 in
theorem xX11_isInk (N : Nat)  (p0 : Int32) (s : zq_S) : zq_X yX11_isInk RX11 cX11_isInk 1 (some .boolean) ⟨0, 0, 0, 0⟩ zv_i 0 [.int p0] [] s (mX11_isInk N p0 s) := by
  unfold mX11_isInk
  refine zx_lift (pc' := 1) (fun _ => zq_iload_n rfl rfl dX11_isInk_0 rfl) ?_
  refine zx_tern (pcJ := 14) (lsJ := fun x1 => [.null]) (stJ := fun x1 => [.int x1]) (fun x1 => ?_) (fun f hJ => ?_)
  rotate_left
  · refine zx_lif_lt (pc' := 4) (tgt := 13) dX11_isInk_1 rfl rfl (fun _ => ?_) (fun _ => ?_)
    · refine zx_lift (pc' := 14) (fun _ => zq_iconst (v := 0) dX11_isInk_13 rfl rfl) ?_
      exact zx_lessJ (zq_cz zq_cn) (hJ _)
    · refine zx_lift (pc' := 5) (fun _ => zq_iload_n rfl rfl dX11_isInk_4 rfl) ?_
      refine zx_lift (pc' := 6) (fun _ => zq_iconst (v := 4) dX11_isInk_5 rfl rfl) ?_
      refine zx_licmp_ge (pc' := 9) (tgt := 13) dX11_isInk_6 rfl rfl (fun _ => ?_) (fun _ => ?_)
      · refine zx_lift (pc' := 14) (fun _ => zq_iconst (v := 0) dX11_isInk_13 rfl rfl) ?_
        exact zx_lessJ (zq_cz zq_cn) (hJ _)
      · refine zx_lift (pc' := 10) (fun _ => zq_iconst (v := 1) dX11_isInk_9 rfl rfl) ?_
        refine zx_lift (pc' := 14) (fun _ => zq_goto dX11_isInk_10 rfl) ?_
        exact zx_lessJ (zq_cz zq_cn) (hJ _)
  exact zx_zretg rfl dX11_isInk_14
theorem cX11_isInk_mc (N : Nat)  (p0 : Int32) (s : zq_S) (v : Int32 × zq_S) (h : mX11_isInk N p0 s = some v) : zq_MC yX11_isInk cX11_isInk 1 (some .boolean) ⟨0, 0, 0, 0⟩ 0 0 [.int p0] (zq_en s) (zv_i v.1, zq_en v.2) := zq_MC_x [.int p0] (by decide +kernel) rfl rfl (Nat.le_of_ble_eq_true rfl) (xX11_isInk N p0 s) h
def bX3_inEarlierInks_4 (N : Nat)  (f1 : Int32)  (self : Int32 × Int32 × zq_S → Option (Int32 × zq_S)) (v : Int32 × Int32 × zq_S) : Option (Int32 × zq_S) :=
  if (zgf v.2.2 (zs (zgb v.2.2 3)) 7) ≤ v.2.1 then
  some (v.1, v.2.2)
  else
  zq_ck v.2.1 10 (
  zq_ck (zga v.2.2 32 v.2.1) 4 (
  zq_ck f1 10 (
  zq_let (if (((zga v.2.2 33 (zga v.2.2 32 v.2.1)) >>> ((zga v.2.2 32 f1) &&& 31)) &&& (1 : Int32)) = (0 : Int32) then v.1 else (v.1 ||| ((1 : Int32) <<< (v.2.1 &&& 31)))) (fun x1 =>
  zq_let (v.2.1 + (1 : Int32)) (fun x2 =>
  self (x1, x2, v.2.2))))))
set_option maxRecDepth 20000 in
set_option maxHeartbeats 2000000 in
theorem xX3_inEarlierInks_4 (N : Nat)  (f1 : Int32)  (self : Int32 × Int32 × zq_S → Option (Int32 × zq_S)) (hself : ∀ v, zq_X yX3_inEarlierInks RX3 cX3_inEarlierInks 4 (some .int) ⟨0, 0, 0, 0⟩ zv_i 4 [.ref 31, .int f1, .int v.1, .int v.2.1] [] v.2.2 (self v)) (v : Int32 × Int32 × zq_S) : zq_X yX3_inEarlierInks RX3 cX3_inEarlierInks 4 (some .int) ⟨0, 0, 0, 0⟩ zv_i 4 [.ref 31, .int f1, .int v.1, .int v.2.1] [] v.2.2 (bX3_inEarlierInks_4 N f1 self v) := by
  unfold bX3_inEarlierInks_4
  refine zx_lift (pc' := 5) (fun _ => zq_iload_n rfl rfl dX3_inEarlierInks_4 rfl) ?_
  refine zx_lift (pc' := 6) (fun _ => zq_aload_n rfl rfl dX3_inEarlierInks_5 rfl) ?_
  refine zx_lift (pc' := 9) (fun _ => zt_getP zfr_X3_34 zfd_31_0 dX3_inEarlierInks_6 rfl) ?_
  refine zx_lift (pc' := 12) (fun _ => zt_getI zfr_X3_48 (zfd_s_7 (zgb v.2.2 3)) dX3_inEarlierInks_9 rfl) ?_
  refine zx_icmp_ge (pc' := 15) (tgt := 50) dX3_inEarlierInks_12 rfl rfl (fun hc => ?_) (fun hc => ?_)
  · refine zx_lift (pc' := 51) (fun _ => zq_iload_n rfl rfl dX3_inEarlierInks_50 rfl) ?_
    exact zx_iret rfl dX3_inEarlierInks_51
  · refine zx_lift (pc' := 16) (fun _ => zq_aload_n rfl rfl dX3_inEarlierInks_15 rfl) ?_
    refine zx_lift (pc' := 19) (fun _ => zt_getR zfr_X3_15 zfd_31_2 dX3_inEarlierInks_16 rfl) ?_
    refine zx_lift (pc' := 20) (fun _ => zq_aload_n rfl rfl dX3_inEarlierInks_19 rfl) ?_
    refine zx_lift (pc' := 23) (fun _ => zt_getR zfr_X3_9 zfd_31_1 dX3_inEarlierInks_20 rfl) ?_
    refine zx_lift (pc' := 24) (fun _ => zq_iload_n rfl rfl dX3_inEarlierInks_23 rfl) ?_
    refine zx_iaload (pc' := 25) zsh_32 dX3_inEarlierInks_24 rfl ?_
    refine zx_iaload (pc' := 26) zsh_33 dX3_inEarlierInks_25 rfl ?_
    refine zx_lift (pc' := 27) (fun _ => zq_aload_n rfl rfl dX3_inEarlierInks_26 rfl) ?_
    refine zx_lift (pc' := 30) (fun _ => zt_getR zfr_X3_9 zfd_31_1 dX3_inEarlierInks_27 rfl) ?_
    refine zx_lift (pc' := 31) (fun _ => zq_iload_n rfl rfl dX3_inEarlierInks_30 rfl) ?_
    refine zx_iaload (pc' := 32) zsh_32 dX3_inEarlierInks_31 rfl ?_
    refine zx_lift (pc' := 33) (fun _ => zq_ishr dX3_inEarlierInks_32 rfl) ?_
    refine zx_lift (pc' := 34) (fun _ => zq_iconst (v := 1) dX3_inEarlierInks_33 rfl rfl) ?_
    refine zx_lift (pc' := 35) (fun _ => zq_iand dX3_inEarlierInks_34 rfl) ?_
    refine zx_tern (pcJ := 44) (lsJ := fun x1 => [.ref 31, .int f1, .int x1, .int v.2.1]) (stJ := fun x1 => []) (fun x1 => ?_) (fun f hJ => ?_)
    rotate_left
    · refine zx_lif_eq (pc' := 38) (tgt := 44) dX3_inEarlierInks_35 rfl rfl (fun _ => ?_) (fun _ => ?_)
      · exact zx_lessJ (zq_cr (zq_cr (zq_cr (zq_cr zq_cn)))) (hJ _)
      · refine zx_lift (pc' := 39) (fun _ => zq_iload_n rfl rfl dX3_inEarlierInks_38 rfl) ?_
        refine zx_lift (pc' := 40) (fun _ => zq_iconst (v := 1) dX3_inEarlierInks_39 rfl rfl) ?_
        refine zx_lift (pc' := 41) (fun _ => zq_iload_n rfl rfl dX3_inEarlierInks_40 rfl) ?_
        refine zx_lift (pc' := 42) (fun _ => zq_ishl dX3_inEarlierInks_41 rfl) ?_
        refine zx_lift (pc' := 43) (fun _ => zq_ior dX3_inEarlierInks_42 rfl) ?_
        refine zx_lift (pc' := 44) (fun _ => zq_istore_n (ls' := [.ref 31, .int f1, .int (v.1 ||| ((1 : Int32) <<< (v.2.1 &&& 31))), .int v.2.1]) rfl (by decide) rfl rfl dX3_inEarlierInks_43 rfl) ?_
        exact zx_lessJ (zq_cr (zq_cr (zq_cr (zq_cr zq_cn)))) (hJ _)
    refine zx_iinc (pc' := 47) (ls' := fun x2 => [.ref 31, .int f1, .int x1, .int x2]) rfl rfl (by decide) rfl (fun _ => rfl) dX3_inEarlierInks_44 rfl (fun x2 => ?_)
    refine zx_lift (pc' := 4) (fun _ => zq_goto dX3_inEarlierInks_47 rfl) ?_
    exact hself (x1, x2, v.2.2)
theorem yX3_inEarlierInks_4 (N : Nat)  (f1 : Int32)  (n : Nat) : ∀ v : Int32 × Int32 × zq_S, zq_X yX3_inEarlierInks RX3 cX3_inEarlierInks 4 (some .int) ⟨0, 0, 0, 0⟩ zv_i 4 [.ref 31, .int f1, .int v.1, .int v.2.1] [] v.2.2 (zq_loop (bX3_inEarlierInks_4 N f1 ) n v) := by
  induction n with
  | zero => exact fun v u hu => by cases hu
  | succ n ih =>
    intro v
    rw [zq_loop_s]
    exact xX3_inEarlierInks_4 N f1  (zq_loop (bX3_inEarlierInks_4 N f1 ) n) ih v
def mX3_inEarlierInks (N : Nat)  (p1 : Int32) (s : zq_S) : Option (Int32 × zq_S) :=
  zq_loop (bX3_inEarlierInks_4 N p1 ) N ((0 : Int32), (0 : Int32), s)
set_option maxRecDepth 20000 in
set_option maxHeartbeats 2000000 in
theorem xX3_inEarlierInks (N : Nat)  (p1 : Int32) (s : zq_S) : zq_X yX3_inEarlierInks RX3 cX3_inEarlierInks 4 (some .int) ⟨0, 0, 0, 0⟩ zv_i 0 [.ref 31, .int p1, .null, .null] [] s (mX3_inEarlierInks N p1 s) := by
  unfold mX3_inEarlierInks
  refine zx_lift (pc' := 1) (fun _ => zq_iconst (v := 0) dX3_inEarlierInks_0 rfl rfl) ?_
  refine zx_lift (pc' := 2) (fun _ => zq_istore_n (ls' := [.ref 31, .int p1, .int (0 : Int32), .null]) rfl (by decide) rfl rfl dX3_inEarlierInks_1 rfl) ?_
  refine zx_lift (pc' := 3) (fun _ => zq_iconst (v := 0) dX3_inEarlierInks_2 rfl rfl) ?_
  refine zx_lift (pc' := 4) (fun _ => zq_istore_n (ls' := [.ref 31, .int p1, .int (0 : Int32), .int (0 : Int32)]) rfl (by decide) rfl rfl dX3_inEarlierInks_3 rfl) ?_
  refine yX3_inEarlierInks_4 N p1  N ((0 : Int32), (0 : Int32), s)
theorem cX3_inEarlierInks_mc (N : Nat)  (p1 : Int32) (s : zq_S) (v : Int32 × zq_S) (h : mX3_inEarlierInks N p1 s = some v) : zq_MC yX3_inEarlierInks cX3_inEarlierInks 4 (some .int) ⟨0, 0, 0, 0⟩ 0 0 [.ref 31, .int p1] (zq_en s) (zv_i v.1, zq_en v.2) := zq_MC_x [.ref 31, .int p1, .null, .null] (by decide +kernel) rfl rfl (Nat.le_of_ble_eq_true rfl) (xX3_inEarlierInks N p1 s) h
def jX3_keepTrial_j71 (N : Nat)  (f1 : Int32) (k77 : zq_S → Option (Unit × zq_S)) (self : Int32 × zq_S → Option (Unit × zq_S)) (w2 : Int32) (s : zq_S) : Option (Unit × zq_S) :=
  zq_let (w2 + (1 : Int32)) (fun x4 =>
  self (x4, s))
set_option maxRecDepth 20000 in
set_option maxHeartbeats 2000000 in
theorem xX3_keepTrial_j71_j (N : Nat)  (f1 : Int32) (k77 : zq_S → Option (Unit × zq_S)) (hk77 : ∀ e, zq_X yX3_keepTrial RX3 cX3_keepTrial 3 none ⟨1, 0, 0, 23⟩ zv_v 77 [.ref 31, .int f1, .null] [] e (k77 e)) (self : Int32 × zq_S → Option (Unit × zq_S)) (hself : ∀ v, zq_X yX3_keepTrial RX3 cX3_keepTrial 3 none ⟨1, 0, 0, 23⟩ zv_v 35 [.ref 31, .int f1, .int v.1] [] v.2 (self v)) (w2 : Int32) (s : zq_S) : zq_X yX3_keepTrial RX3 cX3_keepTrial 3 none ⟨1, 0, 0, 23⟩ zv_v 71 [.ref 31, .int f1, .int w2] [] s (jX3_keepTrial_j71 N f1 k77 self w2 s) := by
  unfold jX3_keepTrial_j71
  refine zx_iinc (pc' := 74) (ls' := fun x4 => [.ref 31, .int f1, .int x4]) rfl rfl (by decide) rfl (fun _ => rfl) dX3_keepTrial_71 rfl (fun x4 => ?_)
  refine zx_lift (pc' := 35) (fun _ => zq_goto dX3_keepTrial_74 rfl) ?_
  exact hself (x4, s)
def bX3_keepTrial_35 (N : Nat)  (f1 : Int32) (k77 : zq_S → Option (Unit × zq_S)) (self : Int32 × zq_S → Option (Unit × zq_S)) (v : Int32 × zq_S) : Option (Unit × zq_S) :=
  if (zgf v.2 (zs (zgb v.2 3)) 7) ≤ v.1 then
  k77 v.2
  else
  zq_ck f1 10 (
  if (((zga v.2 36 f1) >>> (v.1 &&& 31)) &&& (1 : Int32)) = (0 : Int32) then
  jX3_keepTrial_j71 N f1 k77 self v.1 v.2
  else
  zq_ck v.1 10 (
  zq_ck v.1 10 (
  zq_let (zpa v.2 35 v.1 ((zga v.2 35 v.1) ||| ((1 : Int32) <<< (f1 &&& 31)))) (fun s5 =>
  jX3_keepTrial_j71 N f1 k77 self v.1 s5))))
set_option maxRecDepth 20000 in
set_option maxHeartbeats 2000000 in
theorem xX3_keepTrial_35 (N : Nat)  (f1 : Int32) (k77 : zq_S → Option (Unit × zq_S)) (hk77 : ∀ e, zq_X yX3_keepTrial RX3 cX3_keepTrial 3 none ⟨1, 0, 0, 23⟩ zv_v 77 [.ref 31, .int f1, .null] [] e (k77 e)) (self : Int32 × zq_S → Option (Unit × zq_S)) (hself : ∀ v, zq_X yX3_keepTrial RX3 cX3_keepTrial 3 none ⟨1, 0, 0, 23⟩ zv_v 35 [.ref 31, .int f1, .int v.1] [] v.2 (self v)) (v : Int32 × zq_S) : zq_X yX3_keepTrial RX3 cX3_keepTrial 3 none ⟨1, 0, 0, 23⟩ zv_v 35 [.ref 31, .int f1, .int v.1] [] v.2 (bX3_keepTrial_35 N f1 k77 self v) := by
  unfold bX3_keepTrial_35
  refine zx_lift (pc' := 36) (fun _ => zq_iload_n rfl rfl dX3_keepTrial_35 rfl) ?_
  refine zx_lift (pc' := 37) (fun _ => zq_aload_n rfl rfl dX3_keepTrial_36 rfl) ?_
  refine zx_lift (pc' := 40) (fun _ => zt_getP zfr_X3_34 zfd_31_0 dX3_keepTrial_37 rfl) ?_
  refine zx_lift (pc' := 43) (fun _ => zt_getI zfr_X3_48 (zfd_s_7 (zgb v.2 3)) dX3_keepTrial_40 rfl) ?_
  refine zx_icmp_ge (pc' := 46) (tgt := 77) dX3_keepTrial_43 rfl rfl (fun hc => ?_) (fun hc => ?_)
  · refine zx_less [.ref 31, .int f1, .null] (zq_cr (zq_cr (zq_cz zq_cn))) ?_
    exact hk77 v.2
  · refine zx_lift (pc' := 47) (fun _ => zq_aload_n rfl rfl dX3_keepTrial_46 rfl) ?_
    refine zx_lift (pc' := 50) (fun _ => zt_getR zfr_X3_24 zfd_31_5 dX3_keepTrial_47 rfl) ?_
    refine zx_lift (pc' := 51) (fun _ => zq_iload_n rfl rfl dX3_keepTrial_50 rfl) ?_
    refine zx_iaload (pc' := 52) zsh_36 dX3_keepTrial_51 rfl ?_
    refine zx_lift (pc' := 53) (fun _ => zq_iload_n rfl rfl dX3_keepTrial_52 rfl) ?_
    refine zx_lift (pc' := 54) (fun _ => zq_ishr dX3_keepTrial_53 rfl) ?_
    refine zx_lift (pc' := 55) (fun _ => zq_iconst (v := 1) dX3_keepTrial_54 rfl rfl) ?_
    refine zx_lift (pc' := 56) (fun _ => zq_iand dX3_keepTrial_55 rfl) ?_
    refine zx_if_eq (pc' := 59) (tgt := 71) dX3_keepTrial_56 rfl rfl (fun hc => ?_) (fun hc => ?_)
    · exact xX3_keepTrial_j71_j N f1 k77 hk77 self hself v.1 v.2
    · refine zx_lift (pc' := 60) (fun _ => zq_aload_n rfl rfl dX3_keepTrial_59 rfl) ?_
      refine zx_lift (pc' := 63) (fun _ => zt_getR zfr_X3_21 zfd_31_4 dX3_keepTrial_60 rfl) ?_
      refine zx_lift (pc' := 64) (fun _ => zq_iload_n rfl rfl dX3_keepTrial_63 rfl) ?_
      refine zx_lift (pc' := 65) (fun _ => zq_dup2 rfl rfl dX3_keepTrial_64 rfl) ?_
      refine zx_iaload (pc' := 66) zsh_35 dX3_keepTrial_65 rfl ?_
      refine zx_lift (pc' := 67) (fun _ => zq_iconst (v := 1) dX3_keepTrial_66 rfl rfl) ?_
      refine zx_lift (pc' := 68) (fun _ => zq_iload_n rfl rfl dX3_keepTrial_67 rfl) ?_
      refine zx_lift (pc' := 69) (fun _ => zq_ishl dX3_keepTrial_68 rfl) ?_
      refine zx_lift (pc' := 70) (fun _ => zq_ior dX3_keepTrial_69 rfl) ?_
      refine zx_iastore (pc' := 71) zsh_35 dX3_keepTrial_70 rfl (fun s5 => ?_)
      exact xX3_keepTrial_j71_j N f1 k77 hk77 self hself v.1 s5
theorem yX3_keepTrial_35 (N : Nat)  (f1 : Int32) (k77 : zq_S → Option (Unit × zq_S)) (hk77 : ∀ e, zq_X yX3_keepTrial RX3 cX3_keepTrial 3 none ⟨1, 0, 0, 23⟩ zv_v 77 [.ref 31, .int f1, .null] [] e (k77 e)) (n : Nat) : ∀ v : Int32 × zq_S, zq_X yX3_keepTrial RX3 cX3_keepTrial 3 none ⟨1, 0, 0, 23⟩ zv_v 35 [.ref 31, .int f1, .int v.1] [] v.2 (zq_loop (bX3_keepTrial_35 N f1 k77) n v) := by
  induction n with
  | zero => exact fun v u hu => by cases hu
  | succ n ih =>
    intro v
    rw [zq_loop_s]
    exact xX3_keepTrial_35 N f1 k77 hk77 (zq_loop (bX3_keepTrial_35 N f1 k77) n) ih v
def bX3_keepTrial_10 (N : Nat)    (self : Int32 × zq_S → Option (Unit × zq_S)) (v : Int32 × zq_S) : Option (Unit × zq_S) :=
  if (zgf v.2 (zs (zgb v.2 3)) 7) ≤ v.1 then
  zq_let (zpf v.2 31 8 ((zgf v.2 31 8) + (1 : Int32))) (fun s2 =>
  some ((), s2))
  else
  zq_ck v.1 10 (
  zq_ck v.1 10 (
  zq_let (zpa v.2 34 v.1 (zga v.2 36 v.1)) (fun s3 =>
  zq_loop (bX3_keepTrial_35 N v.1 (fun e6 =>
  zq_let (v.1 + (1 : Int32)) (fun x7 =>
  self (x7, e6)))) N ((0 : Int32), s3))))
set_option maxRecDepth 20000 in
set_option maxHeartbeats 2000000 in
theorem xX3_keepTrial_10 (N : Nat)    (self : Int32 × zq_S → Option (Unit × zq_S)) (hself : ∀ v, zq_X yX3_keepTrial RX3 cX3_keepTrial 3 none ⟨1, 0, 0, 23⟩ zv_v 10 [.ref 31, .int v.1, .null] [] v.2 (self v)) (v : Int32 × zq_S) : zq_X yX3_keepTrial RX3 cX3_keepTrial 3 none ⟨1, 0, 0, 23⟩ zv_v 10 [.ref 31, .int v.1, .null] [] v.2 (bX3_keepTrial_10 N self v) := by
  unfold bX3_keepTrial_10
  refine zx_lift (pc' := 11) (fun _ => zq_iload_n rfl rfl dX3_keepTrial_10 rfl) ?_
  refine zx_lift (pc' := 12) (fun _ => zq_aload_n rfl rfl dX3_keepTrial_11 rfl) ?_
  refine zx_lift (pc' := 15) (fun _ => zt_getP zfr_X3_34 zfd_31_0 dX3_keepTrial_12 rfl) ?_
  refine zx_lift (pc' := 18) (fun _ => zt_getI zfr_X3_48 (zfd_s_7 (zgb v.2 3)) dX3_keepTrial_15 rfl) ?_
  refine zx_icmp_ge (pc' := 21) (tgt := 83) dX3_keepTrial_18 rfl rfl (fun hc => ?_) (fun hc => ?_)
  · refine zx_lift (pc' := 84) (fun _ => zq_aload_n rfl rfl dX3_keepTrial_83 rfl) ?_
    refine zx_lift (pc' := 85) (fun _ => zq_dup rfl dX3_keepTrial_84 rfl) ?_
    refine zx_lift (pc' := 88) (fun _ => zt_getI zfr_X3_66 zfd_31_8 dX3_keepTrial_85 rfl) ?_
    refine zx_lift (pc' := 89) (fun _ => zq_iconst (v := 1) dX3_keepTrial_88 rfl rfl) ?_
    refine zx_lift (pc' := 90) (fun _ => zq_iadd dX3_keepTrial_89 rfl) ?_
    refine zx_putI (pc' := 93) zfr_X3_66 (fun _ => ⟨rfl, rfl⟩) zfd_31_8 dX3_keepTrial_90 rfl (fun s2 => ?_)
    exact zx_vret rfl dX3_keepTrial_93
  · refine zx_lift (pc' := 22) (fun _ => zq_aload_n rfl rfl dX3_keepTrial_21 rfl) ?_
    refine zx_lift (pc' := 25) (fun _ => zt_getR zfr_X3_18 zfd_31_3 dX3_keepTrial_22 rfl) ?_
    refine zx_lift (pc' := 26) (fun _ => zq_iload_n rfl rfl dX3_keepTrial_25 rfl) ?_
    refine zx_lift (pc' := 27) (fun _ => zq_aload_n rfl rfl dX3_keepTrial_26 rfl) ?_
    refine zx_lift (pc' := 30) (fun _ => zt_getR zfr_X3_24 zfd_31_5 dX3_keepTrial_27 rfl) ?_
    refine zx_lift (pc' := 31) (fun _ => zq_iload_n rfl rfl dX3_keepTrial_30 rfl) ?_
    refine zx_iaload (pc' := 32) zsh_36 dX3_keepTrial_31 rfl ?_
    refine zx_iastore (pc' := 33) zsh_34 dX3_keepTrial_32 rfl (fun s3 => ?_)
    refine zx_lift (pc' := 34) (fun _ => zq_iconst (v := 0) dX3_keepTrial_33 rfl rfl) ?_
    refine zx_lift (pc' := 35) (fun _ => zq_istore_n (ls' := [.ref 31, .int v.1, .int (0 : Int32)]) rfl (by decide) rfl rfl dX3_keepTrial_34 rfl) ?_
    refine yX3_keepTrial_35 N v.1 _ (fun e6 => ?_) N ((0 : Int32), s3)
    refine zx_iinc (pc' := 80) (ls' := fun x7 => [.ref 31, .int x7, .null]) rfl rfl (by decide) rfl (fun _ => rfl) dX3_keepTrial_77 rfl (fun x7 => ?_)
    refine zx_lift (pc' := 10) (fun _ => zq_goto dX3_keepTrial_80 rfl) ?_
    exact hself (x7, e6)
theorem yX3_keepTrial_10 (N : Nat)    (n : Nat) : ∀ v : Int32 × zq_S, zq_X yX3_keepTrial RX3 cX3_keepTrial 3 none ⟨1, 0, 0, 23⟩ zv_v 10 [.ref 31, .int v.1, .null] [] v.2 (zq_loop (bX3_keepTrial_10 N ) n v) := by
  induction n with
  | zero => exact fun v u hu => by cases hu
  | succ n ih =>
    intro v
    rw [zq_loop_s]
    exact xX3_keepTrial_10 N  (zq_loop (bX3_keepTrial_10 N ) n) ih v
def mX3_keepTrial (N : Nat)   (s : zq_S) : Option (Unit × zq_S) :=
  zq_let (zpfi s 35 10 (0 : Int32)) (fun s1 =>
  zq_loop (bX3_keepTrial_10 N ) N ((0 : Int32), s1))
set_option maxRecDepth 20000 in
set_option maxHeartbeats 2000000 in
theorem xX3_keepTrial (N : Nat)   (s : zq_S) : zq_X yX3_keepTrial RX3 cX3_keepTrial 3 none ⟨1, 0, 0, 23⟩ zv_v 0 [.ref 31, .null, .null] [] s (mX3_keepTrial N s) := by
  unfold mX3_keepTrial
  refine zx_lift (pc' := 1) (fun _ => zq_aload_n rfl rfl dX3_keepTrial_0 rfl) ?_
  refine zx_lift (pc' := 4) (fun _ => zt_getR zfr_X3_21 zfd_31_4 dX3_keepTrial_1 rfl) ?_
  refine zx_lift (pc' := 5) (fun _ => zq_iconst (v := 0) dX3_keepTrial_4 rfl rfl) ?_
  refine zx_fillI (pc' := 8) zcs_X3_38 zsh_35 ⟨by decide, by decide, Nat.le_of_ble_eq_true rfl⟩ dX3_keepTrial_5 rfl (fun s1 => ?_)
  refine zx_lift (pc' := 9) (fun _ => zq_iconst (v := 0) dX3_keepTrial_8 rfl rfl) ?_
  refine zx_lift (pc' := 10) (fun _ => zq_istore_n (ls' := [.ref 31, .int (0 : Int32), .null]) rfl (by decide) rfl rfl dX3_keepTrial_9 rfl) ?_
  refine yX3_keepTrial_10 N  N ((0 : Int32), s1)
theorem cX3_keepTrial_mc (N : Nat)   (s : zq_S) (v : Unit × zq_S) (h : mX3_keepTrial N s = some v) : zq_MC yX3_keepTrial cX3_keepTrial 3 none ⟨1, 0, 0, 23⟩ 0 0 [.ref 31] (zq_en s) (zv_v v.1, zq_en v.2) := zq_MC_x [.ref 31, .null, .null] (by decide +kernel) rfl rfl (Nat.le_of_ble_eq_true rfl) (xX3_keepTrial N s) h
def bX3_settle_2 (N : Nat)   (k40 : zq_S → Option (Int32 × zq_S)) (self : Int32 × zq_S → Option (Int32 × zq_S)) (v : Int32 × zq_S) : Option (Int32 × zq_S) :=
  if (zgf v.2 (zs (zgb v.2 3)) 7) ≤ v.1 then
  k40 v.2
  else
  zq_ck v.1 10 (
  zq_b2 (mX3_inEarlierInks N v.1 v.2) (fun r1 s2 =>
  zq_ck v.1 10 (
  zq_let (zpa s2 36 v.1 ((zga v.2 (zs (zgb v.2 3) + 6) v.1) ||| r1)) (fun s3 =>
  zq_let (v.1 + (1 : Int32)) (fun x4 =>
  self (x4, s3))))))
set_option maxRecDepth 20000 in
set_option maxHeartbeats 2000000 in
theorem xX3_settle_2 (N : Nat)   (k40 : zq_S → Option (Int32 × zq_S)) (hk40 : ∀ e, zq_X yX3_settle RX3 cX3_settle 3 (some .boolean) ⟨2, 0, 0, 45⟩ zv_i 40 [.ref 31, .null, .null] [] e (k40 e)) (self : Int32 × zq_S → Option (Int32 × zq_S)) (hself : ∀ v, zq_X yX3_settle RX3 cX3_settle 3 (some .boolean) ⟨2, 0, 0, 45⟩ zv_i 2 [.ref 31, .int v.1, .null] [] v.2 (self v)) (v : Int32 × zq_S) : zq_X yX3_settle RX3 cX3_settle 3 (some .boolean) ⟨2, 0, 0, 45⟩ zv_i 2 [.ref 31, .int v.1, .null] [] v.2 (bX3_settle_2 N k40 self v) := by
  unfold bX3_settle_2
  refine zx_lift (pc' := 3) (fun _ => zq_iload_n rfl rfl dX3_settle_2 rfl) ?_
  refine zx_lift (pc' := 4) (fun _ => zq_aload_n rfl rfl dX3_settle_3 rfl) ?_
  refine zx_lift (pc' := 7) (fun _ => zt_getP zfr_X3_34 zfd_31_0 dX3_settle_4 rfl) ?_
  refine zx_lift (pc' := 10) (fun _ => zt_getI zfr_X3_48 (zfd_s_7 (zgb v.2 3)) dX3_settle_7 rfl) ?_
  refine zx_icmp_ge (pc' := 13) (tgt := 40) dX3_settle_10 rfl rfl (fun hc => ?_) (fun hc => ?_)
  · refine zx_less [.ref 31, .null, .null] (zq_cr (zq_cz (zq_cz zq_cn))) ?_
    exact hk40 v.2
  · refine zx_lift (pc' := 14) (fun _ => zq_aload_n rfl rfl dX3_settle_13 rfl) ?_
    refine zx_lift (pc' := 17) (fun _ => zt_getR zfr_X3_24 zfd_31_5 dX3_settle_14 rfl) ?_
    refine zx_lift (pc' := 18) (fun _ => zq_iload_n rfl rfl dX3_settle_17 rfl) ?_
    refine zx_lift (pc' := 19) (fun _ => zq_aload_n rfl rfl dX3_settle_18 rfl) ?_
    refine zx_lift (pc' := 22) (fun _ => zt_getP zfr_X3_34 zfd_31_0 dX3_settle_19 rfl) ?_
    refine zx_lift (pc' := 25) (fun _ => zt_getR zfr_X3_57 (zfd_s_10 (zgb v.2 3)) dX3_settle_22 rfl) ?_
    refine zx_lift (pc' := 26) (fun _ => zq_iload_n rfl rfl dX3_settle_25 rfl) ?_
    refine zx_iaload (pc' := 27) (zsh_s6 (zgb v.2 3)) dX3_settle_26 rfl ?_
    refine zx_lift (pc' := 28) (fun _ => zq_aload_n rfl rfl dX3_settle_27 rfl) ?_
    refine zx_lift (pc' := 29) (fun _ => zq_iload_n rfl rfl dX3_settle_28 rfl) ?_
    refine zx_cVi (pc' := 32) zcv_X3_59 (cX3_inEarlierInks_mc N v.1 v.2) zob_31 rfl (by decide) (Nat.le_of_ble_eq_true rfl) dX3_settle_29 rfl rfl (fun r1 s2 => ?_)
    refine zx_lift (pc' := 33) (fun _ => zq_ior dX3_settle_32 rfl) ?_
    refine zx_iastore (pc' := 34) zsh_36 dX3_settle_33 rfl (fun s3 => ?_)
    refine zx_iinc (pc' := 37) (ls' := fun x4 => [.ref 31, .int x4, .null]) rfl rfl (by decide) rfl (fun _ => rfl) dX3_settle_34 rfl (fun x4 => ?_)
    refine zx_lift (pc' := 2) (fun _ => zq_goto dX3_settle_37 rfl) ?_
    exact hself (x4, s3)
theorem yX3_settle_2 (N : Nat)   (k40 : zq_S → Option (Int32 × zq_S)) (hk40 : ∀ e, zq_X yX3_settle RX3 cX3_settle 3 (some .boolean) ⟨2, 0, 0, 45⟩ zv_i 40 [.ref 31, .null, .null] [] e (k40 e)) (n : Nat) : ∀ v : Int32 × zq_S, zq_X yX3_settle RX3 cX3_settle 3 (some .boolean) ⟨2, 0, 0, 45⟩ zv_i 2 [.ref 31, .int v.1, .null] [] v.2 (zq_loop (bX3_settle_2 N k40) n v) := by
  induction n with
  | zero => exact fun v u hu => by cases hu
  | succ n ih =>
    intro v
    rw [zq_loop_s]
    exact xX3_settle_2 N k40 hk40 (zq_loop (bX3_settle_2 N k40) n) ih v
def jX3_settle_j94 (N : Nat)  (f1 : Int32) (k100 : zq_S → Option (Int32 × zq_S)) (self : Int32 × zq_S → Option (Int32 × zq_S)) (w2 : Int32) (s : zq_S) : Option (Int32 × zq_S) :=
  zq_let (w2 + (1 : Int32)) (fun x6 =>
  self (x6, s))
set_option maxRecDepth 20000 in
set_option maxHeartbeats 2000000 in
theorem xX3_settle_j94_j (N : Nat)  (f1 : Int32) (k100 : zq_S → Option (Int32 × zq_S)) (hk100 : ∀ e, zq_X yX3_settle RX3 cX3_settle 3 (some .boolean) ⟨2, 0, 0, 45⟩ zv_i 100 [.ref 31, .int f1, .null] [] e (k100 e)) (self : Int32 × zq_S → Option (Int32 × zq_S)) (hself : ∀ v, zq_X yX3_settle RX3 cX3_settle 3 (some .boolean) ⟨2, 0, 0, 45⟩ zv_i 55 [.ref 31, .int f1, .int v.1] [] v.2 (self v)) (w2 : Int32) (s : zq_S) : zq_X yX3_settle RX3 cX3_settle 3 (some .boolean) ⟨2, 0, 0, 45⟩ zv_i 94 [.ref 31, .int f1, .int w2] [] s (jX3_settle_j94 N f1 k100 self w2 s) := by
  unfold jX3_settle_j94
  refine zx_iinc (pc' := 97) (ls' := fun x6 => [.ref 31, .int f1, .int x6]) rfl rfl (by decide) rfl (fun _ => rfl) dX3_settle_94 rfl (fun x6 => ?_)
  refine zx_lift (pc' := 55) (fun _ => zq_goto dX3_settle_97 rfl) ?_
  exact hself (x6, s)
def bX3_settle_55 (N : Nat)  (f1 : Int32) (k100 : zq_S → Option (Int32 × zq_S)) (self : Int32 × zq_S → Option (Int32 × zq_S)) (v : Int32 × zq_S) : Option (Int32 × zq_S) :=
  if (zgf v.2 (zs (zgb v.2 3)) 7) ≤ v.1 then
  k100 v.2
  else
  zq_ck v.1 10 (
  if (((zga v.2 36 v.1) >>> (f1 &&& 31)) &&& (1 : Int32)) = (0 : Int32) then
  jX3_settle_j94 N f1 k100 self v.1 v.2
  else
  zq_ck v.1 10 (
  zq_ck f1 10 (
  zq_ck v.1 10 (
  zq_let (zpa v.2 36 v.1 ((zga v.2 36 v.1) ||| (zga v.2 36 f1))) (fun s7 =>
  jX3_settle_j94 N f1 k100 self v.1 s7)))))
set_option maxRecDepth 20000 in
set_option maxHeartbeats 2000000 in
theorem xX3_settle_55 (N : Nat)  (f1 : Int32) (k100 : zq_S → Option (Int32 × zq_S)) (hk100 : ∀ e, zq_X yX3_settle RX3 cX3_settle 3 (some .boolean) ⟨2, 0, 0, 45⟩ zv_i 100 [.ref 31, .int f1, .null] [] e (k100 e)) (self : Int32 × zq_S → Option (Int32 × zq_S)) (hself : ∀ v, zq_X yX3_settle RX3 cX3_settle 3 (some .boolean) ⟨2, 0, 0, 45⟩ zv_i 55 [.ref 31, .int f1, .int v.1] [] v.2 (self v)) (v : Int32 × zq_S) : zq_X yX3_settle RX3 cX3_settle 3 (some .boolean) ⟨2, 0, 0, 45⟩ zv_i 55 [.ref 31, .int f1, .int v.1] [] v.2 (bX3_settle_55 N f1 k100 self v) := by
  unfold bX3_settle_55
  refine zx_lift (pc' := 56) (fun _ => zq_iload_n rfl rfl dX3_settle_55 rfl) ?_
  refine zx_lift (pc' := 57) (fun _ => zq_aload_n rfl rfl dX3_settle_56 rfl) ?_
  refine zx_lift (pc' := 60) (fun _ => zt_getP zfr_X3_34 zfd_31_0 dX3_settle_57 rfl) ?_
  refine zx_lift (pc' := 63) (fun _ => zt_getI zfr_X3_48 (zfd_s_7 (zgb v.2 3)) dX3_settle_60 rfl) ?_
  refine zx_icmp_ge (pc' := 66) (tgt := 100) dX3_settle_63 rfl rfl (fun hc => ?_) (fun hc => ?_)
  · refine zx_less [.ref 31, .int f1, .null] (zq_cr (zq_cr (zq_cz zq_cn))) ?_
    exact hk100 v.2
  · refine zx_lift (pc' := 67) (fun _ => zq_aload_n rfl rfl dX3_settle_66 rfl) ?_
    refine zx_lift (pc' := 70) (fun _ => zt_getR zfr_X3_24 zfd_31_5 dX3_settle_67 rfl) ?_
    refine zx_lift (pc' := 71) (fun _ => zq_iload_n rfl rfl dX3_settle_70 rfl) ?_
    refine zx_iaload (pc' := 72) zsh_36 dX3_settle_71 rfl ?_
    refine zx_lift (pc' := 73) (fun _ => zq_iload_n rfl rfl dX3_settle_72 rfl) ?_
    refine zx_lift (pc' := 74) (fun _ => zq_ishr dX3_settle_73 rfl) ?_
    refine zx_lift (pc' := 75) (fun _ => zq_iconst (v := 1) dX3_settle_74 rfl rfl) ?_
    refine zx_lift (pc' := 76) (fun _ => zq_iand dX3_settle_75 rfl) ?_
    refine zx_if_eq (pc' := 79) (tgt := 94) dX3_settle_76 rfl rfl (fun hc => ?_) (fun hc => ?_)
    · exact xX3_settle_j94_j N f1 k100 hk100 self hself v.1 v.2
    · refine zx_lift (pc' := 80) (fun _ => zq_aload_n rfl rfl dX3_settle_79 rfl) ?_
      refine zx_lift (pc' := 83) (fun _ => zt_getR zfr_X3_24 zfd_31_5 dX3_settle_80 rfl) ?_
      refine zx_lift (pc' := 84) (fun _ => zq_iload_n rfl rfl dX3_settle_83 rfl) ?_
      refine zx_lift (pc' := 85) (fun _ => zq_dup2 rfl rfl dX3_settle_84 rfl) ?_
      refine zx_iaload (pc' := 86) zsh_36 dX3_settle_85 rfl ?_
      refine zx_lift (pc' := 87) (fun _ => zq_aload_n rfl rfl dX3_settle_86 rfl) ?_
      refine zx_lift (pc' := 90) (fun _ => zt_getR zfr_X3_24 zfd_31_5 dX3_settle_87 rfl) ?_
      refine zx_lift (pc' := 91) (fun _ => zq_iload_n rfl rfl dX3_settle_90 rfl) ?_
      refine zx_iaload (pc' := 92) zsh_36 dX3_settle_91 rfl ?_
      refine zx_lift (pc' := 93) (fun _ => zq_ior dX3_settle_92 rfl) ?_
      refine zx_iastore (pc' := 94) zsh_36 dX3_settle_93 rfl (fun s7 => ?_)
      exact xX3_settle_j94_j N f1 k100 hk100 self hself v.1 s7
theorem yX3_settle_55 (N : Nat)  (f1 : Int32) (k100 : zq_S → Option (Int32 × zq_S)) (hk100 : ∀ e, zq_X yX3_settle RX3 cX3_settle 3 (some .boolean) ⟨2, 0, 0, 45⟩ zv_i 100 [.ref 31, .int f1, .null] [] e (k100 e)) (n : Nat) : ∀ v : Int32 × zq_S, zq_X yX3_settle RX3 cX3_settle 3 (some .boolean) ⟨2, 0, 0, 45⟩ zv_i 55 [.ref 31, .int f1, .int v.1] [] v.2 (zq_loop (bX3_settle_55 N f1 k100) n v) := by
  induction n with
  | zero => exact fun v u hu => by cases hu
  | succ n ih =>
    intro v
    rw [zq_loop_s]
    exact xX3_settle_55 N f1 k100 hk100 (zq_loop (bX3_settle_55 N f1 k100) n) ih v
def bX3_settle_42 (N : Nat)   (k106 : zq_S → Option (Int32 × zq_S)) (self : Int32 × zq_S → Option (Int32 × zq_S)) (v : Int32 × zq_S) : Option (Int32 × zq_S) :=
  if (zgf v.2 (zs (zgb v.2 3)) 7) ≤ v.1 then
  k106 v.2
  else
  zq_loop (bX3_settle_55 N v.1 (fun e8 =>
  zq_let (v.1 + (1 : Int32)) (fun x9 =>
  self (x9, e8)))) N ((0 : Int32), v.2)
set_option maxRecDepth 20000 in
set_option maxHeartbeats 2000000 in
theorem xX3_settle_42 (N : Nat)   (k106 : zq_S → Option (Int32 × zq_S)) (hk106 : ∀ e, zq_X yX3_settle RX3 cX3_settle 3 (some .boolean) ⟨2, 0, 0, 45⟩ zv_i 106 [.ref 31, .null, .null] [] e (k106 e)) (self : Int32 × zq_S → Option (Int32 × zq_S)) (hself : ∀ v, zq_X yX3_settle RX3 cX3_settle 3 (some .boolean) ⟨2, 0, 0, 45⟩ zv_i 42 [.ref 31, .int v.1, .null] [] v.2 (self v)) (v : Int32 × zq_S) : zq_X yX3_settle RX3 cX3_settle 3 (some .boolean) ⟨2, 0, 0, 45⟩ zv_i 42 [.ref 31, .int v.1, .null] [] v.2 (bX3_settle_42 N k106 self v) := by
  unfold bX3_settle_42
  refine zx_lift (pc' := 43) (fun _ => zq_iload_n rfl rfl dX3_settle_42 rfl) ?_
  refine zx_lift (pc' := 44) (fun _ => zq_aload_n rfl rfl dX3_settle_43 rfl) ?_
  refine zx_lift (pc' := 47) (fun _ => zt_getP zfr_X3_34 zfd_31_0 dX3_settle_44 rfl) ?_
  refine zx_lift (pc' := 50) (fun _ => zt_getI zfr_X3_48 (zfd_s_7 (zgb v.2 3)) dX3_settle_47 rfl) ?_
  refine zx_icmp_ge (pc' := 53) (tgt := 106) dX3_settle_50 rfl rfl (fun hc => ?_) (fun hc => ?_)
  · refine zx_less [.ref 31, .null, .null] (zq_cr (zq_cz (zq_cz zq_cn))) ?_
    exact hk106 v.2
  · refine zx_lift (pc' := 54) (fun _ => zq_iconst (v := 0) dX3_settle_53 rfl rfl) ?_
    refine zx_lift (pc' := 55) (fun _ => zq_istore_n (ls' := [.ref 31, .int v.1, .int (0 : Int32)]) rfl (by decide) rfl rfl dX3_settle_54 rfl) ?_
    refine yX3_settle_55 N v.1 _ (fun e8 => ?_) N ((0 : Int32), v.2)
    refine zx_iinc (pc' := 103) (ls' := fun x9 => [.ref 31, .int x9, .null]) rfl rfl (by decide) rfl (fun _ => rfl) dX3_settle_100 rfl (fun x9 => ?_)
    refine zx_lift (pc' := 42) (fun _ => zq_goto dX3_settle_103 rfl) ?_
    exact hself (x9, e8)
theorem yX3_settle_42 (N : Nat)   (k106 : zq_S → Option (Int32 × zq_S)) (hk106 : ∀ e, zq_X yX3_settle RX3 cX3_settle 3 (some .boolean) ⟨2, 0, 0, 45⟩ zv_i 106 [.ref 31, .null, .null] [] e (k106 e)) (n : Nat) : ∀ v : Int32 × zq_S, zq_X yX3_settle RX3 cX3_settle 3 (some .boolean) ⟨2, 0, 0, 45⟩ zv_i 42 [.ref 31, .int v.1, .null] [] v.2 (zq_loop (bX3_settle_42 N k106) n v) := by
  induction n with
  | zero => exact fun v u hu => by cases hu
  | succ n ih =>
    intro v
    rw [zq_loop_s]
    exact xX3_settle_42 N k106 hk106 (zq_loop (bX3_settle_42 N k106) n) ih v
def bX3_settle_108 (N : Nat)    (self : Int32 × zq_S → Option (Int32 × zq_S)) (v : Int32 × zq_S) : Option (Int32 × zq_S) :=
  if (zgf v.2 (zs (zgb v.2 3)) 7) ≤ v.1 then
  zq_b2 (mX3_keepTrial N v.2) (fun r11 s12 =>
  some ((1 : Int32), s12))
  else
  zq_ck v.1 10 (
  if (((zga v.2 36 v.1) >>> (v.1 &&& 31)) &&& (1 : Int32)) = (0 : Int32) then
  zq_let (v.1 + (1 : Int32)) (fun x13 =>
  self (x13, v.2))
  else
  some ((0 : Int32), v.2))
set_option maxRecDepth 20000 in
set_option maxHeartbeats 2000000 in
theorem xX3_settle_108 (N : Nat)    (self : Int32 × zq_S → Option (Int32 × zq_S)) (hself : ∀ v, zq_X yX3_settle RX3 cX3_settle 3 (some .boolean) ⟨2, 0, 0, 45⟩ zv_i 108 [.ref 31, .int v.1, .null] [] v.2 (self v)) (v : Int32 × zq_S) : zq_X yX3_settle RX3 cX3_settle 3 (some .boolean) ⟨2, 0, 0, 45⟩ zv_i 108 [.ref 31, .int v.1, .null] [] v.2 (bX3_settle_108 N self v) := by
  unfold bX3_settle_108
  refine zx_lift (pc' := 109) (fun _ => zq_iload_n rfl rfl dX3_settle_108 rfl) ?_
  refine zx_lift (pc' := 110) (fun _ => zq_aload_n rfl rfl dX3_settle_109 rfl) ?_
  refine zx_lift (pc' := 113) (fun _ => zt_getP zfr_X3_34 zfd_31_0 dX3_settle_110 rfl) ?_
  refine zx_lift (pc' := 116) (fun _ => zt_getI zfr_X3_48 (zfd_s_7 (zgb v.2 3)) dX3_settle_113 rfl) ?_
  refine zx_icmp_ge (pc' := 119) (tgt := 140) dX3_settle_116 rfl rfl (fun hc => ?_) (fun hc => ?_)
  · refine zx_lift (pc' := 141) (fun _ => zq_aload_n rfl rfl dX3_settle_140 rfl) ?_
    refine zx_cVv (pc' := 144) zcv_X3_63 (cX3_keepTrial_mc N v.2) zob_31 rfl (by decide) (Nat.le_of_ble_eq_true rfl) dX3_settle_141 rfl rfl (fun r11 s12 => ?_)
    refine zx_lift (pc' := 145) (fun _ => zq_iconst (v := 1) dX3_settle_144 rfl rfl) ?_
    exact zx_zret rfl (by decide) dX3_settle_145
  · refine zx_lift (pc' := 120) (fun _ => zq_aload_n rfl rfl dX3_settle_119 rfl) ?_
    refine zx_lift (pc' := 123) (fun _ => zt_getR zfr_X3_24 zfd_31_5 dX3_settle_120 rfl) ?_
    refine zx_lift (pc' := 124) (fun _ => zq_iload_n rfl rfl dX3_settle_123 rfl) ?_
    refine zx_iaload (pc' := 125) zsh_36 dX3_settle_124 rfl ?_
    refine zx_lift (pc' := 126) (fun _ => zq_iload_n rfl rfl dX3_settle_125 rfl) ?_
    refine zx_lift (pc' := 127) (fun _ => zq_ishr dX3_settle_126 rfl) ?_
    refine zx_lift (pc' := 128) (fun _ => zq_iconst (v := 1) dX3_settle_127 rfl rfl) ?_
    refine zx_lift (pc' := 129) (fun _ => zq_iand dX3_settle_128 rfl) ?_
    refine zx_if_eq (pc' := 132) (tgt := 134) dX3_settle_129 rfl rfl (fun hc => ?_) (fun hc => ?_)
    · refine zx_iinc (pc' := 137) (ls' := fun x13 => [.ref 31, .int x13, .null]) rfl rfl (by decide) rfl (fun _ => rfl) dX3_settle_134 rfl (fun x13 => ?_)
      refine zx_lift (pc' := 108) (fun _ => zq_goto dX3_settle_137 rfl) ?_
      exact hself (x13, v.2)
    · refine zx_lift (pc' := 133) (fun _ => zq_iconst (v := 0) dX3_settle_132 rfl rfl) ?_
      exact zx_zret rfl (by decide) dX3_settle_133
theorem yX3_settle_108 (N : Nat)    (n : Nat) : ∀ v : Int32 × zq_S, zq_X yX3_settle RX3 cX3_settle 3 (some .boolean) ⟨2, 0, 0, 45⟩ zv_i 108 [.ref 31, .int v.1, .null] [] v.2 (zq_loop (bX3_settle_108 N ) n v) := by
  induction n with
  | zero => exact fun v u hu => by cases hu
  | succ n ih =>
    intro v
    rw [zq_loop_s]
    exact xX3_settle_108 N  (zq_loop (bX3_settle_108 N ) n) ih v
def mX3_settle (N : Nat)   (s : zq_S) : Option (Int32 × zq_S) :=
  zq_loop (bX3_settle_2 N (fun e5 =>
  zq_loop (bX3_settle_42 N (fun e10 =>
  zq_loop (bX3_settle_108 N ) N ((0 : Int32), e10))) N ((0 : Int32), e5))) N ((0 : Int32), s)
set_option maxRecDepth 20000 in
set_option maxHeartbeats 2000000 in
theorem xX3_settle (N : Nat)   (s : zq_S) : zq_X yX3_settle RX3 cX3_settle 3 (some .boolean) ⟨2, 0, 0, 45⟩ zv_i 0 [.ref 31, .null, .null] [] s (mX3_settle N s) := by
  unfold mX3_settle
  refine zx_lift (pc' := 1) (fun _ => zq_iconst (v := 0) dX3_settle_0 rfl rfl) ?_
  refine zx_lift (pc' := 2) (fun _ => zq_istore_n (ls' := [.ref 31, .int (0 : Int32), .null]) rfl (by decide) rfl rfl dX3_settle_1 rfl) ?_
  refine yX3_settle_2 N _ (fun e5 => ?_) N ((0 : Int32), s)
  refine zx_lift (pc' := 41) (fun _ => zq_iconst (v := 0) dX3_settle_40 rfl rfl) ?_
  refine zx_lift (pc' := 42) (fun _ => zq_istore_n (ls' := [.ref 31, .int (0 : Int32), .null]) rfl (by decide) rfl rfl dX3_settle_41 rfl) ?_
  refine yX3_settle_42 N _ (fun e10 => ?_) N ((0 : Int32), e5)
  refine zx_lift (pc' := 107) (fun _ => zq_iconst (v := 0) dX3_settle_106 rfl rfl) ?_
  refine zx_lift (pc' := 108) (fun _ => zq_istore_n (ls' := [.ref 31, .int (0 : Int32), .null]) rfl (by decide) rfl rfl dX3_settle_107 rfl) ?_
  refine yX3_settle_108 N  N ((0 : Int32), e10)
theorem cX3_settle_mc (N : Nat)   (s : zq_S) (v : Int32 × zq_S) (h : mX3_settle N s = some v) : zq_MC yX3_settle cX3_settle 3 (some .boolean) ⟨2, 0, 0, 45⟩ 0 0 [.ref 31] (zq_en s) (zv_i v.1, zq_en v.2) := zq_MC_x [.ref 31, .null, .null] (by decide +kernel) rfl rfl (Nat.le_of_ble_eq_true rfl) (xX3_settle N s) h
def jX11_earlier_j19 (N : Nat)    (s : zq_S) : Option (Int32 × zq_S) :=
  some ((-1001 : Int32), s)
set_option maxRecDepth 20000 in
set_option maxHeartbeats 2000000 in
theorem xX11_earlier_j19_j (N : Nat)    (s : zq_S) : zq_X yX11_earlier RX11 cX11_earlier 5 (some .int) ⟨3, 0, 0, 67⟩ zv_i 19 [.null, .null, .null, .null, .null] [] s (jX11_earlier_j19 N s) := by
  unfold jX11_earlier_j19
  refine zx_lift (pc' := 22) (fun _ => zq_sipush (v := (-1001)) dX11_earlier_19 rfl rfl) ?_
  exact zx_iret rfl dX11_earlier_22
def mX11_earlier (N : Nat)  (p1 : Int32) (p2 : Int32) (p3 : Int32) (s : zq_S) : Option (Int32 × zq_S) :=
  zq_b2 (mX11_isInk N p1 s) (fun r1 s2 =>
  if r1 = (0 : Int32) then
  jX11_earlier_j19 N s2
  else
  zq_b2 (mX11_isInk N p2 s2) (fun r3 s4 =>
  if r3 = (0 : Int32) then
  jX11_earlier_j19 N s4
  else
  if p1 = p2 then
  jX11_earlier_j19 N s4
  else
  zq_ck p1 4 (
  zq_let (zga s4 33 p1) (fun x5 =>
  zq_let (if p3 = (0 : Int32) then (x5 &&& (((1 : Int32) <<< (p2 &&& 31)) ^^^ (-1 : Int32))) else (x5 ||| ((1 : Int32) <<< (p2 &&& 31)))) (fun x6 =>
  zq_ck p1 4 (
  zq_let (zpa s4 33 p1 x6) (fun s7 =>
  zq_b2 (mX3_settle N s7) (fun r8 s9 =>
  if r8 = (0 : Int32) then
  zq_ck p1 4 (
  zq_let (zpa s9 33 p1 x5) (fun s10 =>
  some ((-1003 : Int32), s10)))
  else
  some (((x5 >>> (p2 &&& 31)) &&& (1 : Int32)), s9)))))))))
set_option maxRecDepth 20000 in
set_option maxHeartbeats 2000000 in
theorem xX11_earlier (N : Nat)  (p1 : Int32) (p2 : Int32) (p3 : Int32) (s : zq_S) : zq_X yX11_earlier RX11 cX11_earlier 5 (some .int) ⟨3, 0, 0, 67⟩ zv_i 0 [.ref 0, .int p1, .int p2, .int p3, .null] [] s (mX11_earlier N p1 p2 p3 s) := by
  unfold mX11_earlier
  refine zx_lift (pc' := 1) (fun _ => zq_iload_n rfl rfl dX11_earlier_0 rfl) ?_
  refine zx_cSi (pc' := 4) zcs_X11_153 (cX11_isInk_mc N p1 s) rfl (by decide) (Nat.le_of_ble_eq_true rfl) dX11_earlier_1 rfl rfl (fun r1 s2 => ?_)
  refine zx_if_eq (pc' := 7) (tgt := 19) dX11_earlier_4 rfl rfl (fun hc => ?_) (fun hc => ?_)
  · refine zx_less [.null, .null, .null, .null, .null] (zq_cz (zq_cz (zq_cz (zq_cz (zq_cz zq_cn))))) ?_
    exact xX11_earlier_j19_j N s2
  · refine zx_lift (pc' := 8) (fun _ => zq_iload_n rfl rfl dX11_earlier_7 rfl) ?_
    refine zx_cSi (pc' := 11) zcs_X11_153 (cX11_isInk_mc N p2 s2) rfl (by decide) (Nat.le_of_ble_eq_true rfl) dX11_earlier_8 rfl rfl (fun r3 s4 => ?_)
    refine zx_if_eq (pc' := 14) (tgt := 19) dX11_earlier_11 rfl rfl (fun hc => ?_) (fun hc => ?_)
    · refine zx_less [.null, .null, .null, .null, .null] (zq_cz (zq_cz (zq_cz (zq_cz (zq_cz zq_cn))))) ?_
      exact xX11_earlier_j19_j N s4
    · refine zx_lift (pc' := 15) (fun _ => zq_iload_n rfl rfl dX11_earlier_14 rfl) ?_
      refine zx_lift (pc' := 16) (fun _ => zq_iload_n rfl rfl dX11_earlier_15 rfl) ?_
      refine zx_icmp_ne (pc' := 19) (tgt := 23) dX11_earlier_16 rfl rfl (fun hc => ?_) (fun hc => ?_)
      · refine zx_lift (pc' := 24) (fun _ => zq_aload_n rfl rfl dX11_earlier_23 rfl) ?_
        refine zx_lift (pc' := 27) (fun _ => zt_getR zfr_X11_31 zfd_0_1 dX11_earlier_24 rfl) ?_
        refine zx_lift (pc' := 30) (fun _ => zt_getR zfr_X11_160 zfd_31_2 dX11_earlier_27 rfl) ?_
        refine zx_lift (pc' := 31) (fun _ => zq_iload_n rfl rfl dX11_earlier_30 rfl) ?_
        refine zx_iaload (pc' := 32) zsh_33 dX11_earlier_31 rfl ?_
        refine zx_istore (pc' := 34) (ls' := fun x5 => [.ref 0, .int p1, .int p2, .int p3, .int x5]) (by decide) rfl (fun _ => rfl) dX11_earlier_32 rfl (fun x5 => ?_)
        refine zx_lift (pc' := 35) (fun _ => zq_aload_n rfl rfl dX11_earlier_34 rfl) ?_
        refine zx_lift (pc' := 38) (fun _ => zt_getR zfr_X11_31 zfd_0_1 dX11_earlier_35 rfl) ?_
        refine zx_lift (pc' := 41) (fun _ => zt_getR zfr_X11_160 zfd_31_2 dX11_earlier_38 rfl) ?_
        refine zx_lift (pc' := 42) (fun _ => zq_iload_n rfl rfl dX11_earlier_41 rfl) ?_
        refine zx_lift (pc' := 43) (fun _ => zq_iload_n rfl rfl dX11_earlier_42 rfl) ?_
        refine zx_tern (pcJ := 63) (lsJ := fun x6 => [.ref 0, .int p1, .int p2, .null, .int x5]) (stJ := fun x6 => [.int x6, .int p1, .ref 33]) (fun x6 => ?_) (fun f hJ => ?_)
        rotate_left
        · refine zx_lif_eq (pc' := 46) (tgt := 55) dX11_earlier_43 rfl rfl (fun _ => ?_) (fun _ => ?_)
          · refine zx_lift (pc' := 57) (fun _ => zq_iload rfl dX11_earlier_55 rfl) ?_
            refine zx_lift (pc' := 58) (fun _ => zq_iconst (v := 1) dX11_earlier_57 rfl rfl) ?_
            refine zx_lift (pc' := 59) (fun _ => zq_iload_n rfl rfl dX11_earlier_58 rfl) ?_
            refine zx_lift (pc' := 60) (fun _ => zq_ishl dX11_earlier_59 rfl) ?_
            refine zx_lift (pc' := 61) (fun _ => zq_iconst (v := (-1)) dX11_earlier_60 rfl rfl) ?_
            refine zx_lift (pc' := 62) (fun _ => zq_ixor dX11_earlier_61 rfl) ?_
            refine zx_lift (pc' := 63) (fun _ => zq_iand dX11_earlier_62 rfl) ?_
            exact zx_lessJ (zq_cr (zq_cr (zq_cr (zq_cz (zq_cr zq_cn))))) (hJ _)
          · refine zx_lift (pc' := 48) (fun _ => zq_iload rfl dX11_earlier_46 rfl) ?_
            refine zx_lift (pc' := 49) (fun _ => zq_iconst (v := 1) dX11_earlier_48 rfl rfl) ?_
            refine zx_lift (pc' := 50) (fun _ => zq_iload_n rfl rfl dX11_earlier_49 rfl) ?_
            refine zx_lift (pc' := 51) (fun _ => zq_ishl dX11_earlier_50 rfl) ?_
            refine zx_lift (pc' := 52) (fun _ => zq_ior dX11_earlier_51 rfl) ?_
            refine zx_lift (pc' := 63) (fun _ => zq_goto dX11_earlier_52 rfl) ?_
            exact zx_lessJ (zq_cr (zq_cr (zq_cr (zq_cz (zq_cr zq_cn))))) (hJ _)
        refine zx_iastore (pc' := 64) zsh_33 dX11_earlier_63 rfl (fun s7 => ?_)
        refine zx_lift (pc' := 65) (fun _ => zq_aload_n rfl rfl dX11_earlier_64 rfl) ?_
        refine zx_lift (pc' := 68) (fun _ => zt_getR zfr_X11_31 zfd_0_1 dX11_earlier_65 rfl) ?_
        refine zx_cVi (pc' := 71) zcv_X11_156 (cX3_settle_mc N s7) zob_31 rfl (by decide) (Nat.le_of_ble_eq_true rfl) dX11_earlier_68 rfl rfl (fun r8 s9 => ?_)
        refine zx_if_ne (pc' := 74) (tgt := 89) dX11_earlier_71 rfl rfl (fun hc => ?_) (fun hc => ?_)
        · refine zx_lift (pc' := 91) (fun _ => zq_iload rfl dX11_earlier_89 rfl) ?_
          refine zx_lift (pc' := 92) (fun _ => zq_iload_n rfl rfl dX11_earlier_91 rfl) ?_
          refine zx_lift (pc' := 93) (fun _ => zq_ishr dX11_earlier_92 rfl) ?_
          refine zx_lift (pc' := 94) (fun _ => zq_iconst (v := 1) dX11_earlier_93 rfl rfl) ?_
          refine zx_lift (pc' := 95) (fun _ => zq_iand dX11_earlier_94 rfl) ?_
          exact zx_iret rfl dX11_earlier_95
        · refine zx_lift (pc' := 75) (fun _ => zq_aload_n rfl rfl dX11_earlier_74 rfl) ?_
          refine zx_lift (pc' := 78) (fun _ => zt_getR zfr_X11_31 zfd_0_1 dX11_earlier_75 rfl) ?_
          refine zx_lift (pc' := 81) (fun _ => zt_getR zfr_X11_160 zfd_31_2 dX11_earlier_78 rfl) ?_
          refine zx_lift (pc' := 82) (fun _ => zq_iload_n rfl rfl dX11_earlier_81 rfl) ?_
          refine zx_lift (pc' := 84) (fun _ => zq_iload rfl dX11_earlier_82 rfl) ?_
          refine zx_iastore (pc' := 85) zsh_33 dX11_earlier_84 rfl (fun s10 => ?_)
          refine zx_lift (pc' := 88) (fun _ => zq_sipush (v := (-1003)) dX11_earlier_85 rfl rfl) ?_
          exact zx_iret rfl dX11_earlier_88
      · refine zx_less [.null, .null, .null, .null, .null] (zq_cz (zq_cz (zq_cz (zq_cz (zq_cz zq_cn))))) ?_
        exact xX11_earlier_j19_j N s4
theorem cX11_earlier_mc (N : Nat)  (p1 : Int32) (p2 : Int32) (p3 : Int32) (s : zq_S) (v : Int32 × zq_S) (h : mX11_earlier N p1 p2 p3 s = some v) : zq_MC yX11_earlier cX11_earlier 5 (some .int) ⟨3, 0, 0, 67⟩ 0 0 [.ref 0, .int p1, .int p2, .int p3] (zq_en s) (zv_i v.1, zq_en v.2) := zq_MC_x [.ref 0, .int p1, .int p2, .int p3, .null] (by decide +kernel) rfl rfl (Nat.le_of_ble_eq_true rfl) (xX11_earlier N p1 p2 p3 s) h
def mX11_fault (N : Nat)   (s : zq_S) : Option (Int32 × zq_S) :=
  some ((zgf s 0 12), s)
set_option maxRecDepth 20000 in
set_option maxHeartbeats 2000000 in
theorem xX11_fault (N : Nat)   (s : zq_S) : zq_X yX11_fault RX11 cX11_fault 1 (some .int) ⟨0, 0, 0, 0⟩ zv_i 0 [.ref 0] [] s (mX11_fault N s) := by
  unfold mX11_fault
  refine zx_lift (pc' := 1) (fun _ => zq_aload_n rfl rfl dX11_fault_0 rfl) ?_
  refine zx_lift (pc' := 4) (fun _ => zt_getI zfr_X11_99 zfd_0_12 dX11_fault_1 rfl) ?_
  exact zx_iret rfl dX11_fault_4
theorem cX11_fault_mc (N : Nat)   (s : zq_S) (v : Int32 × zq_S) (h : mX11_fault N s = some v) : zq_MC yX11_fault cX11_fault 1 (some .int) ⟨0, 0, 0, 0⟩ 0 0 [.ref 0] (zq_en s) (zv_i v.1, zq_en v.2) := zq_MC_x [.ref 0] (by decide +kernel) rfl rfl (Nat.le_of_ble_eq_true rfl) (xX11_fault N s) h
def jX5_hear_j31 (N : Nat)    (s : zq_S) : Option (Unit × zq_S) :=
  some ((), s)
set_option maxRecDepth 20000 in
set_option maxHeartbeats 2000000 in
theorem xX5_hear_j31_j (N : Nat)    (s : zq_S) : zq_X yX5_hear RX5 cX5_hear 2 none ⟨0, 0, 0, 0⟩ zv_v 31 [.null, .null] [] s (jX5_hear_j31 N s) := by
  unfold jX5_hear_j31
  exact zx_vret rfl dX5_hear_31
def mX5_hear (N : Nat)  (p1 : Int32) (s : zq_S) : Option (Unit × zq_S) :=
  if (400 : Int32) ≤ (zgf s 26 1) then
  jX5_hear_j31 N s
  else
  zq_ck (zgf s 26 1) 400 (
  zq_let (zpab s 27 (zgf s 26 1) ((Int32.toInt8 p1).toInt32)) (fun s1 =>
  zq_let (zpf s1 26 1 ((zgf s1 26 1) + (1 : Int32))) (fun s2 =>
  jX5_hear_j31 N s2)))
set_option maxRecDepth 20000 in
set_option maxHeartbeats 2000000 in
theorem xX5_hear (N : Nat)  (p1 : Int32) (s : zq_S) : zq_X yX5_hear RX5 cX5_hear 2 none ⟨0, 0, 0, 0⟩ zv_v 0 [.ref 26, .int p1] [] s (mX5_hear N p1 s) := by
  unfold mX5_hear
  refine zx_lift (pc' := 1) (fun _ => zq_aload_n rfl rfl dX5_hear_0 rfl) ?_
  refine zx_lift (pc' := 4) (fun _ => zt_getI zfr_X5_33 zfd_26_1 dX5_hear_1 rfl) ?_
  refine zx_lift (pc' := 7) (fun _ => zq_sipush (v := 400) dX5_hear_4 rfl rfl) ?_
  refine zx_icmp_ge (pc' := 10) (tgt := 31) dX5_hear_7 rfl rfl (fun hc => ?_) (fun hc => ?_)
  · refine zx_less [.null, .null] (zq_cz (zq_cz zq_cn)) ?_
    exact xX5_hear_j31_j N s
  · refine zx_lift (pc' := 11) (fun _ => zq_aload_n rfl rfl dX5_hear_10 rfl) ?_
    refine zx_lift (pc' := 14) (fun _ => zt_getR zfr_X5_9 zfd_26_0 dX5_hear_11 rfl) ?_
    refine zx_lift (pc' := 15) (fun _ => zq_aload_n rfl rfl dX5_hear_14 rfl) ?_
    refine zx_lift (pc' := 18) (fun _ => zt_getI zfr_X5_33 zfd_26_1 dX5_hear_15 rfl) ?_
    refine zx_lift (pc' := 19) (fun _ => zq_iload_n rfl rfl dX5_hear_18 rfl) ?_
    refine zx_lift (pc' := 20) (fun _ => zq_i2b dX5_hear_19 rfl) ?_
    refine zx_bastore (pc' := 21) zsh_27 dX5_hear_20 rfl (fun s1 => ?_)
    refine zx_lift (pc' := 22) (fun _ => zq_aload_n rfl rfl dX5_hear_21 rfl) ?_
    refine zx_lift (pc' := 23) (fun _ => zq_dup rfl dX5_hear_22 rfl) ?_
    refine zx_lift (pc' := 26) (fun _ => zt_getI zfr_X5_33 zfd_26_1 dX5_hear_23 rfl) ?_
    refine zx_lift (pc' := 27) (fun _ => zq_iconst (v := 1) dX5_hear_26 rfl rfl) ?_
    refine zx_lift (pc' := 28) (fun _ => zq_iadd dX5_hear_27 rfl) ?_
    refine zx_putI (pc' := 31) zfr_X5_33 (fun _ => ⟨rfl, rfl⟩) zfd_26_1 dX5_hear_28 rfl (fun s2 => ?_)
    refine zx_less [.null, .null] (zq_cz (zq_cz zq_cn)) ?_
    exact xX5_hear_j31_j N s2
theorem cX5_hear_mc (N : Nat)  (p1 : Int32) (s : zq_S) (v : Unit × zq_S) (h : mX5_hear N p1 s = some v) : zq_MC yX5_hear cX5_hear 2 none ⟨0, 0, 0, 0⟩ 0 0 [.ref 26, .int p1] (zq_en s) (zv_v v.1, zq_en v.2) := zq_MC_x [.ref 26, .int p1] (by decide +kernel) rfl rfl (Nat.le_of_ble_eq_true rfl) (xX5_hear N p1 s) h
def jX11_feed_j11 (N : Nat)    (s : zq_S) : Option (Int32 × zq_S) :=
  some ((-1002 : Int32), s)
set_option maxRecDepth 20000 in
set_option maxHeartbeats 2000000 in
theorem xX11_feed_j11_j (N : Nat)    (s : zq_S) : zq_X yX11_feed RX11 cX11_feed 5 (some .int) ⟨1, 0, 0, 21⟩ zv_i 11 [.null, .null, .null, .null, .null] [] s (jX11_feed_j11 N s) := by
  unfold jX11_feed_j11
  refine zx_lift (pc' := 14) (fun _ => zq_sipush (v := (-1002)) dX11_feed_11 rfl rfl) ?_
  exact zx_iret rfl dX11_feed_14
def bX11_feed_39 (N : Nat)  (f2 : Int64)  (self : Int32 × zq_S → Option (Int32 × zq_S)) (v : Int32 × zq_S) : Option (Int32 × zq_S) :=
  if v.1 < (0 : Int32) then
  some ((zgf v.2 26 1), v.2)
  else
  zq_b2 (mX5_hear N ((Int64.toInt32 ((Int64.toUInt64 f2 >>> ((Int32.toInt64 ((8 : Int32) * v.1)).toUInt64 &&& Int64.toUInt64 63)).toInt64)) &&& (255 : Int32)) v.2) (fun r2 s3 =>
  zq_let (v.1 + (-1 : Int32)) (fun x4 =>
  self (x4, s3)))
set_option maxRecDepth 20000 in
set_option maxHeartbeats 2000000 in
theorem xX11_feed_39 (N : Nat)  (f2 : Int64)  (self : Int32 × zq_S → Option (Int32 × zq_S)) (hself : ∀ v, zq_X yX11_feed RX11 cX11_feed 5 (some .int) ⟨1, 0, 0, 21⟩ zv_i 39 [.ref 0, .null, .long f2, .null, .int v.1] [] v.2 (self v)) (v : Int32 × zq_S) : zq_X yX11_feed RX11 cX11_feed 5 (some .int) ⟨1, 0, 0, 21⟩ zv_i 39 [.ref 0, .null, .long f2, .null, .int v.1] [] v.2 (bX11_feed_39 N f2 self v) := by
  unfold bX11_feed_39
  refine zx_lift (pc' := 41) (fun _ => zq_iload rfl dX11_feed_39 rfl) ?_
  refine zx_if_lt (pc' := 44) (tgt := 69) dX11_feed_41 rfl rfl (fun hc => ?_) (fun hc => ?_)
  · refine zx_lift (pc' := 70) (fun _ => zq_aload_n rfl rfl dX11_feed_69 rfl) ?_
    refine zx_lift (pc' := 73) (fun _ => zt_getR zfr_X11_24 zfd_0_0 dX11_feed_70 rfl) ?_
    refine zx_lift (pc' := 76) (fun _ => zt_getI zfr_X11_103 zfd_26_1 dX11_feed_73 rfl) ?_
    exact zx_iret rfl dX11_feed_76
  · refine zx_lift (pc' := 45) (fun _ => zq_aload_n rfl rfl dX11_feed_44 rfl) ?_
    refine zx_lift (pc' := 48) (fun _ => zt_getR zfr_X11_24 zfd_0_0 dX11_feed_45 rfl) ?_
    refine zx_lift (pc' := 49) (fun _ => zq_lload_n rfl rfl dX11_feed_48 rfl) ?_
    refine zx_lift (pc' := 51) (fun _ => zq_bipush (v := 8) dX11_feed_49 rfl rfl) ?_
    refine zx_lift (pc' := 53) (fun _ => zq_iload rfl dX11_feed_51 rfl) ?_
    refine zx_lift (pc' := 54) (fun _ => zq_imul dX11_feed_53 rfl) ?_
    refine zx_lift (pc' := 55) (fun _ => zq_lushr dX11_feed_54 rfl) ?_
    refine zx_lift (pc' := 56) (fun _ => zq_l2i dX11_feed_55 rfl) ?_
    refine zx_lift (pc' := 59) (fun _ => zq_sipush (v := 255) dX11_feed_56 rfl rfl) ?_
    refine zx_lift (pc' := 60) (fun _ => zq_iand dX11_feed_59 rfl) ?_
    refine zx_cVv (pc' := 63) zcv_X11_106 (cX5_hear_mc N ((Int64.toInt32 ((Int64.toUInt64 f2 >>> ((Int32.toInt64 ((8 : Int32) * v.1)).toUInt64 &&& Int64.toUInt64 63)).toInt64)) &&& (255 : Int32)) v.2) zob_26 rfl (by decide) (Nat.le_of_ble_eq_true rfl) dX11_feed_60 rfl rfl (fun r2 s3 => ?_)
    refine zx_iinc (pc' := 66) (ls' := fun x4 => [.ref 0, .null, .long f2, .null, .int x4]) rfl rfl (by decide) rfl (fun _ => rfl) dX11_feed_63 rfl (fun x4 => ?_)
    refine zx_lift (pc' := 39) (fun _ => zq_goto dX11_feed_66 rfl) ?_
    exact hself (x4, s3)
theorem yX11_feed_39 (N : Nat)  (f2 : Int64)  (n : Nat) : ∀ v : Int32 × zq_S, zq_X yX11_feed RX11 cX11_feed 5 (some .int) ⟨1, 0, 0, 21⟩ zv_i 39 [.ref 0, .null, .long f2, .null, .int v.1] [] v.2 (zq_loop (bX11_feed_39 N f2 ) n v) := by
  induction n with
  | zero => exact fun v u hu => by cases hu
  | succ n ih =>
    intro v
    rw [zq_loop_s]
    exact xX11_feed_39 N f2  (zq_loop (bX11_feed_39 N f2 ) n) ih v
def mX11_feed (N : Nat)  (p1 : Int32) (p2 : Int64) (s : zq_S) : Option (Int32 × zq_S) :=
  if p1 < (1 : Int32) then
  jX11_feed_j11 N s
  else
  if p1 ≤ (8 : Int32) then
  if ((zgf s 26 1) + p1) ≤ (400 : Int32) then
  zq_let (p1 - (1 : Int32)) (fun x1 =>
  zq_loop (bX11_feed_39 N p2 ) N (x1, s))
  else
  some ((-1004 : Int32), s)
  else
  jX11_feed_j11 N s
set_option maxRecDepth 20000 in
set_option maxHeartbeats 2000000 in
theorem xX11_feed (N : Nat)  (p1 : Int32) (p2 : Int64) (s : zq_S) : zq_X yX11_feed RX11 cX11_feed 5 (some .int) ⟨1, 0, 0, 21⟩ zv_i 0 [.ref 0, .int p1, .long p2, .null, .null] [] s (mX11_feed N p1 p2 s) := by
  unfold mX11_feed
  refine zx_lift (pc' := 1) (fun _ => zq_iload_n rfl rfl dX11_feed_0 rfl) ?_
  refine zx_lift (pc' := 2) (fun _ => zq_iconst (v := 1) dX11_feed_1 rfl rfl) ?_
  refine zx_icmp_lt (pc' := 5) (tgt := 11) dX11_feed_2 rfl rfl (fun hc => ?_) (fun hc => ?_)
  · refine zx_less [.null, .null, .null, .null, .null] (zq_cz (zq_cz (zq_cz (zq_cz (zq_cz zq_cn))))) ?_
    exact xX11_feed_j11_j N s
  · refine zx_lift (pc' := 6) (fun _ => zq_iload_n rfl rfl dX11_feed_5 rfl) ?_
    refine zx_lift (pc' := 8) (fun _ => zq_bipush (v := 8) dX11_feed_6 rfl rfl) ?_
    refine zx_icmp_le (pc' := 11) (tgt := 15) dX11_feed_8 rfl rfl (fun hc => ?_) (fun hc => ?_)
    · refine zx_lift (pc' := 16) (fun _ => zq_aload_n rfl rfl dX11_feed_15 rfl) ?_
      refine zx_lift (pc' := 19) (fun _ => zt_getR zfr_X11_24 zfd_0_0 dX11_feed_16 rfl) ?_
      refine zx_lift (pc' := 22) (fun _ => zt_getI zfr_X11_103 zfd_26_1 dX11_feed_19 rfl) ?_
      refine zx_lift (pc' := 23) (fun _ => zq_iload_n rfl rfl dX11_feed_22 rfl) ?_
      refine zx_lift (pc' := 24) (fun _ => zq_iadd dX11_feed_23 rfl) ?_
      refine zx_lift (pc' := 27) (fun _ => zq_sipush (v := 400) dX11_feed_24 rfl rfl) ?_
      refine zx_icmp_le (pc' := 30) (tgt := 34) dX11_feed_27 rfl rfl (fun hc => ?_) (fun hc => ?_)
      · refine zx_lift (pc' := 35) (fun _ => zq_iload_n rfl rfl dX11_feed_34 rfl) ?_
        refine zx_lift (pc' := 36) (fun _ => zq_iconst (v := 1) dX11_feed_35 rfl rfl) ?_
        refine zx_lift (pc' := 37) (fun _ => zq_isub dX11_feed_36 rfl) ?_
        refine zx_istore (pc' := 39) (ls' := fun x1 => [.ref 0, .int p1, .long p2, .null, .int x1]) (by decide) rfl (fun _ => rfl) dX11_feed_37 rfl (fun x1 => ?_)
        refine zx_less [.ref 0, .null, .long p2, .null, .int x1] (zq_cr (zq_cz (zq_cr (zq_cz (zq_cr zq_cn))))) ?_
        refine yX11_feed_39 N p2  N (x1, s)
      · refine zx_lift (pc' := 33) (fun _ => zq_sipush (v := (-1004)) dX11_feed_30 rfl rfl) ?_
        exact zx_iret rfl dX11_feed_33
    · refine zx_less [.null, .null, .null, .null, .null] (zq_cz (zq_cz (zq_cz (zq_cz (zq_cz zq_cn))))) ?_
      exact xX11_feed_j11_j N s
theorem cX11_feed_mc (N : Nat)  (p1 : Int32) (p2 : Int64) (s : zq_S) (v : Int32 × zq_S) (h : mX11_feed N p1 p2 s = some v) : zq_MC yX11_feed cX11_feed 5 (some .int) ⟨1, 0, 0, 21⟩ 0 0 [.ref 0, .int p1, .long p2] (zq_en s) (zv_i v.1, zq_en v.2) := zq_MC_x [.ref 0, .int p1, .long p2, .null, .null] (by decide +kernel) rfl rfl (Nat.le_of_ble_eq_true rfl) (xX11_feed N p1 p2 s) h
def jX11_good_j23 (N : Nat)   (t0 : Int32) (s : zq_S) : Option (Int32 × zq_S) :=
  some (t0, s)
set_option maxRecDepth 20000 in
set_option maxHeartbeats 2000000 in
theorem xX11_good_j23_j (N : Nat)   (t0 : Int32) (s : zq_S) : zq_X yX11_good RX11 cX11_good 2 (some .int) ⟨3, 0, 0, 64⟩ zv_i 23 [.null, .null] [.int t0] s (jX11_good_j23 N t0 s) := by
  unfold jX11_good_j23
  exact zx_iret rfl dX11_good_23
def mX11_good (N : Nat)  (p1 : Int32) (s : zq_S) : Option (Int32 × zq_S) :=
  if p1 = (-1 : Int32) then
  zq_b2 (mX3_goodCount N s) (fun r3 s4 =>
  jX11_good_j23 N r3 s4)
  else
  zq_b2 (mX3_goodAt N p1 s) (fun r1 s2 =>
  jX11_good_j23 N r1 s2)
set_option maxRecDepth 20000 in
set_option maxHeartbeats 2000000 in
theorem xX11_good (N : Nat)  (p1 : Int32) (s : zq_S) : zq_X yX11_good RX11 cX11_good 2 (some .int) ⟨3, 0, 0, 64⟩ zv_i 0 [.ref 0, .int p1] [] s (mX11_good N p1 s) := by
  unfold mX11_good
  refine zx_lift (pc' := 1) (fun _ => zq_iload_n rfl rfl dX11_good_0 rfl) ?_
  refine zx_lift (pc' := 2) (fun _ => zq_iconst (v := (-1)) dX11_good_1 rfl rfl) ?_
  refine zx_icmp_ne (pc' := 5) (tgt := 15) dX11_good_2 rfl rfl (fun hc => ?_) (fun hc => ?_)
  · refine zx_lift (pc' := 16) (fun _ => zq_aload_n rfl rfl dX11_good_15 rfl) ?_
    refine zx_lift (pc' := 19) (fun _ => zt_getR zfr_X11_31 zfd_0_1 dX11_good_16 rfl) ?_
    refine zx_lift (pc' := 20) (fun _ => zq_iload_n rfl rfl dX11_good_19 rfl) ?_
    refine zx_cVi (pc' := 23) zcv_X11_186 (cX3_goodAt_mc N p1 s) zob_31 rfl (by decide) (Nat.le_of_ble_eq_true rfl) dX11_good_20 rfl rfl (fun r1 s2 => ?_)
    refine zx_less [.null, .null] (zq_cz (zq_cz zq_cn)) ?_
    exact xX11_good_j23_j N r1 s2
  · refine zx_lift (pc' := 6) (fun _ => zq_aload_n rfl rfl dX11_good_5 rfl) ?_
    refine zx_lift (pc' := 9) (fun _ => zt_getR zfr_X11_31 zfd_0_1 dX11_good_6 rfl) ?_
    refine zx_cVi (pc' := 12) zcv_X11_183 (cX3_goodCount_mc N s) zob_31 rfl (by decide) (Nat.le_of_ble_eq_true rfl) dX11_good_9 rfl rfl (fun r3 s4 => ?_)
    refine zx_lift (pc' := 23) (fun _ => zq_goto dX11_good_12 rfl) ?_
    refine zx_less [.null, .null] (zq_cz (zq_cz zq_cn)) ?_
    exact xX11_good_j23_j N r3 s4
theorem cX11_good_mc (N : Nat)  (p1 : Int32) (s : zq_S) (v : Int32 × zq_S) (h : mX11_good N p1 s = some v) : zq_MC yX11_good cX11_good 2 (some .int) ⟨3, 0, 0, 64⟩ 0 0 [.ref 0, .int p1] (zq_en s) (zv_i v.1, zq_en v.2) := zq_MC_x [.ref 0, .int p1] (by decide +kernel) rfl rfl (Nat.le_of_ble_eq_true rfl) (xX11_good N p1 s) h
def bX1_allowAll_2 (N : Nat)  (f1 : Int32)  (self : Int32 × zq_S → Option (Unit × zq_S)) (v : Int32 × zq_S) : Option (Unit × zq_S) :=
  if (1024 : Int32) ≤ v.1 then
  some ((), v.2)
  else
  zq_ck (f1 + v.1) 4096 (
  zq_let (zpl v.2 1 (f1 + v.1) (1 : Int64)) (fun s1 =>
  zq_let (v.1 + (1 : Int32)) (fun x2 =>
  self (x2, s1))))
set_option maxRecDepth 20000 in
set_option maxHeartbeats 2000000 in
theorem xX1_allowAll_2 (N : Nat)  (f1 : Int32)  (self : Int32 × zq_S → Option (Unit × zq_S)) (hself : ∀ v, zq_X yX1_allowAll RX1 cX1_allowAll 3 none ⟨0, 0, 0, 0⟩ zv_v 2 [.ref 56, .int f1, .int v.1] [] v.2 (self v)) (v : Int32 × zq_S) : zq_X yX1_allowAll RX1 cX1_allowAll 3 none ⟨0, 0, 0, 0⟩ zv_v 2 [.ref 56, .int f1, .int v.1] [] v.2 (bX1_allowAll_2 N f1 self v) := by
  unfold bX1_allowAll_2
  refine zx_lift (pc' := 3) (fun _ => zq_iload_n rfl rfl dX1_allowAll_2 rfl) ?_
  refine zx_lift (pc' := 6) (fun _ => zq_sipush (v := 1024) dX1_allowAll_3 rfl rfl) ?_
  refine zx_icmp_ge (pc' := 9) (tgt := 24) dX1_allowAll_6 rfl rfl (fun hc => ?_) (fun hc => ?_)
  · exact zx_vret rfl dX1_allowAll_24
  · refine zx_lift (pc' := 10) (fun _ => zq_aload_n rfl rfl dX1_allowAll_9 rfl) ?_
    refine zx_lift (pc' := 13) (fun _ => zt_getR zfr_X1_27 zfd_56_4 dX1_allowAll_10 rfl) ?_
    refine zx_lift (pc' := 14) (fun _ => zq_iload_n rfl rfl dX1_allowAll_13 rfl) ?_
    refine zx_lift (pc' := 15) (fun _ => zq_iload_n rfl rfl dX1_allowAll_14 rfl) ?_
    refine zx_lift (pc' := 16) (fun _ => zq_iadd dX1_allowAll_15 rfl) ?_
    refine zx_lift (pc' := 17) (fun _ => zq_lconst (v := 1) dX1_allowAll_16 rfl rfl) ?_
    refine zx_lastore (pc' := 18) zsh_1 dX1_allowAll_17 rfl (fun s1 => ?_)
    refine zx_iinc (pc' := 21) (ls' := fun x2 => [.ref 56, .int f1, .int x2]) rfl rfl (by decide) rfl (fun _ => rfl) dX1_allowAll_18 rfl (fun x2 => ?_)
    refine zx_lift (pc' := 2) (fun _ => zq_goto dX1_allowAll_21 rfl) ?_
    exact hself (x2, s1)
theorem yX1_allowAll_2 (N : Nat)  (f1 : Int32)  (n : Nat) : ∀ v : Int32 × zq_S, zq_X yX1_allowAll RX1 cX1_allowAll 3 none ⟨0, 0, 0, 0⟩ zv_v 2 [.ref 56, .int f1, .int v.1] [] v.2 (zq_loop (bX1_allowAll_2 N f1 ) n v) := by
  induction n with
  | zero => exact fun v u hu => by cases hu
  | succ n ih =>
    intro v
    rw [zq_loop_s]
    exact xX1_allowAll_2 N f1  (zq_loop (bX1_allowAll_2 N f1 ) n) ih v
def mX1_allowAll (N : Nat)  (p1 : Int32) (s : zq_S) : Option (Unit × zq_S) :=
  zq_loop (bX1_allowAll_2 N p1 ) N ((0 : Int32), s)
set_option maxRecDepth 20000 in
set_option maxHeartbeats 2000000 in
theorem xX1_allowAll (N : Nat)  (p1 : Int32) (s : zq_S) : zq_X yX1_allowAll RX1 cX1_allowAll 3 none ⟨0, 0, 0, 0⟩ zv_v 0 [.ref 56, .int p1, .null] [] s (mX1_allowAll N p1 s) := by
  unfold mX1_allowAll
  refine zx_lift (pc' := 1) (fun _ => zq_iconst (v := 0) dX1_allowAll_0 rfl rfl) ?_
  refine zx_lift (pc' := 2) (fun _ => zq_istore_n (ls' := [.ref 56, .int p1, .int (0 : Int32)]) rfl (by decide) rfl rfl dX1_allowAll_1 rfl) ?_
  refine yX1_allowAll_2 N p1  N ((0 : Int32), s)
theorem cX1_allowAll_mc (N : Nat)  (p1 : Int32) (s : zq_S) (v : Unit × zq_S) (h : mX1_allowAll N p1 s = some v) : zq_MC yX1_allowAll cX1_allowAll 3 none ⟨0, 0, 0, 0⟩ 0 0 [.ref 56, .int p1] (zq_en s) (zv_v v.1, zq_en v.2) := zq_MC_x [.ref 56, .int p1, .null] (by decide +kernel) rfl rfl (Nat.le_of_ble_eq_true rfl) (xX1_allowAll N p1 s) h
def jX8_isAlike_j31 (N : Nat) (b0 : Bool) (b2 : Bool)   (s : zq_S) : Option (Int32 × zq_S) :=
  some ((0 : Int32), s)
set_option maxRecDepth 20000 in
set_option maxHeartbeats 2000000 in
theorem xX8_isAlike_j31_j (N : Nat) (b0 : Bool) (b2 : Bool)   (s : zq_S) : zq_X yX8_isAlike RX8 cX8_isAlike 5 (some .boolean) ⟨1, 0, 0, 21⟩ zv_i 31 [.null, .null, .null, .null, .null] [] s (jX8_isAlike_j31 N b0 b2 s) := by
  unfold jX8_isAlike_j31
  refine zx_lift (pc' := 32) (fun _ => zq_iconst (v := 0) dX8_isAlike_31 rfl rfl) ?_
  exact zx_zret rfl (by decide) dX8_isAlike_32
def bX8_isAlike_36 (N : Nat) (b0 : Bool) (b2 : Bool) (f1 : Int32) (f3 : Int32)  (self : Int32 × zq_S → Option (Int32 × zq_S)) (v : Int32 × zq_S) : Option (Int32 × zq_S) :=
  if (5 : Int32) ≤ v.1 then
  some ((1 : Int32), v.2)
  else
  zq_ck ((f1 * (5 : Int32)) + v.1) (zfP b0) (
  zq_ck ((f3 * (5 : Int32)) + v.1) (zfP b2) (
  if (lg_cmp (zgl v.2 (zf b0 + 1) ((f1 * (5 : Int32)) + v.1)) (zgl v.2 (zf b2 + 1) ((f3 * (5 : Int32)) + v.1))) = (0 : Int32) then
  zq_let (v.1 + (1 : Int32)) (fun x5 =>
  self (x5, v.2))
  else
  some ((0 : Int32), v.2)))
set_option maxRecDepth 20000 in
set_option maxHeartbeats 2000000 in
theorem xX8_isAlike_36 (N : Nat) (b0 : Bool) (b2 : Bool) (f1 : Int32) (f3 : Int32)  (self : Int32 × zq_S → Option (Int32 × zq_S)) (hself : ∀ v, zq_X yX8_isAlike RX8 cX8_isAlike 5 (some .boolean) ⟨1, 0, 0, 21⟩ zv_i 36 [.ref (zf b0), .int f1, .ref (zf b2), .int f3, .int v.1] [] v.2 (self v)) (v : Int32 × zq_S) : zq_X yX8_isAlike RX8 cX8_isAlike 5 (some .boolean) ⟨1, 0, 0, 21⟩ zv_i 36 [.ref (zf b0), .int f1, .ref (zf b2), .int f3, .int v.1] [] v.2 (bX8_isAlike_36 N b0 b2 f1 f3 self v) := by
  unfold bX8_isAlike_36
  refine zx_lift (pc' := 38) (fun _ => zq_iload rfl dX8_isAlike_36 rfl) ?_
  refine zx_lift (pc' := 39) (fun _ => zq_iconst (v := 5) dX8_isAlike_38 rfl rfl) ?_
  refine zx_icmp_ge (pc' := 42) (tgt := 76) dX8_isAlike_39 rfl rfl (fun hc => ?_) (fun hc => ?_)
  · refine zx_lift (pc' := 77) (fun _ => zq_iconst (v := 1) dX8_isAlike_76 rfl rfl) ?_
    exact zx_zret rfl (by decide) dX8_isAlike_77
  · refine zx_lift (pc' := 43) (fun _ => zq_aload_n rfl rfl dX8_isAlike_42 rfl) ?_
    refine zx_lift (pc' := 46) (fun _ => zt_getR zfr_X8_21 (zfd_f_1 b0) dX8_isAlike_43 rfl) ?_
    refine zx_lift (pc' := 47) (fun _ => zq_iload_n rfl rfl dX8_isAlike_46 rfl) ?_
    refine zx_lift (pc' := 48) (fun _ => zq_iconst (v := 5) dX8_isAlike_47 rfl rfl) ?_
    refine zx_lift (pc' := 49) (fun _ => zq_imul dX8_isAlike_48 rfl) ?_
    refine zx_lift (pc' := 51) (fun _ => zq_iload rfl dX8_isAlike_49 rfl) ?_
    refine zx_lift (pc' := 52) (fun _ => zq_iadd dX8_isAlike_51 rfl) ?_
    refine zx_laload (pc' := 53) (zsh_f1 b0) dX8_isAlike_52 rfl ?_
    refine zx_lift (pc' := 54) (fun _ => zq_aload_n rfl rfl dX8_isAlike_53 rfl) ?_
    refine zx_lift (pc' := 57) (fun _ => zt_getR zfr_X8_21 (zfd_f_1 b2) dX8_isAlike_54 rfl) ?_
    refine zx_lift (pc' := 58) (fun _ => zq_iload_n rfl rfl dX8_isAlike_57 rfl) ?_
    refine zx_lift (pc' := 59) (fun _ => zq_iconst (v := 5) dX8_isAlike_58 rfl rfl) ?_
    refine zx_lift (pc' := 60) (fun _ => zq_imul dX8_isAlike_59 rfl) ?_
    refine zx_lift (pc' := 62) (fun _ => zq_iload rfl dX8_isAlike_60 rfl) ?_
    refine zx_lift (pc' := 63) (fun _ => zq_iadd dX8_isAlike_62 rfl) ?_
    refine zx_laload (pc' := 64) (zsh_f1 b2) dX8_isAlike_63 rfl ?_
    refine zx_lift (pc' := 65) (fun _ => zq_lcmp dX8_isAlike_64 rfl) ?_
    refine zx_if_eq (pc' := 68) (tgt := 70) dX8_isAlike_65 rfl rfl (fun hc => ?_) (fun hc => ?_)
    · refine zx_iinc (pc' := 73) (ls' := fun x5 => [.ref (zf b0), .int f1, .ref (zf b2), .int f3, .int x5]) rfl rfl (by decide) rfl (fun _ => rfl) dX8_isAlike_70 rfl (fun x5 => ?_)
      refine zx_lift (pc' := 36) (fun _ => zq_goto dX8_isAlike_73 rfl) ?_
      exact hself (x5, v.2)
    · refine zx_lift (pc' := 69) (fun _ => zq_iconst (v := 0) dX8_isAlike_68 rfl rfl) ?_
      exact zx_zret rfl (by decide) dX8_isAlike_69
theorem yX8_isAlike_36 (N : Nat) (b0 : Bool) (b2 : Bool) (f1 : Int32) (f3 : Int32)  (n : Nat) : ∀ v : Int32 × zq_S, zq_X yX8_isAlike RX8 cX8_isAlike 5 (some .boolean) ⟨1, 0, 0, 21⟩ zv_i 36 [.ref (zf b0), .int f1, .ref (zf b2), .int f3, .int v.1] [] v.2 (zq_loop (bX8_isAlike_36 N b0 b2 f1 f3 ) n v) := by
  induction n with
  | zero => exact fun v u hu => by cases hu
  | succ n ih =>
    intro v
    rw [zq_loop_s]
    exact xX8_isAlike_36 N b0 b2 f1 f3  (zq_loop (bX8_isAlike_36 N b0 b2 f1 f3 ) n) ih v
def mX8_isAlike (N : Nat) (b0 : Bool) (b2 : Bool) (p1 : Int32) (p3 : Int32) (s : zq_S) : Option (Int32 × zq_S) :=
  zq_b2 (mX8_isMade N b0 p1 s) (fun r1 s2 =>
  if r1 = (0 : Int32) then
  jX8_isAlike_j31 N b0 b2 s2
  else
  zq_b2 (mX8_isMade N b2 p3 s2) (fun r3 s4 =>
  if r3 = (0 : Int32) then
  jX8_isAlike_j31 N b0 b2 s4
  else
  zq_ck p1 (zfS b0) (
  zq_ck p3 (zfS b2) (
  if (zga s4 (zf b0 + 2) p1) = (zga s4 (zf b2 + 2) p3) then
  zq_loop (bX8_isAlike_36 N b0 b2 p1 p3 ) N ((0 : Int32), s4)
  else
  jX8_isAlike_j31 N b0 b2 s4))))
set_option maxRecDepth 20000 in
set_option maxHeartbeats 2000000 in
theorem xX8_isAlike (N : Nat) (b0 : Bool) (b2 : Bool) (p1 : Int32) (p3 : Int32) (s : zq_S) : zq_X yX8_isAlike RX8 cX8_isAlike 5 (some .boolean) ⟨1, 0, 0, 21⟩ zv_i 0 [.ref (zf b0), .int p1, .ref (zf b2), .int p3, .null] [] s (mX8_isAlike N b0 b2 p1 p3 s) := by
  unfold mX8_isAlike
  refine zx_lift (pc' := 1) (fun _ => zq_aload_n rfl rfl dX8_isAlike_0 rfl) ?_
  refine zx_lift (pc' := 2) (fun _ => zq_iload_n rfl rfl dX8_isAlike_1 rfl) ?_
  refine zx_cVi (pc' := 5) zcv_X8_35 (cX8_isMade_mc N b0 p1 s) (zob_f b0) rfl (by decide) (Nat.le_of_ble_eq_true rfl) dX8_isAlike_2 rfl rfl (fun r1 s2 => ?_)
  refine zx_if_eq (pc' := 8) (tgt := 31) dX8_isAlike_5 rfl rfl (fun hc => ?_) (fun hc => ?_)
  · refine zx_less [.null, .null, .null, .null, .null] (zq_cz (zq_cz (zq_cz (zq_cz (zq_cz zq_cn))))) ?_
    exact xX8_isAlike_j31_j N b0 b2 s2
  · refine zx_lift (pc' := 9) (fun _ => zq_aload_n rfl rfl dX8_isAlike_8 rfl) ?_
    refine zx_lift (pc' := 10) (fun _ => zq_iload_n rfl rfl dX8_isAlike_9 rfl) ?_
    refine zx_cVi (pc' := 13) zcv_X8_35 (cX8_isMade_mc N b2 p3 s2) (zob_f b2) rfl (by decide) (Nat.le_of_ble_eq_true rfl) dX8_isAlike_10 rfl rfl (fun r3 s4 => ?_)
    refine zx_if_eq (pc' := 16) (tgt := 31) dX8_isAlike_13 rfl rfl (fun hc => ?_) (fun hc => ?_)
    · refine zx_less [.null, .null, .null, .null, .null] (zq_cz (zq_cz (zq_cz (zq_cz (zq_cz zq_cn))))) ?_
      exact xX8_isAlike_j31_j N b0 b2 s4
    · refine zx_lift (pc' := 17) (fun _ => zq_aload_n rfl rfl dX8_isAlike_16 rfl) ?_
      refine zx_lift (pc' := 20) (fun _ => zt_getR zfr_X8_25 (zfd_f_2 b0) dX8_isAlike_17 rfl) ?_
      refine zx_lift (pc' := 21) (fun _ => zq_iload_n rfl rfl dX8_isAlike_20 rfl) ?_
      refine zx_iaload (pc' := 22) (zsh_f2 b0) dX8_isAlike_21 rfl ?_
      refine zx_lift (pc' := 23) (fun _ => zq_aload_n rfl rfl dX8_isAlike_22 rfl) ?_
      refine zx_lift (pc' := 26) (fun _ => zt_getR zfr_X8_25 (zfd_f_2 b2) dX8_isAlike_23 rfl) ?_
      refine zx_lift (pc' := 27) (fun _ => zq_iload_n rfl rfl dX8_isAlike_26 rfl) ?_
      refine zx_iaload (pc' := 28) (zsh_f2 b2) dX8_isAlike_27 rfl ?_
      refine zx_icmp_eq (pc' := 31) (tgt := 33) dX8_isAlike_28 rfl rfl (fun hc => ?_) (fun hc => ?_)
      · refine zx_lift (pc' := 34) (fun _ => zq_iconst (v := 0) dX8_isAlike_33 rfl rfl) ?_
        refine zx_lift (pc' := 36) (fun _ => zq_istore (ls' := [.ref (zf b0), .int p1, .ref (zf b2), .int p3, .int (0 : Int32)]) (by decide) rfl rfl dX8_isAlike_34 rfl) ?_
        refine yX8_isAlike_36 N b0 b2 p1 p3  N ((0 : Int32), s4)
      · refine zx_less [.null, .null, .null, .null, .null] (zq_cz (zq_cz (zq_cz (zq_cz (zq_cz zq_cn))))) ?_
        exact xX8_isAlike_j31_j N b0 b2 s4
theorem cX8_isAlike_mc (N : Nat) (b0 : Bool) (b2 : Bool) (p1 : Int32) (p3 : Int32) (s : zq_S) (v : Int32 × zq_S) (h : mX8_isAlike N b0 b2 p1 p3 s = some v) : zq_MC yX8_isAlike cX8_isAlike 5 (some .boolean) ⟨1, 0, 0, 21⟩ 0 0 [.ref (zf b0), .int p1, .ref (zf b2), .int p3] (zq_en s) (zv_i v.1, zq_en v.2) := zq_MC_x [.ref (zf b0), .int p1, .ref (zf b2), .int p3, .null] (by decide +kernel) rfl rfl (Nat.le_of_ble_eq_true rfl) (xX8_isAlike N b0 b2 p1 p3 s) h
