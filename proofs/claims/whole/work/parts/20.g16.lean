def mX12_see (N : Nat)  (p1 : Int32) (s : zq_S) : Option (Int32 × zq_S) :=
  zq_b2 (mX12_areMarks N p1 s) (fun r1 s2 =>
  if r1 = (0 : Int32) then
  some ((-1001 : Int32), s2)
  else
  zq_b2 (mX12_findTexts N s2) (fun r3 s4 =>
  zq_ck p1 1024 (
  if (zga s4 78 p1) = (0 : Int32) then
  some ((-1003 : Int32), s4)
  else
  zq_b2 (mX12_fill_a91 N p1 s4) (fun r5 s6 =>
  zq_let (zpf s6 57 52 r5) (fun s7 =>
  some ((zgf s7 57 52), s7))))))
set_option maxRecDepth 20000 in
set_option maxHeartbeats 2000000 in
theorem xX12_see (N : Nat)  (p1 : Int32) (s : zq_S) : zq_X yX12_see RX12 cX12_see 2 (some .int) ⟨4, 0, 0, 91⟩ zv_i 0 [.ref 57, .int p1] [] s (mX12_see N p1 s) := by
  unfold mX12_see
  refine zx_lift (pc' := 1) (fun _ => zq_aload_n rfl rfl dX12_see_0 rfl) ?_
  refine zx_lift (pc' := 2) (fun _ => zq_iload_n rfl rfl dX12_see_1 rfl) ?_
  refine zx_cVi (pc' := 5) zcv_X12_310 (cX12_areMarks_mc N p1 s) zob_57 rfl (by decide) (Nat.le_of_ble_eq_true rfl) dX12_see_2 rfl rfl (fun r1 s2 => ?_)
  refine zx_if_ne (pc' := 8) (tgt := 12) dX12_see_5 rfl rfl (fun hc => ?_) (fun hc => ?_)
  · refine zx_lift (pc' := 13) (fun _ => zq_aload_n rfl rfl dX12_see_12 rfl) ?_
    refine zx_cVv (pc' := 16) zcv_X12_340 (cX12_findTexts_mc N s2) zob_57 rfl (by decide) (Nat.le_of_ble_eq_true rfl) dX12_see_13 rfl rfl (fun r3 s4 => ?_)
    refine zx_lift (pc' := 17) (fun _ => zq_aload_n rfl rfl dX12_see_16 rfl) ?_
    refine zx_lift (pc' := 20) (fun _ => zt_getR zfr_X12_75 zfd_57_38 dX12_see_17 rfl) ?_
    refine zx_lift (pc' := 21) (fun _ => zq_iload_n rfl rfl dX12_see_20 rfl) ?_
    refine zx_zaload (pc' := 22) zsh_78 dX12_see_21 rfl ?_
    refine zx_if_ne (pc' := 25) (tgt := 29) dX12_see_22 rfl rfl (fun hc => ?_) (fun hc => ?_)
    · refine zx_lift (pc' := 30) (fun _ => zq_aload_n rfl rfl dX12_see_29 rfl) ?_
      refine zx_lift (pc' := 31) (fun _ => zq_aload_n rfl rfl dX12_see_30 rfl) ?_
      refine zx_lift (pc' := 32) (fun _ => zq_iload_n rfl rfl dX12_see_31 rfl) ?_
      refine zx_lift (pc' := 33) (fun _ => zq_aload_n rfl rfl dX12_see_32 rfl) ?_
      refine zx_lift (pc' := 36) (fun _ => zt_getR zfr_X12_116 zfd_57_53 dX12_see_33 rfl) ?_
      refine zx_cVi (pc' := 39) zcv_X12_356 (cX12_fill_a91_mc N p1 s4) zob_57 rfl (by decide) (Nat.le_of_ble_eq_true rfl) dX12_see_36 rfl rfl (fun r5 s6 => ?_)
      refine zx_putI (pc' := 42) zfr_X12_292 (fun _ => ⟨rfl, rfl⟩) zfd_57_52 dX12_see_39 rfl (fun s7 => ?_)
      refine zx_lift (pc' := 43) (fun _ => zq_aload_n rfl rfl dX12_see_42 rfl) ?_
      refine zx_lift (pc' := 46) (fun _ => zt_getI zfr_X12_292 zfd_57_52 dX12_see_43 rfl) ?_
      exact zx_iret rfl dX12_see_46
    · refine zx_lift (pc' := 28) (fun _ => zq_sipush (v := (-1003)) dX12_see_25 rfl rfl) ?_
      exact zx_iret rfl dX12_see_28
  · refine zx_lift (pc' := 11) (fun _ => zq_sipush (v := (-1001)) dX12_see_8 rfl rfl) ?_
    exact zx_iret rfl dX12_see_11
theorem cX12_see_mc (N : Nat)  (p1 : Int32) (s : zq_S) (v : Int32 × zq_S) (h : mX12_see N p1 s = some v) : zq_MC yX12_see cX12_see 2 (some .int) ⟨4, 0, 0, 91⟩ 0 0 [.ref 57, .int p1] (zq_en s) (zv_i v.1, zq_en v.2) := zq_MC_x [.ref 57, .int p1] (by decide +kernel) rfl rfl (Nat.le_of_ble_eq_true rfl) (xX12_see N p1 s) h
def jX12_session_j140 (N : Nat)  (f1 : Int32) (f2 : Int32) (f3 : Int32) (f5 : Int32) (k162 : Int32 × zq_S → Option (Int32 × zq_S)) (self : Int32 × Int32 × zq_S → Option (Int32 × zq_S)) (w4 : Int32) (w6 : Int32) (t0 : Int32) (s : zq_S) : Option (Int32 × zq_S) :=
  zq_let (if t0 = (0 : Int32) then w4 else w6) (fun x8 =>
  zq_let (w6 + (-1 : Int32)) (fun x9 =>
  self (x8, x9, s)))
set_option maxRecDepth 20000 in
set_option maxHeartbeats 2000000 in
theorem xX12_session_j140_j (N : Nat)  (f1 : Int32) (f2 : Int32) (f3 : Int32) (f5 : Int32) (k162 : Int32 × zq_S → Option (Int32 × zq_S)) (hk162 : ∀ e, zq_X yX12_session RX12 cX12_session 9 (some .int) ⟨6, 0, 0, 143⟩ zv_i 162 [.ref 57, .int f1, .int f2, .null, .int e.1, .int f5, .null, .null, .null] [] e.2 (k162 e)) (self : Int32 × Int32 × zq_S → Option (Int32 × zq_S)) (hself : ∀ v, zq_X yX12_session RX12 cX12_session 9 (some .int) ⟨6, 0, 0, 143⟩ zv_i 49 [.ref 57, .int f1, .int f2, .int f3, .int v.1, .int f5, .int v.2.1, .null, .null] [] v.2.2 (self v)) (w4 : Int32) (w6 : Int32) (t0 : Int32) (s : zq_S) : zq_X yX12_session RX12 cX12_session 9 (some .int) ⟨6, 0, 0, 143⟩ zv_i 140 [.ref 57, .int f1, .int f2, .int f3, .int w4, .int f5, .int w6, .null, .null] [.int t0] s (jX12_session_j140 N f1 f2 f3 f5 k162 self w4 w6 t0 s) := by
  unfold jX12_session_j140
  refine zx_lift (pc' := 142) (fun _ => zq_istore (ls' := [.ref 57, .int f1, .int f2, .int f3, .int w4, .int f5, .int w6, .null, .int t0]) (by decide) rfl rfl dX12_session_140 rfl) ?_
  refine zx_lift (pc' := 144) (fun _ => zq_iload rfl dX12_session_142 rfl) ?_
  refine zx_tern (pcJ := 154) (lsJ := fun x8 => [.ref 57, .int f1, .int f2, .int f3, .null, .int f5, .int w6, .null, .null]) (stJ := fun x8 => [.int x8]) (fun x8 => ?_) (fun f hJ => ?_)
  rotate_left
  · refine zx_lif_eq (pc' := 147) (tgt := 152) dX12_session_144 rfl rfl (fun _ => ?_) (fun _ => ?_)
    · refine zx_lift (pc' := 154) (fun _ => zq_iload rfl dX12_session_152 rfl) ?_
      exact zx_lessJ (zq_cr (zq_cr (zq_cr (zq_cr (zq_cz (zq_cr (zq_cr (zq_cz (zq_cz zq_cn))))))))) (hJ _)
    · refine zx_lift (pc' := 149) (fun _ => zq_iload rfl dX12_session_147 rfl) ?_
      refine zx_lift (pc' := 154) (fun _ => zq_goto dX12_session_149 rfl) ?_
      exact zx_lessJ (zq_cr (zq_cr (zq_cr (zq_cr (zq_cz (zq_cr (zq_cr (zq_cz (zq_cz zq_cn))))))))) (hJ _)
  refine zx_lift (pc' := 156) (fun _ => zq_istore (ls' := [.ref 57, .int f1, .int f2, .int f3, .int x8, .int f5, .int w6, .null, .null]) (by decide) rfl rfl dX12_session_154 rfl) ?_
  refine zx_iinc (pc' := 159) (ls' := fun x9 => [.ref 57, .int f1, .int f2, .int f3, .int x8, .int f5, .int x9, .null, .null]) rfl rfl (by decide) rfl (fun _ => rfl) dX12_session_156 rfl (fun x9 => ?_)
  refine zx_lift (pc' := 49) (fun _ => zq_goto dX12_session_159 rfl) ?_
  exact hself (x8, x9, s)
def jX12_session_j139 (N : Nat)  (f1 : Int32) (f2 : Int32) (f3 : Int32) (f5 : Int32) (k162 : Int32 × zq_S → Option (Int32 × zq_S)) (self : Int32 × Int32 × zq_S → Option (Int32 × zq_S)) (w4 : Int32) (w6 : Int32) (s : zq_S) : Option (Int32 × zq_S) :=
  jX12_session_j140 N f1 f2 f3 f5 k162 self w4 w6 (0 : Int32) s
set_option maxRecDepth 20000 in
set_option maxHeartbeats 2000000 in
theorem xX12_session_j139_j (N : Nat)  (f1 : Int32) (f2 : Int32) (f3 : Int32) (f5 : Int32) (k162 : Int32 × zq_S → Option (Int32 × zq_S)) (hk162 : ∀ e, zq_X yX12_session RX12 cX12_session 9 (some .int) ⟨6, 0, 0, 143⟩ zv_i 162 [.ref 57, .int f1, .int f2, .null, .int e.1, .int f5, .null, .null, .null] [] e.2 (k162 e)) (self : Int32 × Int32 × zq_S → Option (Int32 × zq_S)) (hself : ∀ v, zq_X yX12_session RX12 cX12_session 9 (some .int) ⟨6, 0, 0, 143⟩ zv_i 49 [.ref 57, .int f1, .int f2, .int f3, .int v.1, .int f5, .int v.2.1, .null, .null] [] v.2.2 (self v)) (w4 : Int32) (w6 : Int32) (s : zq_S) : zq_X yX12_session RX12 cX12_session 9 (some .int) ⟨6, 0, 0, 143⟩ zv_i 139 [.ref 57, .int f1, .int f2, .int f3, .int w4, .int f5, .int w6, .null, .null] [] s (jX12_session_j139 N f1 f2 f3 f5 k162 self w4 w6 s) := by
  unfold jX12_session_j139
  refine zx_lift (pc' := 140) (fun _ => zq_iconst (v := 0) dX12_session_139 rfl rfl) ?_
  exact xX12_session_j140_j N f1 f2 f3 f5 k162 hk162 self hself w4 w6 (0 : Int32) s
def jX12_session_j74 (N : Nat)  (f1 : Int32) (f2 : Int32) (f3 : Int32) (f5 : Int32) (k162 : Int32 × zq_S → Option (Int32 × zq_S)) (self : Int32 × Int32 × zq_S → Option (Int32 × zq_S)) (w4 : Int32) (w6 : Int32) (t0 : Int32) (s : zq_S) : Option (Int32 × zq_S) :=
  zq_ck f2 1024 (
  zq_b2 (mX12_has N (zga s 79 f2) w6 s) (fun r6 s7 =>
  if r6 = (0 : Int32) then
  jX12_session_j139 N f1 f2 f3 f5 k162 self w4 w6 s7
  else
  zq_ck w6 10 (
  zq_ck (((4 : Int32) * (f2 ||| ((1 : Int32) <<< (w6 &&& 31)))) + (zga s7 63 w6)) 4096 (
  zq_let (if t0 = (0 : Int32) then (1 : Int32) else (0 : Int32)) (fun x10 =>
  zq_ck (((4 : Int32) * f2) + f3) 4096 (
  if ((zga s7 82 (((4 : Int32) * (f2 ||| ((1 : Int32) <<< (w6 &&& 31)))) + (zga s7 63 w6))) + x10) = (zga s7 82 (((4 : Int32) * f2) + f3)) then
  jX12_session_j140 N f1 f2 f3 f5 k162 self w4 w6 (1 : Int32) s7
  else
  jX12_session_j139 N f1 f2 f3 f5 k162 self w4 w6 s7))))))
set_option maxRecDepth 20000 in
set_option maxHeartbeats 2000000 in
theorem xX12_session_j74_j (N : Nat)  (f1 : Int32) (f2 : Int32) (f3 : Int32) (f5 : Int32) (k162 : Int32 × zq_S → Option (Int32 × zq_S)) (hk162 : ∀ e, zq_X yX12_session RX12 cX12_session 9 (some .int) ⟨6, 0, 0, 143⟩ zv_i 162 [.ref 57, .int f1, .int f2, .null, .int e.1, .int f5, .null, .null, .null] [] e.2 (k162 e)) (self : Int32 × Int32 × zq_S → Option (Int32 × zq_S)) (hself : ∀ v, zq_X yX12_session RX12 cX12_session 9 (some .int) ⟨6, 0, 0, 143⟩ zv_i 49 [.ref 57, .int f1, .int f2, .int f3, .int v.1, .int f5, .int v.2.1, .null, .null] [] v.2.2 (self v)) (w4 : Int32) (w6 : Int32) (t0 : Int32) (s : zq_S) : zq_X yX12_session RX12 cX12_session 9 (some .int) ⟨6, 0, 0, 143⟩ zv_i 74 [.ref 57, .int f1, .int f2, .int f3, .int w4, .int f5, .int w6, .null, .null] [.int t0] s (jX12_session_j74 N f1 f2 f3 f5 k162 self w4 w6 t0 s) := by
  unfold jX12_session_j74
  refine zx_lift (pc' := 76) (fun _ => zq_istore (ls' := [.ref 57, .int f1, .int f2, .int f3, .int w4, .int f5, .int w6, .int t0, .null]) (by decide) rfl rfl dX12_session_74 rfl) ?_
  refine zx_lift (pc' := 77) (fun _ => zq_aload_n rfl rfl dX12_session_76 rfl) ?_
  refine zx_lift (pc' := 80) (fun _ => zt_getR zfr_X12_78 zfd_57_39 dX12_session_77 rfl) ?_
  refine zx_lift (pc' := 81) (fun _ => zq_iload_n rfl rfl dX12_session_80 rfl) ?_
  refine zx_iaload (pc' := 82) zsh_79 dX12_session_81 rfl ?_
  refine zx_lift (pc' := 84) (fun _ => zq_iload rfl dX12_session_82 rfl) ?_
  refine zx_cSi (pc' := 87) zcs_X12_189 (cX12_has_mc N (zga s 79 f2) w6 s) rfl (by decide) (Nat.le_of_ble_eq_true rfl) dX12_session_84 rfl rfl (fun r6 s7 => ?_)
  refine zx_if_eq (pc' := 90) (tgt := 139) dX12_session_87 rfl rfl (fun hc => ?_) (fun hc => ?_)
  · refine zx_less [.ref 57, .int f1, .int f2, .int f3, .int w4, .int f5, .int w6, .null, .null] (zq_cr (zq_cr (zq_cr (zq_cr (zq_cr (zq_cr (zq_cr (zq_cz (zq_cz zq_cn))))))))) ?_
    exact xX12_session_j139_j N f1 f2 f3 f5 k162 hk162 self hself w4 w6 s7
  · refine zx_lift (pc' := 91) (fun _ => zq_aload_n rfl rfl dX12_session_90 rfl) ?_
    refine zx_lift (pc' := 94) (fun _ => zt_getR zfr_X12_88 zfd_57_42 dX12_session_91 rfl) ?_
    refine zx_lift (pc' := 95) (fun _ => zq_iconst (v := 4) dX12_session_94 rfl rfl) ?_
    refine zx_lift (pc' := 96) (fun _ => zq_iload_n rfl rfl dX12_session_95 rfl) ?_
    refine zx_lift (pc' := 97) (fun _ => zq_iconst (v := 1) dX12_session_96 rfl rfl) ?_
    refine zx_lift (pc' := 99) (fun _ => zq_iload rfl dX12_session_97 rfl) ?_
    refine zx_lift (pc' := 100) (fun _ => zq_ishl dX12_session_99 rfl) ?_
    refine zx_lift (pc' := 101) (fun _ => zq_ior dX12_session_100 rfl) ?_
    refine zx_lift (pc' := 102) (fun _ => zq_imul dX12_session_101 rfl) ?_
    refine zx_lift (pc' := 103) (fun _ => zq_aload_n rfl rfl dX12_session_102 rfl) ?_
    refine zx_lift (pc' := 106) (fun _ => zt_getR zfr_X12_25 zfd_57_8 dX12_session_103 rfl) ?_
    refine zx_lift (pc' := 108) (fun _ => zq_iload rfl dX12_session_106 rfl) ?_
    refine zx_iaload (pc' := 109) zsh_63 dX12_session_108 rfl ?_
    refine zx_lift (pc' := 110) (fun _ => zq_iadd dX12_session_109 rfl) ?_
    refine zx_iaload (pc' := 111) zsh_82 dX12_session_110 rfl ?_
    refine zx_lift (pc' := 113) (fun _ => zq_iload rfl dX12_session_111 rfl) ?_
    refine zx_tern (pcJ := 121) (lsJ := fun x10 => [.ref 57, .int f1, .int f2, .int f3, .int w4, .int f5, .int w6, .null, .null]) (stJ := fun x10 => [.int x10, .int (zga s7 82 (((4 : Int32) * (f2 ||| ((1 : Int32) <<< (w6 &&& 31)))) + (zga s7 63 w6)))]) (fun x10 => ?_) (fun f hJ => ?_)
    rotate_left
    · refine zx_lif_eq (pc' := 116) (tgt := 120) dX12_session_113 rfl rfl (fun _ => ?_) (fun _ => ?_)
      · refine zx_lift (pc' := 121) (fun _ => zq_iconst (v := 1) dX12_session_120 rfl rfl) ?_
        exact zx_lessJ (zq_cr (zq_cr (zq_cr (zq_cr (zq_cr (zq_cr (zq_cr (zq_cz (zq_cz zq_cn))))))))) (hJ _)
      · refine zx_lift (pc' := 117) (fun _ => zq_iconst (v := 0) dX12_session_116 rfl rfl) ?_
        refine zx_lift (pc' := 121) (fun _ => zq_goto dX12_session_117 rfl) ?_
        exact zx_lessJ (zq_cr (zq_cr (zq_cr (zq_cr (zq_cr (zq_cr (zq_cr (zq_cz (zq_cz zq_cn))))))))) (hJ _)
    refine zx_lift (pc' := 122) (fun _ => zq_iadd dX12_session_121 rfl) ?_
    refine zx_lift (pc' := 123) (fun _ => zq_aload_n rfl rfl dX12_session_122 rfl) ?_
    refine zx_lift (pc' := 126) (fun _ => zt_getR zfr_X12_88 zfd_57_42 dX12_session_123 rfl) ?_
    refine zx_lift (pc' := 127) (fun _ => zq_iconst (v := 4) dX12_session_126 rfl rfl) ?_
    refine zx_lift (pc' := 128) (fun _ => zq_iload_n rfl rfl dX12_session_127 rfl) ?_
    refine zx_lift (pc' := 129) (fun _ => zq_imul dX12_session_128 rfl) ?_
    refine zx_lift (pc' := 130) (fun _ => zq_iload_n rfl rfl dX12_session_129 rfl) ?_
    refine zx_lift (pc' := 131) (fun _ => zq_iadd dX12_session_130 rfl) ?_
    refine zx_iaload (pc' := 132) zsh_82 dX12_session_131 rfl ?_
    refine zx_icmp_ne (pc' := 135) (tgt := 139) dX12_session_132 rfl rfl (fun hc => ?_) (fun hc => ?_)
    · exact xX12_session_j139_j N f1 f2 f3 f5 k162 hk162 self hself w4 w6 s7
    · refine zx_lift (pc' := 136) (fun _ => zq_iconst (v := 1) dX12_session_135 rfl rfl) ?_
      refine zx_lift (pc' := 140) (fun _ => zq_goto dX12_session_136 rfl) ?_
      exact xX12_session_j140_j N f1 f2 f3 f5 k162 hk162 self hself w4 w6 (1 : Int32) s7
def jX12_session_j73 (N : Nat)  (f1 : Int32) (f2 : Int32) (f3 : Int32) (f5 : Int32) (k162 : Int32 × zq_S → Option (Int32 × zq_S)) (self : Int32 × Int32 × zq_S → Option (Int32 × zq_S)) (w4 : Int32) (w6 : Int32) (s : zq_S) : Option (Int32 × zq_S) :=
  jX12_session_j74 N f1 f2 f3 f5 k162 self w4 w6 (0 : Int32) s
set_option maxRecDepth 20000 in
set_option maxHeartbeats 2000000 in
theorem xX12_session_j73_j (N : Nat)  (f1 : Int32) (f2 : Int32) (f3 : Int32) (f5 : Int32) (k162 : Int32 × zq_S → Option (Int32 × zq_S)) (hk162 : ∀ e, zq_X yX12_session RX12 cX12_session 9 (some .int) ⟨6, 0, 0, 143⟩ zv_i 162 [.ref 57, .int f1, .int f2, .null, .int e.1, .int f5, .null, .null, .null] [] e.2 (k162 e)) (self : Int32 × Int32 × zq_S → Option (Int32 × zq_S)) (hself : ∀ v, zq_X yX12_session RX12 cX12_session 9 (some .int) ⟨6, 0, 0, 143⟩ zv_i 49 [.ref 57, .int f1, .int f2, .int f3, .int v.1, .int f5, .int v.2.1, .null, .null] [] v.2.2 (self v)) (w4 : Int32) (w6 : Int32) (s : zq_S) : zq_X yX12_session RX12 cX12_session 9 (some .int) ⟨6, 0, 0, 143⟩ zv_i 73 [.ref 57, .int f1, .int f2, .int f3, .int w4, .int f5, .int w6, .null, .null] [] s (jX12_session_j73 N f1 f2 f3 f5 k162 self w4 w6 s) := by
  unfold jX12_session_j73
  refine zx_lift (pc' := 74) (fun _ => zq_iconst (v := 0) dX12_session_73 rfl rfl) ?_
  exact xX12_session_j74_j N f1 f2 f3 f5 k162 hk162 self hself w4 w6 (0 : Int32) s
def bX12_session_49 (N : Nat)  (f1 : Int32) (f2 : Int32) (f3 : Int32) (f5 : Int32) (k162 : Int32 × zq_S → Option (Int32 × zq_S)) (self : Int32 × Int32 × zq_S → Option (Int32 × zq_S)) (v : Int32 × Int32 × zq_S) : Option (Int32 × zq_S) :=
  if v.2.1 < (0 : Int32) then
  k162 (v.1, v.2.2)
  else
  if f2 ≤ (0 : Int32) then
  jX12_session_j73 N f1 f2 f3 f5 k162 self v.1 v.2.1 v.2.2
  else
  zq_ck v.2.1 10 (
  if (zga v.2.2 63 v.2.1) = f3 then
  jX12_session_j74 N f1 f2 f3 f5 k162 self v.1 v.2.1 (1 : Int32) v.2.2
  else
  jX12_session_j73 N f1 f2 f3 f5 k162 self v.1 v.2.1 v.2.2)
set_option maxRecDepth 20000 in
set_option maxHeartbeats 2000000 in
theorem xX12_session_49 (N : Nat)  (f1 : Int32) (f2 : Int32) (f3 : Int32) (f5 : Int32) (k162 : Int32 × zq_S → Option (Int32 × zq_S)) (hk162 : ∀ e, zq_X yX12_session RX12 cX12_session 9 (some .int) ⟨6, 0, 0, 143⟩ zv_i 162 [.ref 57, .int f1, .int f2, .null, .int e.1, .int f5, .null, .null, .null] [] e.2 (k162 e)) (self : Int32 × Int32 × zq_S → Option (Int32 × zq_S)) (hself : ∀ v, zq_X yX12_session RX12 cX12_session 9 (some .int) ⟨6, 0, 0, 143⟩ zv_i 49 [.ref 57, .int f1, .int f2, .int f3, .int v.1, .int f5, .int v.2.1, .null, .null] [] v.2.2 (self v)) (v : Int32 × Int32 × zq_S) : zq_X yX12_session RX12 cX12_session 9 (some .int) ⟨6, 0, 0, 143⟩ zv_i 49 [.ref 57, .int f1, .int f2, .int f3, .int v.1, .int f5, .int v.2.1, .null, .null] [] v.2.2 (bX12_session_49 N f1 f2 f3 f5 k162 self v) := by
  unfold bX12_session_49
  refine zx_lift (pc' := 51) (fun _ => zq_iload rfl dX12_session_49 rfl) ?_
  refine zx_if_lt (pc' := 54) (tgt := 162) dX12_session_51 rfl rfl (fun hc => ?_) (fun hc => ?_)
  · refine zx_less [.ref 57, .int f1, .int f2, .null, .int v.1, .int f5, .null, .null, .null] (zq_cr (zq_cr (zq_cr (zq_cz (zq_cr (zq_cr (zq_cz (zq_cz (zq_cz zq_cn))))))))) ?_
    exact hk162 (v.1, v.2.2)
  · refine zx_lift (pc' := 55) (fun _ => zq_iload_n rfl rfl dX12_session_54 rfl) ?_
    refine zx_if_le (pc' := 58) (tgt := 73) dX12_session_55 rfl rfl (fun hc => ?_) (fun hc => ?_)
    · exact xX12_session_j73_j N f1 f2 f3 f5 k162 hk162 self hself v.1 v.2.1 v.2.2
    · refine zx_lift (pc' := 59) (fun _ => zq_aload_n rfl rfl dX12_session_58 rfl) ?_
      refine zx_lift (pc' := 62) (fun _ => zt_getR zfr_X12_25 zfd_57_8 dX12_session_59 rfl) ?_
      refine zx_lift (pc' := 64) (fun _ => zq_iload rfl dX12_session_62 rfl) ?_
      refine zx_iaload (pc' := 65) zsh_63 dX12_session_64 rfl ?_
      refine zx_lift (pc' := 66) (fun _ => zq_iload_n rfl rfl dX12_session_65 rfl) ?_
      refine zx_icmp_ne (pc' := 69) (tgt := 73) dX12_session_66 rfl rfl (fun hc => ?_) (fun hc => ?_)
      · exact xX12_session_j73_j N f1 f2 f3 f5 k162 hk162 self hself v.1 v.2.1 v.2.2
      · refine zx_lift (pc' := 70) (fun _ => zq_iconst (v := 1) dX12_session_69 rfl rfl) ?_
        refine zx_lift (pc' := 74) (fun _ => zq_goto dX12_session_70 rfl) ?_
        exact xX12_session_j74_j N f1 f2 f3 f5 k162 hk162 self hself v.1 v.2.1 (1 : Int32) v.2.2
theorem yX12_session_49 (N : Nat)  (f1 : Int32) (f2 : Int32) (f3 : Int32) (f5 : Int32) (k162 : Int32 × zq_S → Option (Int32 × zq_S)) (hk162 : ∀ e, zq_X yX12_session RX12 cX12_session 9 (some .int) ⟨6, 0, 0, 143⟩ zv_i 162 [.ref 57, .int f1, .int f2, .null, .int e.1, .int f5, .null, .null, .null] [] e.2 (k162 e)) (n : Nat) : ∀ v : Int32 × Int32 × zq_S, zq_X yX12_session RX12 cX12_session 9 (some .int) ⟨6, 0, 0, 143⟩ zv_i 49 [.ref 57, .int f1, .int f2, .int f3, .int v.1, .int f5, .int v.2.1, .null, .null] [] v.2.2 (zq_loop (bX12_session_49 N f1 f2 f3 f5 k162) n v) := by
  induction n with
  | zero => exact fun v u hu => by cases hu
  | succ n ih =>
    intro v
    rw [zq_loop_s]
    exact xX12_session_49 N f1 f2 f3 f5 k162 hk162 (zq_loop (bX12_session_49 N f1 f2 f3 f5 k162) n) ih v
def bX12_session_32 (N : Nat)  (f1 : Int32)  (self : Int32 × Int32 × Int32 × Int32 × zq_S → Option (Int32 × zq_S)) (v : Int32 × Int32 × Int32 × Int32 × zq_S) : Option (Int32 × zq_S) :=
  if f1 < v.2.2.2.1 then
  some (v.2.2.1, v.2.2.2.2)
  else
  zq_let ((zgf v.2.2.2.2 57 6) - (1 : Int32)) (fun x5 =>
  zq_loop (bX12_session_49 N f1 v.1 v.2.1 v.2.2.2.1 (fun e11 =>
  zq_let (v.1 ||| ((1 : Int32) <<< (e11.1 &&& 31))) (fun x12 =>
  zq_ck e11.1 10 (
  zq_let (zga e11.2 63 e11.1) (fun x13 =>
  zq_let (v.2.2.2.1 + (1 : Int32)) (fun x14 =>
  self (x12, x13, e11.1, x14, e11.2))))))) N ((-1 : Int32), x5, v.2.2.2.2))
set_option maxRecDepth 20000 in
set_option maxHeartbeats 2000000 in
theorem xX12_session_32 (N : Nat)  (f1 : Int32)  (self : Int32 × Int32 × Int32 × Int32 × zq_S → Option (Int32 × zq_S)) (hself : ∀ v, zq_X yX12_session RX12 cX12_session 9 (some .int) ⟨6, 0, 0, 143⟩ zv_i 32 [.ref 57, .int f1, .int v.1, .int v.2.1, .int v.2.2.1, .int v.2.2.2.1, .null, .null, .null] [] v.2.2.2.2 (self v)) (v : Int32 × Int32 × Int32 × Int32 × zq_S) : zq_X yX12_session RX12 cX12_session 9 (some .int) ⟨6, 0, 0, 143⟩ zv_i 32 [.ref 57, .int f1, .int v.1, .int v.2.1, .int v.2.2.1, .int v.2.2.2.1, .null, .null, .null] [] v.2.2.2.2 (bX12_session_32 N f1 self v) := by
  unfold bX12_session_32
  refine zx_lift (pc' := 34) (fun _ => zq_iload rfl dX12_session_32 rfl) ?_
  refine zx_lift (pc' := 35) (fun _ => zq_iload_n rfl rfl dX12_session_34 rfl) ?_
  refine zx_icmp_gt (pc' := 38) (tgt := 183) dX12_session_35 rfl rfl (fun hc => ?_) (fun hc => ?_)
  · refine zx_lift (pc' := 185) (fun _ => zq_iload rfl dX12_session_183 rfl) ?_
    exact zx_iret rfl dX12_session_185
  · refine zx_lift (pc' := 39) (fun _ => zq_iconst (v := (-1)) dX12_session_38 rfl rfl) ?_
    refine zx_lift (pc' := 41) (fun _ => zq_istore (ls' := [.ref 57, .int f1, .int v.1, .int v.2.1, .int (-1 : Int32), .int v.2.2.2.1, .null, .null, .null]) (by decide) rfl rfl dX12_session_39 rfl) ?_
    refine zx_lift (pc' := 42) (fun _ => zq_aload_n rfl rfl dX12_session_41 rfl) ?_
    refine zx_lift (pc' := 45) (fun _ => zt_getI zfr_X12_141 zfd_57_6 dX12_session_42 rfl) ?_
    refine zx_lift (pc' := 46) (fun _ => zq_iconst (v := 1) dX12_session_45 rfl rfl) ?_
    refine zx_lift (pc' := 47) (fun _ => zq_isub dX12_session_46 rfl) ?_
    refine zx_istore (pc' := 49) (ls' := fun x5 => [.ref 57, .int f1, .int v.1, .int v.2.1, .int (-1 : Int32), .int v.2.2.2.1, .int x5, .null, .null]) (by decide) rfl (fun _ => rfl) dX12_session_47 rfl (fun x5 => ?_)
    refine yX12_session_49 N f1 v.1 v.2.1 v.2.2.2.1 _ (fun e11 => ?_) N ((-1 : Int32), x5, v.2.2.2.2)
    refine zx_lift (pc' := 163) (fun _ => zq_iload_n rfl rfl dX12_session_162 rfl) ?_
    refine zx_lift (pc' := 164) (fun _ => zq_iconst (v := 1) dX12_session_163 rfl rfl) ?_
    refine zx_lift (pc' := 166) (fun _ => zq_iload rfl dX12_session_164 rfl) ?_
    refine zx_lift (pc' := 167) (fun _ => zq_ishl dX12_session_166 rfl) ?_
    refine zx_lift (pc' := 168) (fun _ => zq_ior dX12_session_167 rfl) ?_
    refine zx_istore_n (pc' := 169) (ls' := fun x12 => [.ref 57, .int f1, .int x12, .null, .int e11.1, .int v.2.2.2.1, .null, .null, .null]) rfl (by decide) rfl (fun _ => rfl) dX12_session_168 rfl (fun x12 => ?_)
    refine zx_lift (pc' := 170) (fun _ => zq_aload_n rfl rfl dX12_session_169 rfl) ?_
    refine zx_lift (pc' := 173) (fun _ => zt_getR zfr_X12_25 zfd_57_8 dX12_session_170 rfl) ?_
    refine zx_lift (pc' := 175) (fun _ => zq_iload rfl dX12_session_173 rfl) ?_
    refine zx_iaload (pc' := 176) zsh_63 dX12_session_175 rfl ?_
    refine zx_istore_n (pc' := 177) (ls' := fun x13 => [.ref 57, .int f1, .int x12, .int x13, .int e11.1, .int v.2.2.2.1, .null, .null, .null]) rfl (by decide) rfl (fun _ => rfl) dX12_session_176 rfl (fun x13 => ?_)
    refine zx_iinc (pc' := 180) (ls' := fun x14 => [.ref 57, .int f1, .int x12, .int x13, .int e11.1, .int x14, .null, .null, .null]) rfl rfl (by decide) rfl (fun _ => rfl) dX12_session_177 rfl (fun x14 => ?_)
    refine zx_lift (pc' := 32) (fun _ => zq_goto dX12_session_180 rfl) ?_
    exact hself (x12, x13, e11.1, x14, e11.2)
theorem yX12_session_32 (N : Nat)  (f1 : Int32)  (n : Nat) : ∀ v : Int32 × Int32 × Int32 × Int32 × zq_S, zq_X yX12_session RX12 cX12_session 9 (some .int) ⟨6, 0, 0, 143⟩ zv_i 32 [.ref 57, .int f1, .int v.1, .int v.2.1, .int v.2.2.1, .int v.2.2.2.1, .null, .null, .null] [] v.2.2.2.2 (zq_loop (bX12_session_32 N f1 ) n v) := by
  induction n with
  | zero => exact fun v u hu => by cases hu
  | succ n ih =>
    intro v
    rw [zq_loop_s]
    exact xX12_session_32 N f1  (zq_loop (bX12_session_32 N f1 ) n) ih v
def mX12_session (N : Nat)  (p1 : Int32) (s : zq_S) : Option (Int32 × zq_S) :=
  zq_b2 (mX12_in N (Int32.toInt64 p1) (0 : Int64) (Int32.toInt64 ((zgf s 57 6) - (1 : Int32))) s) (fun r1 s2 =>
  if r1 = (0 : Int32) then
  some ((-1 : Int32), s2)
  else
  zq_b2 (mX12_findSessions N s2) (fun r3 s4 =>
  zq_loop (bX12_session_32 N p1 ) N ((0 : Int32), (0 : Int32), (-1 : Int32), (0 : Int32), s4)))
set_option maxRecDepth 20000 in
set_option maxHeartbeats 2000000 in
theorem xX12_session (N : Nat)  (p1 : Int32) (s : zq_S) : zq_X yX12_session RX12 cX12_session 9 (some .int) ⟨6, 0, 0, 143⟩ zv_i 0 [.ref 57, .int p1, .null, .null, .null, .null, .null, .null, .null] [] s (mX12_session N p1 s) := by
  unfold mX12_session
  refine zx_lift (pc' := 1) (fun _ => zq_iload_n rfl rfl dX12_session_0 rfl) ?_
  refine zx_lift (pc' := 2) (fun _ => zq_i2l dX12_session_1 rfl) ?_
  refine zx_lift (pc' := 3) (fun _ => zq_lconst (v := 0) dX12_session_2 rfl rfl) ?_
  refine zx_lift (pc' := 4) (fun _ => zq_aload_n rfl rfl dX12_session_3 rfl) ?_
  refine zx_lift (pc' := 7) (fun _ => zt_getI zfr_X12_141 zfd_57_6 dX12_session_4 rfl) ?_
  refine zx_lift (pc' := 8) (fun _ => zq_iconst (v := 1) dX12_session_7 rfl rfl) ?_
  refine zx_lift (pc' := 9) (fun _ => zq_isub dX12_session_8 rfl) ?_
  refine zx_lift (pc' := 10) (fun _ => zq_i2l dX12_session_9 rfl) ?_
  refine zx_cSi (pc' := 13) zcs_X12_144 (cX12_in_mc N (Int32.toInt64 p1) (0 : Int64) (Int32.toInt64 ((zgf s 57 6) - (1 : Int32))) s) rfl (by decide) (Nat.le_of_ble_eq_true rfl) dX12_session_10 rfl rfl (fun r1 s2 => ?_)
  refine zx_if_ne (pc' := 16) (tgt := 18) dX12_session_13 rfl rfl (fun hc => ?_) (fun hc => ?_)
  · refine zx_lift (pc' := 19) (fun _ => zq_aload_n rfl rfl dX12_session_18 rfl) ?_
    refine zx_cVv (pc' := 22) zcv_X12_322 (cX12_findSessions_mc N s2) zob_57 rfl (by decide) (Nat.le_of_ble_eq_true rfl) dX12_session_19 rfl rfl (fun r3 s4 => ?_)
    refine zx_lift (pc' := 23) (fun _ => zq_iconst (v := 0) dX12_session_22 rfl rfl) ?_
    refine zx_lift (pc' := 24) (fun _ => zq_istore_n (ls' := [.ref 57, .int p1, .int (0 : Int32), .null, .null, .null, .null, .null, .null]) rfl (by decide) rfl rfl dX12_session_23 rfl) ?_
    refine zx_lift (pc' := 25) (fun _ => zq_iconst (v := 0) dX12_session_24 rfl rfl) ?_
    refine zx_lift (pc' := 26) (fun _ => zq_istore_n (ls' := [.ref 57, .int p1, .int (0 : Int32), .int (0 : Int32), .null, .null, .null, .null, .null]) rfl (by decide) rfl rfl dX12_session_25 rfl) ?_
    refine zx_lift (pc' := 27) (fun _ => zq_iconst (v := (-1)) dX12_session_26 rfl rfl) ?_
    refine zx_lift (pc' := 29) (fun _ => zq_istore (ls' := [.ref 57, .int p1, .int (0 : Int32), .int (0 : Int32), .int (-1 : Int32), .null, .null, .null, .null]) (by decide) rfl rfl dX12_session_27 rfl) ?_
    refine zx_lift (pc' := 30) (fun _ => zq_iconst (v := 0) dX12_session_29 rfl rfl) ?_
    refine zx_lift (pc' := 32) (fun _ => zq_istore (ls' := [.ref 57, .int p1, .int (0 : Int32), .int (0 : Int32), .int (-1 : Int32), .int (0 : Int32), .null, .null, .null]) (by decide) rfl rfl dX12_session_30 rfl) ?_
    refine yX12_session_32 N p1  N ((0 : Int32), (0 : Int32), (-1 : Int32), (0 : Int32), s4)
  · refine zx_lift (pc' := 17) (fun _ => zq_iconst (v := (-1)) dX12_session_16 rfl rfl) ?_
    exact zx_iret rfl dX12_session_17
theorem cX12_session_mc (N : Nat)  (p1 : Int32) (s : zq_S) (v : Int32 × zq_S) (h : mX12_session N p1 s = some v) : zq_MC yX12_session cX12_session 9 (some .int) ⟨6, 0, 0, 143⟩ 0 0 [.ref 57, .int p1] (zq_en s) (zv_i v.1, zq_en v.2) := zq_MC_x [.ref 57, .int p1, .null, .null, .null, .null, .null, .null, .null] (by decide +kernel) rfl rfl (Nat.le_of_ble_eq_true rfl) (xX12_session N p1 s) h
def jX12_here_j62 (N : Nat)   (t0 : Int32) (s : zq_S) : Option (Int32 × zq_S) :=
  some (t0, s)
set_option maxRecDepth 20000 in
set_option maxHeartbeats 2000000 in
theorem xX12_here_j62_j (N : Nat)   (t0 : Int32) (s : zq_S) : zq_X yX12_here RX12 cX12_here 1 (some .int) ⟨0, 0, 0, 0⟩ zv_i 62 [.null] [.int t0] s (jX12_here_j62 N t0 s) := by
  unfold jX12_here_j62
  exact zx_iret rfl dX12_here_62
def jX12_here_j38 (N : Nat)    (s : zq_S) : Option (Int32 × zq_S) :=
  if (zgf s 57 16) ≤ (zgf s 57 18) then
  jX12_here_j62 N (-1 : Int32) s
  else
  zq_ck (zgf s 57 18) 400 (
  jX12_here_j62 N (zga s 70 (zgf s 57 18)) s)
set_option maxRecDepth 20000 in
set_option maxHeartbeats 2000000 in
theorem xX12_here_j38_j (N : Nat)    (s : zq_S) : zq_X yX12_here RX12 cX12_here 1 (some .int) ⟨0, 0, 0, 0⟩ zv_i 38 [.ref 57] [] s (jX12_here_j38 N s) := by
  unfold jX12_here_j38
  refine zx_lift (pc' := 39) (fun _ => zq_aload_n rfl rfl dX12_here_38 rfl) ?_
  refine zx_lift (pc' := 42) (fun _ => zt_getI zfr_X12_159 zfd_57_18 dX12_here_39 rfl) ?_
  refine zx_lift (pc' := 43) (fun _ => zq_aload_n rfl rfl dX12_here_42 rfl) ?_
  refine zx_lift (pc' := 46) (fun _ => zt_getI zfr_X12_154 zfd_57_16 dX12_here_43 rfl) ?_
  refine zx_icmp_ge (pc' := 49) (tgt := 61) dX12_here_46 rfl rfl (fun hc => ?_) (fun hc => ?_)
  · refine zx_lift (pc' := 62) (fun _ => zq_iconst (v := (-1)) dX12_here_61 rfl rfl) ?_
    refine zx_less [.null] (zq_cz zq_cn) ?_
    exact xX12_here_j62_j N (-1 : Int32) s
  · refine zx_lift (pc' := 50) (fun _ => zq_aload_n rfl rfl dX12_here_49 rfl) ?_
    refine zx_lift (pc' := 53) (fun _ => zt_getR zfr_X12_47 zfd_57_15 dX12_here_50 rfl) ?_
    refine zx_lift (pc' := 54) (fun _ => zq_aload_n rfl rfl dX12_here_53 rfl) ?_
    refine zx_lift (pc' := 57) (fun _ => zt_getI zfr_X12_159 zfd_57_18 dX12_here_54 rfl) ?_
    refine zx_iaload (pc' := 58) zsh_70 dX12_here_57 rfl ?_
    refine zx_lift (pc' := 62) (fun _ => zq_goto dX12_here_58 rfl) ?_
    refine zx_less [.null] (zq_cz zq_cn) ?_
    exact xX12_here_j62_j N (zga s 70 (zgf s 57 18)) s
def bX12_here_0 (N : Nat)   (k38 : zq_S → Option (Int32 × zq_S)) (self : zq_S → Option (Int32 × zq_S)) (v : zq_S) : Option (Int32 × zq_S) :=
  if (zgf v 57 16) ≤ (zgf v 57 18) then
  k38 v
  else
  zq_ck (zgf v 57 18) 400 (
  if (zga v 70 (zgf v 57 18)) = (32 : Int32) then
  zq_let (zpf v 57 18 ((zgf v 57 18) + (1 : Int32))) (fun s2 =>
  self s2)
  else
  k38 v)
set_option maxRecDepth 20000 in
set_option maxHeartbeats 2000000 in
theorem xX12_here_0 (N : Nat)   (k38 : zq_S → Option (Int32 × zq_S)) (hk38 : ∀ e, zq_X yX12_here RX12 cX12_here 1 (some .int) ⟨0, 0, 0, 0⟩ zv_i 38 [.ref 57] [] e (k38 e)) (self : zq_S → Option (Int32 × zq_S)) (hself : ∀ v, zq_X yX12_here RX12 cX12_here 1 (some .int) ⟨0, 0, 0, 0⟩ zv_i 0 [.ref 57] [] v (self v)) (v : zq_S) : zq_X yX12_here RX12 cX12_here 1 (some .int) ⟨0, 0, 0, 0⟩ zv_i 0 [.ref 57] [] v (bX12_here_0 N k38 self v) := by
  unfold bX12_here_0
  refine zx_lift (pc' := 1) (fun _ => zq_aload_n rfl rfl dX12_here_0 rfl) ?_
  refine zx_lift (pc' := 4) (fun _ => zt_getI zfr_X12_159 zfd_57_18 dX12_here_1 rfl) ?_
  refine zx_lift (pc' := 5) (fun _ => zq_aload_n rfl rfl dX12_here_4 rfl) ?_
  refine zx_lift (pc' := 8) (fun _ => zt_getI zfr_X12_154 zfd_57_16 dX12_here_5 rfl) ?_
  refine zx_icmp_ge (pc' := 11) (tgt := 38) dX12_here_8 rfl rfl (fun hc => ?_) (fun hc => ?_)
  · exact hk38 v
  · refine zx_lift (pc' := 12) (fun _ => zq_aload_n rfl rfl dX12_here_11 rfl) ?_
    refine zx_lift (pc' := 15) (fun _ => zt_getR zfr_X12_47 zfd_57_15 dX12_here_12 rfl) ?_
    refine zx_lift (pc' := 16) (fun _ => zq_aload_n rfl rfl dX12_here_15 rfl) ?_
    refine zx_lift (pc' := 19) (fun _ => zt_getI zfr_X12_159 zfd_57_18 dX12_here_16 rfl) ?_
    refine zx_iaload (pc' := 20) zsh_70 dX12_here_19 rfl ?_
    refine zx_lift (pc' := 22) (fun _ => zq_bipush (v := 32) dX12_here_20 rfl rfl) ?_
    refine zx_icmp_ne (pc' := 25) (tgt := 38) dX12_here_22 rfl rfl (fun hc => ?_) (fun hc => ?_)
    · exact hk38 v
    · refine zx_lift (pc' := 26) (fun _ => zq_aload_n rfl rfl dX12_here_25 rfl) ?_
      refine zx_lift (pc' := 27) (fun _ => zq_dup rfl dX12_here_26 rfl) ?_
      refine zx_lift (pc' := 30) (fun _ => zt_getI zfr_X12_159 zfd_57_18 dX12_here_27 rfl) ?_
      refine zx_lift (pc' := 31) (fun _ => zq_iconst (v := 1) dX12_here_30 rfl rfl) ?_
      refine zx_lift (pc' := 32) (fun _ => zq_iadd dX12_here_31 rfl) ?_
      refine zx_putI (pc' := 35) zfr_X12_159 (fun _ => ⟨rfl, rfl⟩) zfd_57_18 dX12_here_32 rfl (fun s2 => ?_)
      refine zx_lift (pc' := 0) (fun _ => zq_goto dX12_here_35 rfl) ?_
      exact hself s2
theorem yX12_here_0 (N : Nat)   (k38 : zq_S → Option (Int32 × zq_S)) (hk38 : ∀ e, zq_X yX12_here RX12 cX12_here 1 (some .int) ⟨0, 0, 0, 0⟩ zv_i 38 [.ref 57] [] e (k38 e)) (n : Nat) : ∀ v : zq_S, zq_X yX12_here RX12 cX12_here 1 (some .int) ⟨0, 0, 0, 0⟩ zv_i 0 [.ref 57] [] v (zq_loop (bX12_here_0 N k38) n v) := by
  induction n with
  | zero => exact fun v u hu => by cases hu
  | succ n ih =>
    intro v
    rw [zq_loop_s]
    exact xX12_here_0 N k38 hk38 (zq_loop (bX12_here_0 N k38) n) ih v
def mX12_here (N : Nat)   (s : zq_S) : Option (Int32 × zq_S) :=
  if (zgf s 57 16) ≤ (zgf s 57 18) then
  jX12_here_j38 N s
  else
  zq_ck (zgf s 57 18) 400 (
  if (zga s 70 (zgf s 57 18)) = (32 : Int32) then
  zq_let (zpf s 57 18 ((zgf s 57 18) + (1 : Int32))) (fun s1 =>
  zq_loop (bX12_here_0 N (fun e3 =>
  jX12_here_j38 N e3)) N s1)
  else
  jX12_here_j38 N s)
set_option maxRecDepth 20000 in
set_option maxHeartbeats 2000000 in
theorem xX12_here (N : Nat)   (s : zq_S) : zq_X yX12_here RX12 cX12_here 1 (some .int) ⟨0, 0, 0, 0⟩ zv_i 0 [.ref 57] [] s (mX12_here N s) := by
  unfold mX12_here
  refine zx_lift (pc' := 1) (fun _ => zq_aload_n rfl rfl dX12_here_0 rfl) ?_
  refine zx_lift (pc' := 4) (fun _ => zt_getI zfr_X12_159 zfd_57_18 dX12_here_1 rfl) ?_
  refine zx_lift (pc' := 5) (fun _ => zq_aload_n rfl rfl dX12_here_4 rfl) ?_
  refine zx_lift (pc' := 8) (fun _ => zt_getI zfr_X12_154 zfd_57_16 dX12_here_5 rfl) ?_
  refine zx_icmp_ge (pc' := 11) (tgt := 38) dX12_here_8 rfl rfl (fun hc => ?_) (fun hc => ?_)
  · exact xX12_here_j38_j N s
  · refine zx_lift (pc' := 12) (fun _ => zq_aload_n rfl rfl dX12_here_11 rfl) ?_
    refine zx_lift (pc' := 15) (fun _ => zt_getR zfr_X12_47 zfd_57_15 dX12_here_12 rfl) ?_
    refine zx_lift (pc' := 16) (fun _ => zq_aload_n rfl rfl dX12_here_15 rfl) ?_
    refine zx_lift (pc' := 19) (fun _ => zt_getI zfr_X12_159 zfd_57_18 dX12_here_16 rfl) ?_
    refine zx_iaload (pc' := 20) zsh_70 dX12_here_19 rfl ?_
    refine zx_lift (pc' := 22) (fun _ => zq_bipush (v := 32) dX12_here_20 rfl rfl) ?_
    refine zx_icmp_ne (pc' := 25) (tgt := 38) dX12_here_22 rfl rfl (fun hc => ?_) (fun hc => ?_)
    · exact xX12_here_j38_j N s
    · refine zx_lift (pc' := 26) (fun _ => zq_aload_n rfl rfl dX12_here_25 rfl) ?_
      refine zx_lift (pc' := 27) (fun _ => zq_dup rfl dX12_here_26 rfl) ?_
      refine zx_lift (pc' := 30) (fun _ => zt_getI zfr_X12_159 zfd_57_18 dX12_here_27 rfl) ?_
      refine zx_lift (pc' := 31) (fun _ => zq_iconst (v := 1) dX12_here_30 rfl rfl) ?_
      refine zx_lift (pc' := 32) (fun _ => zq_iadd dX12_here_31 rfl) ?_
      refine zx_putI (pc' := 35) zfr_X12_159 (fun _ => ⟨rfl, rfl⟩) zfd_57_18 dX12_here_32 rfl (fun s1 => ?_)
      refine zx_lift (pc' := 0) (fun _ => zq_goto dX12_here_35 rfl) ?_
      refine yX12_here_0 N _ (fun e3 => ?_) N s1
      exact xX12_here_j38_j N e3
theorem cX12_here_mc (N : Nat)   (s : zq_S) (v : Int32 × zq_S) (h : mX12_here N s = some v) : zq_MC yX12_here cX12_here 1 (some .int) ⟨0, 0, 0, 0⟩ 0 0 [.ref 57] (zq_en s) (zv_i v.1, zq_en v.2) := zq_MC_x [.ref 57] (by decide +kernel) rfl rfl (Nat.le_of_ble_eq_true rfl) (xX12_here N s) h
def mX12_fails (N : Nat)  (p1 : Int32) (p2 : Int32) (s : zq_S) : Option (Int32 × zq_S) :=
  zq_let (zpf s 57 17 p2) (fun s1 =>
  some (p1, s1))
set_option maxRecDepth 20000 in
set_option maxHeartbeats 2000000 in
theorem xX12_fails (N : Nat)  (p1 : Int32) (p2 : Int32) (s : zq_S) : zq_X yX12_fails RX12 cX12_fails 3 (some .int) ⟨0, 0, 0, 0⟩ zv_i 0 [.ref 57, .int p1, .int p2] [] s (mX12_fails N p1 p2 s) := by
  unfold mX12_fails
  refine zx_lift (pc' := 1) (fun _ => zq_aload_n rfl rfl dX12_fails_0 rfl) ?_
  refine zx_lift (pc' := 2) (fun _ => zq_iload_n rfl rfl dX12_fails_1 rfl) ?_
  refine zx_putI (pc' := 5) zfr_X12_50 (fun _ => ⟨rfl, rfl⟩) zfd_57_17 dX12_fails_2 rfl (fun s1 => ?_)
  refine zx_lift (pc' := 6) (fun _ => zq_iload_n rfl rfl dX12_fails_5 rfl) ?_
  exact zx_iret rfl dX12_fails_6
theorem cX12_fails_mc (N : Nat)  (p1 : Int32) (p2 : Int32) (s : zq_S) (v : Int32 × zq_S) (h : mX12_fails N p1 p2 s = some v) : zq_MC yX12_fails cX12_fails 3 (some .int) ⟨0, 0, 0, 0⟩ 0 0 [.ref 57, .int p1, .int p2] (zq_en s) (zv_i v.1, zq_en v.2) := zq_MC_x [.ref 57, .int p1, .int p2] (by decide +kernel) rfl rfl (Nat.le_of_ble_eq_true rfl) (xX12_fails N p1 p2 s) h
def jX12_takeNumber_j113 (N : Nat)  (f1 : Int32) (k129 : zq_S → Option (Int32 × zq_S)) (self : zq_S → Option (Int32 × zq_S)) (t0 : Int32) (s : zq_S) : Option (Int32 × zq_S) :=
  zq_let (zpf s 57 19 t0) (fun s9 =>
  zq_let (zpf s9 57 18 ((zgf s9 57 18) + (1 : Int32))) (fun s10 =>
  self s10))
set_option maxRecDepth 20000 in
set_option maxHeartbeats 2000000 in
theorem xX12_takeNumber_j113_j (N : Nat)  (f1 : Int32) (k129 : zq_S → Option (Int32 × zq_S)) (hk129 : ∀ e, zq_X yX12_takeNumber RX12 cX12_takeNumber 3 (some .int) ⟨1, 0, 0, 25⟩ zv_i 129 [.ref 57, .int f1, .null] [] e (k129 e)) (self : zq_S → Option (Int32 × zq_S)) (hself : ∀ v, zq_X yX12_takeNumber RX12 cX12_takeNumber 3 (some .int) ⟨1, 0, 0, 25⟩ zv_i 42 [.ref 57, .int f1, .null] [] v (self v)) (t0 : Int32) (s : zq_S) : zq_X yX12_takeNumber RX12 cX12_takeNumber 3 (some .int) ⟨1, 0, 0, 25⟩ zv_i 113 [.ref 57, .int f1, .null] [.int t0, .ref 57] s (jX12_takeNumber_j113 N f1 k129 self t0 s) := by
  unfold jX12_takeNumber_j113
  refine zx_putI (pc' := 116) zfr_X12_176 (fun _ => ⟨rfl, rfl⟩) zfd_57_19 dX12_takeNumber_113 rfl (fun s9 => ?_)
  refine zx_lift (pc' := 117) (fun _ => zq_aload_n rfl rfl dX12_takeNumber_116 rfl) ?_
  refine zx_lift (pc' := 118) (fun _ => zq_dup rfl dX12_takeNumber_117 rfl) ?_
  refine zx_lift (pc' := 121) (fun _ => zt_getI zfr_X12_159 zfd_57_18 dX12_takeNumber_118 rfl) ?_
  refine zx_lift (pc' := 122) (fun _ => zq_iconst (v := 1) dX12_takeNumber_121 rfl rfl) ?_
  refine zx_lift (pc' := 123) (fun _ => zq_iadd dX12_takeNumber_122 rfl) ?_
  refine zx_putI (pc' := 126) zfr_X12_159 (fun _ => ⟨rfl, rfl⟩) zfd_57_18 dX12_takeNumber_123 rfl (fun s10 => ?_)
  refine zx_lift (pc' := 42) (fun _ => zq_goto dX12_takeNumber_126 rfl) ?_
  exact hself s10
def bX12_takeNumber_42 (N : Nat)  (f1 : Int32) (k129 : zq_S → Option (Int32 × zq_S)) (self : zq_S → Option (Int32 × zq_S)) (v : zq_S) : Option (Int32 × zq_S) :=
  if (zgf v 57 16) ≤ (zgf v 57 18) then
  k129 v
  else
  zq_ck (zgf v 57 18) 400 (
  zq_b2 (mX12_in N (Int32.toInt64 (zga v 70 (zgf v 57 18))) (48 : Int64) (57 : Int64) v) (fun r7 s8 =>
  if r7 = (0 : Int32) then
  k129 s8
  else
  if (zgf s8 57 19) ≤ (1000 : Int32) then
  zq_ck (zgf s8 57 18) 400 (
  jX12_takeNumber_j113 N f1 k129 self ((((10 : Int32) * (zgf s8 57 19)) + (zga s8 70 (zgf s8 57 18))) - (48 : Int32)) s8)
  else
  jX12_takeNumber_j113 N f1 k129 self (zgf s8 57 19) s8))
set_option maxRecDepth 20000 in
set_option maxHeartbeats 2000000 in
theorem xX12_takeNumber_42 (N : Nat)  (f1 : Int32) (k129 : zq_S → Option (Int32 × zq_S)) (hk129 : ∀ e, zq_X yX12_takeNumber RX12 cX12_takeNumber 3 (some .int) ⟨1, 0, 0, 25⟩ zv_i 129 [.ref 57, .int f1, .null] [] e (k129 e)) (self : zq_S → Option (Int32 × zq_S)) (hself : ∀ v, zq_X yX12_takeNumber RX12 cX12_takeNumber 3 (some .int) ⟨1, 0, 0, 25⟩ zv_i 42 [.ref 57, .int f1, .null] [] v (self v)) (v : zq_S) : zq_X yX12_takeNumber RX12 cX12_takeNumber 3 (some .int) ⟨1, 0, 0, 25⟩ zv_i 42 [.ref 57, .int f1, .null] [] v (bX12_takeNumber_42 N f1 k129 self v) := by
  unfold bX12_takeNumber_42
  refine zx_lift (pc' := 43) (fun _ => zq_aload_n rfl rfl dX12_takeNumber_42 rfl) ?_
  refine zx_lift (pc' := 46) (fun _ => zt_getI zfr_X12_159 zfd_57_18 dX12_takeNumber_43 rfl) ?_
  refine zx_lift (pc' := 47) (fun _ => zq_aload_n rfl rfl dX12_takeNumber_46 rfl) ?_
  refine zx_lift (pc' := 50) (fun _ => zt_getI zfr_X12_154 zfd_57_16 dX12_takeNumber_47 rfl) ?_
  refine zx_icmp_ge (pc' := 53) (tgt := 129) dX12_takeNumber_50 rfl rfl (fun hc => ?_) (fun hc => ?_)
  · exact hk129 v
  · refine zx_lift (pc' := 54) (fun _ => zq_aload_n rfl rfl dX12_takeNumber_53 rfl) ?_
    refine zx_lift (pc' := 57) (fun _ => zt_getR zfr_X12_47 zfd_57_15 dX12_takeNumber_54 rfl) ?_
    refine zx_lift (pc' := 58) (fun _ => zq_aload_n rfl rfl dX12_takeNumber_57 rfl) ?_
    refine zx_lift (pc' := 61) (fun _ => zt_getI zfr_X12_159 zfd_57_18 dX12_takeNumber_58 rfl) ?_
    refine zx_iaload (pc' := 62) zsh_70 dX12_takeNumber_61 rfl ?_
    refine zx_lift (pc' := 63) (fun _ => zq_i2l dX12_takeNumber_62 rfl) ?_
    refine zx_lift (pc' := 66) (fun _ => zq_ldc2 zk_X12_165 dX12_takeNumber_63 rfl) ?_
    refine zx_lift (pc' := 69) (fun _ => zq_ldc2 zk_X12_167 dX12_takeNumber_66 rfl) ?_
    refine zx_cSi (pc' := 72) zcs_X12_144 (cX12_in_mc N (Int32.toInt64 (zga v 70 (zgf v 57 18))) (48 : Int64) (57 : Int64) v) rfl (by decide) (Nat.le_of_ble_eq_true rfl) dX12_takeNumber_69 rfl rfl (fun r7 s8 => ?_)
    refine zx_if_eq (pc' := 75) (tgt := 129) dX12_takeNumber_72 rfl rfl (fun hc => ?_) (fun hc => ?_)
    · exact hk129 s8
    · refine zx_lift (pc' := 76) (fun _ => zq_aload_n rfl rfl dX12_takeNumber_75 rfl) ?_
      refine zx_lift (pc' := 77) (fun _ => zq_aload_n rfl rfl dX12_takeNumber_76 rfl) ?_
      refine zx_lift (pc' := 80) (fun _ => zt_getI zfr_X12_176 zfd_57_19 dX12_takeNumber_77 rfl) ?_
      refine zx_lift (pc' := 83) (fun _ => zq_sipush (v := 1000) dX12_takeNumber_80 rfl rfl) ?_
      refine zx_icmp_le (pc' := 86) (tgt := 93) dX12_takeNumber_83 rfl rfl (fun hc => ?_) (fun hc => ?_)
      · refine zx_lift (pc' := 95) (fun _ => zq_bipush (v := 10) dX12_takeNumber_93 rfl rfl) ?_
        refine zx_lift (pc' := 96) (fun _ => zq_aload_n rfl rfl dX12_takeNumber_95 rfl) ?_
        refine zx_lift (pc' := 99) (fun _ => zt_getI zfr_X12_176 zfd_57_19 dX12_takeNumber_96 rfl) ?_
        refine zx_lift (pc' := 100) (fun _ => zq_imul dX12_takeNumber_99 rfl) ?_
        refine zx_lift (pc' := 101) (fun _ => zq_aload_n rfl rfl dX12_takeNumber_100 rfl) ?_
        refine zx_lift (pc' := 104) (fun _ => zt_getR zfr_X12_47 zfd_57_15 dX12_takeNumber_101 rfl) ?_
        refine zx_lift (pc' := 105) (fun _ => zq_aload_n rfl rfl dX12_takeNumber_104 rfl) ?_
        refine zx_lift (pc' := 108) (fun _ => zt_getI zfr_X12_159 zfd_57_18 dX12_takeNumber_105 rfl) ?_
        refine zx_iaload (pc' := 109) zsh_70 dX12_takeNumber_108 rfl ?_
        refine zx_lift (pc' := 110) (fun _ => zq_iadd dX12_takeNumber_109 rfl) ?_
        refine zx_lift (pc' := 112) (fun _ => zq_bipush (v := 48) dX12_takeNumber_110 rfl rfl) ?_
        refine zx_lift (pc' := 113) (fun _ => zq_isub dX12_takeNumber_112 rfl) ?_
        exact xX12_takeNumber_j113_j N f1 k129 hk129 self hself ((((10 : Int32) * (zgf s8 57 19)) + (zga s8 70 (zgf s8 57 18))) - (48 : Int32)) s8
      · refine zx_lift (pc' := 87) (fun _ => zq_aload_n rfl rfl dX12_takeNumber_86 rfl) ?_
        refine zx_lift (pc' := 90) (fun _ => zt_getI zfr_X12_176 zfd_57_19 dX12_takeNumber_87 rfl) ?_
        refine zx_lift (pc' := 113) (fun _ => zq_goto dX12_takeNumber_90 rfl) ?_
        exact xX12_takeNumber_j113_j N f1 k129 hk129 self hself (zgf s8 57 19) s8
theorem yX12_takeNumber_42 (N : Nat)  (f1 : Int32) (k129 : zq_S → Option (Int32 × zq_S)) (hk129 : ∀ e, zq_X yX12_takeNumber RX12 cX12_takeNumber 3 (some .int) ⟨1, 0, 0, 25⟩ zv_i 129 [.ref 57, .int f1, .null] [] e (k129 e)) (n : Nat) : ∀ v : zq_S, zq_X yX12_takeNumber RX12 cX12_takeNumber 3 (some .int) ⟨1, 0, 0, 25⟩ zv_i 42 [.ref 57, .int f1, .null] [] v (zq_loop (bX12_takeNumber_42 N f1 k129) n v) := by
  induction n with
  | zero => exact fun v u hu => by cases hu
  | succ n ih =>
    intro v
    rw [zq_loop_s]
    exact xX12_takeNumber_42 N f1 k129 hk129 (zq_loop (bX12_takeNumber_42 N f1 k129) n) ih v
def jX12_takeNumber_j163 (N : Nat)   (t0 : Int32) (s : zq_S) : Option (Int32 × zq_S) :=
  some (t0, s)
set_option maxRecDepth 20000 in
set_option maxHeartbeats 2000000 in
theorem xX12_takeNumber_j163_j (N : Nat)   (t0 : Int32) (s : zq_S) : zq_X yX12_takeNumber RX12 cX12_takeNumber 3 (some .int) ⟨1, 0, 0, 25⟩ zv_i 163 [.null, .null, .null] [.int t0] s (jX12_takeNumber_j163 N t0 s) := by
  unfold jX12_takeNumber_j163
  exact zx_iret rfl dX12_takeNumber_163
def jX12_takeNumber_j150 (N : Nat)    (s : zq_S) : Option (Int32 × zq_S) :=
  zq_b2 (mX12_fails N (2 : Int32) (zgf s 57 20) s) (fun r12 s13 =>
  jX12_takeNumber_j163 N r12 s13)
set_option maxRecDepth 20000 in
set_option maxHeartbeats 2000000 in
theorem xX12_takeNumber_j150_j (N : Nat)    (s : zq_S) : zq_X yX12_takeNumber RX12 cX12_takeNumber 3 (some .int) ⟨1, 0, 0, 25⟩ zv_i 150 [.ref 57, .null, .null] [] s (jX12_takeNumber_j150 N s) := by
  unfold jX12_takeNumber_j150
  refine zx_lift (pc' := 151) (fun _ => zq_aload_n rfl rfl dX12_takeNumber_150 rfl) ?_
  refine zx_lift (pc' := 152) (fun _ => zq_iconst (v := 2) dX12_takeNumber_151 rfl rfl) ?_
  refine zx_lift (pc' := 153) (fun _ => zq_aload_n rfl rfl dX12_takeNumber_152 rfl) ?_
  refine zx_lift (pc' := 156) (fun _ => zt_getI zfr_X12_173 zfd_57_20 dX12_takeNumber_153 rfl) ?_
  refine zx_cVi (pc' := 159) zcv_X12_169 (cX12_fails_mc N (2 : Int32) (zgf s 57 20) s) zob_57 rfl (by decide) (Nat.le_of_ble_eq_true rfl) dX12_takeNumber_156 rfl rfl (fun r12 s13 => ?_)
  refine zx_lift (pc' := 163) (fun _ => zq_goto dX12_takeNumber_159 rfl) ?_
  refine zx_less [.null, .null, .null] (zq_cz (zq_cz (zq_cz zq_cn))) ?_
  exact xX12_takeNumber_j163_j N r12 s13
def jX12_takeNumber_j129 (N : Nat)   (w1 : Int32) (s : zq_S) : Option (Int32 × zq_S) :=
  if (2 : Int32) < ((zgf s 57 18) - (zgf s 57 20)) then
  jX12_takeNumber_j150 N s
  else
  if (zgf s 57 19) ≤ w1 then
  jX12_takeNumber_j163 N (0 : Int32) s
  else
  jX12_takeNumber_j150 N s
set_option maxRecDepth 20000 in
set_option maxHeartbeats 2000000 in
theorem xX12_takeNumber_j129_j (N : Nat)   (w1 : Int32) (s : zq_S) : zq_X yX12_takeNumber RX12 cX12_takeNumber 3 (some .int) ⟨1, 0, 0, 25⟩ zv_i 129 [.ref 57, .int w1, .null] [] s (jX12_takeNumber_j129 N w1 s) := by
  unfold jX12_takeNumber_j129
  refine zx_lift (pc' := 130) (fun _ => zq_aload_n rfl rfl dX12_takeNumber_129 rfl) ?_
  refine zx_lift (pc' := 133) (fun _ => zt_getI zfr_X12_159 zfd_57_18 dX12_takeNumber_130 rfl) ?_
  refine zx_lift (pc' := 134) (fun _ => zq_aload_n rfl rfl dX12_takeNumber_133 rfl) ?_
  refine zx_lift (pc' := 137) (fun _ => zt_getI zfr_X12_173 zfd_57_20 dX12_takeNumber_134 rfl) ?_
  refine zx_lift (pc' := 138) (fun _ => zq_isub dX12_takeNumber_137 rfl) ?_
  refine zx_lift (pc' := 139) (fun _ => zq_iconst (v := 2) dX12_takeNumber_138 rfl rfl) ?_
  refine zx_icmp_gt (pc' := 142) (tgt := 150) dX12_takeNumber_139 rfl rfl (fun hc => ?_) (fun hc => ?_)
  · refine zx_less [.ref 57, .null, .null] (zq_cr (zq_cz (zq_cz zq_cn))) ?_
    exact xX12_takeNumber_j150_j N s
  · refine zx_lift (pc' := 143) (fun _ => zq_aload_n rfl rfl dX12_takeNumber_142 rfl) ?_
    refine zx_lift (pc' := 146) (fun _ => zt_getI zfr_X12_176 zfd_57_19 dX12_takeNumber_143 rfl) ?_
    refine zx_lift (pc' := 147) (fun _ => zq_iload_n rfl rfl dX12_takeNumber_146 rfl) ?_
    refine zx_icmp_le (pc' := 150) (tgt := 162) dX12_takeNumber_147 rfl rfl (fun hc => ?_) (fun hc => ?_)
    · refine zx_lift (pc' := 163) (fun _ => zq_iconst (v := 0) dX12_takeNumber_162 rfl rfl) ?_
      refine zx_less [.null, .null, .null] (zq_cz (zq_cz (zq_cz zq_cn))) ?_
      exact xX12_takeNumber_j163_j N (0 : Int32) s
    · refine zx_less [.ref 57, .null, .null] (zq_cr (zq_cz (zq_cz zq_cn))) ?_
      exact xX12_takeNumber_j150_j N s
def mX12_takeNumber (N : Nat)  (p1 : Int32) (s : zq_S) : Option (Int32 × zq_S) :=
  zq_b2 (mX12_here N s) (fun r1 s2 =>
  zq_b2 (mX12_in N (Int32.toInt64 r1) (48 : Int64) (57 : Int64) s2) (fun r3 s4 =>
  if r3 = (0 : Int32) then
  zq_b2 (mX12_fails N (1 : Int32) (zgf s4 57 18) s4) (fun r14 s15 =>
  some (r14, s15))
  else
  zq_let (zpf s4 57 20 (zgf s4 57 18)) (fun s5 =>
  zq_let (zpf s5 57 19 (0 : Int32)) (fun s6 =>
  zq_loop (bX12_takeNumber_42 N p1 (fun e11 =>
  jX12_takeNumber_j129 N p1 e11)) N s6))))
set_option maxRecDepth 20000 in
set_option maxHeartbeats 2000000 in
theorem xX12_takeNumber (N : Nat)  (p1 : Int32) (s : zq_S) : zq_X yX12_takeNumber RX12 cX12_takeNumber 3 (some .int) ⟨1, 0, 0, 25⟩ zv_i 0 [.ref 57, .int p1, .null] [] s (mX12_takeNumber N p1 s) := by
  unfold mX12_takeNumber
  refine zx_lift (pc' := 1) (fun _ => zq_aload_n rfl rfl dX12_takeNumber_0 rfl) ?_
  refine zx_cVi (pc' := 4) zcv_X12_162 (cX12_here_mc N s) zob_57 rfl (by decide) (Nat.le_of_ble_eq_true rfl) dX12_takeNumber_1 rfl rfl (fun r1 s2 => ?_)
  refine zx_lift (pc' := 5) (fun _ => zq_istore_n (ls' := [.ref 57, .int p1, .int r1]) rfl (by decide) rfl rfl dX12_takeNumber_4 rfl) ?_
  refine zx_lift (pc' := 6) (fun _ => zq_iload_n rfl rfl dX12_takeNumber_5 rfl) ?_
  refine zx_lift (pc' := 7) (fun _ => zq_i2l dX12_takeNumber_6 rfl) ?_
  refine zx_lift (pc' := 10) (fun _ => zq_ldc2 zk_X12_165 dX12_takeNumber_7 rfl) ?_
  refine zx_lift (pc' := 13) (fun _ => zq_ldc2 zk_X12_167 dX12_takeNumber_10 rfl) ?_
  refine zx_cSi (pc' := 16) zcs_X12_144 (cX12_in_mc N (Int32.toInt64 r1) (48 : Int64) (57 : Int64) s2) rfl (by decide) (Nat.le_of_ble_eq_true rfl) dX12_takeNumber_13 rfl rfl (fun r3 s4 => ?_)
  refine zx_if_ne (pc' := 19) (tgt := 29) dX12_takeNumber_16 rfl rfl (fun hc => ?_) (fun hc => ?_)
  · refine zx_lift (pc' := 30) (fun _ => zq_aload_n rfl rfl dX12_takeNumber_29 rfl) ?_
    refine zx_lift (pc' := 31) (fun _ => zq_aload_n rfl rfl dX12_takeNumber_30 rfl) ?_
    refine zx_lift (pc' := 34) (fun _ => zt_getI zfr_X12_159 zfd_57_18 dX12_takeNumber_31 rfl) ?_
    refine zx_putI (pc' := 37) zfr_X12_173 (fun _ => ⟨rfl, rfl⟩) zfd_57_20 dX12_takeNumber_34 rfl (fun s5 => ?_)
    refine zx_lift (pc' := 38) (fun _ => zq_aload_n rfl rfl dX12_takeNumber_37 rfl) ?_
    refine zx_lift (pc' := 39) (fun _ => zq_iconst (v := 0) dX12_takeNumber_38 rfl rfl) ?_
    refine zx_putI (pc' := 42) zfr_X12_176 (fun _ => ⟨rfl, rfl⟩) zfd_57_19 dX12_takeNumber_39 rfl (fun s6 => ?_)
    refine zx_less [.ref 57, .int p1, .null] (zq_cr (zq_cr (zq_cz zq_cn))) ?_
    refine yX12_takeNumber_42 N p1 _ (fun e11 => ?_) N s6
    exact xX12_takeNumber_j129_j N p1 e11
  · refine zx_lift (pc' := 20) (fun _ => zq_aload_n rfl rfl dX12_takeNumber_19 rfl) ?_
    refine zx_lift (pc' := 21) (fun _ => zq_iconst (v := 1) dX12_takeNumber_20 rfl rfl) ?_
    refine zx_lift (pc' := 22) (fun _ => zq_aload_n rfl rfl dX12_takeNumber_21 rfl) ?_
    refine zx_lift (pc' := 25) (fun _ => zt_getI zfr_X12_159 zfd_57_18 dX12_takeNumber_22 rfl) ?_
    refine zx_cVi (pc' := 28) zcv_X12_169 (cX12_fails_mc N (1 : Int32) (zgf s4 57 18) s4) zob_57 rfl (by decide) (Nat.le_of_ble_eq_true rfl) dX12_takeNumber_25 rfl rfl (fun r14 s15 => ?_)
    exact zx_iret rfl dX12_takeNumber_28
theorem cX12_takeNumber_mc (N : Nat)  (p1 : Int32) (s : zq_S) (v : Int32 × zq_S) (h : mX12_takeNumber N p1 s = some v) : zq_MC yX12_takeNumber cX12_takeNumber 3 (some .int) ⟨1, 0, 0, 25⟩ 0 0 [.ref 57, .int p1] (zq_en s) (zv_i v.1, zq_en v.2) := zq_MC_x [.ref 57, .int p1, .null] (by decide +kernel) rfl rfl (Nat.le_of_ble_eq_true rfl) (xX12_takeNumber N p1 s) h
def mX12_takeMark (N : Nat)   (s : zq_S) : Option (Int32 × zq_S) :=
  zq_b2 (mX12_takeNumber N (9 : Int32) s) (fun r1 s2 =>
  if r1 ≤ (0 : Int32) then
  zq_b2 (mX12_has N (zgf s2 57 28) (zgf s2 57 19) s2) (fun r3 s4 =>
  if r3 = (0 : Int32) then
  zq_let (zpf s4 57 28 ((zgf s4 57 28) ||| ((1 : Int32) <<< ((zgf s4 57 19) &&& 31)))) (fun s5 =>
  some ((0 : Int32), s5))
  else
  zq_b2 (mX12_fails N (3 : Int32) (zgf s4 57 20) s4) (fun r6 s7 =>
  some (r6, s7)))
  else
  some (r1, s2))
set_option maxRecDepth 20000 in
set_option maxHeartbeats 2000000 in
theorem xX12_takeMark (N : Nat)   (s : zq_S) : zq_X yX12_takeMark RX12 cX12_takeMark 2 (some .int) ⟨2, 0, 0, 47⟩ zv_i 0 [.ref 57, .null] [] s (mX12_takeMark N s) := by
  unfold mX12_takeMark
  refine zx_lift (pc' := 1) (fun _ => zq_aload_n rfl rfl dX12_takeMark_0 rfl) ?_
  refine zx_lift (pc' := 3) (fun _ => zq_bipush (v := 9) dX12_takeMark_1 rfl rfl) ?_
  refine zx_cVi (pc' := 6) zcv_X12_182 (cX12_takeNumber_mc N (9 : Int32) s) zob_57 rfl (by decide) (Nat.le_of_ble_eq_true rfl) dX12_takeMark_3 rfl rfl (fun r1 s2 => ?_)
  refine zx_lift (pc' := 7) (fun _ => zq_istore_n (ls' := [.ref 57, .int r1]) rfl (by decide) rfl rfl dX12_takeMark_6 rfl) ?_
  refine zx_lift (pc' := 8) (fun _ => zq_iload_n rfl rfl dX12_takeMark_7 rfl) ?_
  refine zx_if_le (pc' := 11) (tgt := 13) dX12_takeMark_8 rfl rfl (fun hc => ?_) (fun hc => ?_)
  · refine zx_lift (pc' := 14) (fun _ => zq_aload_n rfl rfl dX12_takeMark_13 rfl) ?_
    refine zx_lift (pc' := 17) (fun _ => zt_getI zfr_X12_186 zfd_57_28 dX12_takeMark_14 rfl) ?_
    refine zx_lift (pc' := 18) (fun _ => zq_aload_n rfl rfl dX12_takeMark_17 rfl) ?_
    refine zx_lift (pc' := 21) (fun _ => zt_getI zfr_X12_176 zfd_57_19 dX12_takeMark_18 rfl) ?_
    refine zx_cSi (pc' := 24) zcs_X12_189 (cX12_has_mc N (zgf s2 57 28) (zgf s2 57 19) s2) rfl (by decide) (Nat.le_of_ble_eq_true rfl) dX12_takeMark_21 rfl rfl (fun r3 s4 => ?_)
    refine zx_if_eq (pc' := 27) (tgt := 37) dX12_takeMark_24 rfl rfl (fun hc => ?_) (fun hc => ?_)
    · refine zx_lift (pc' := 38) (fun _ => zq_aload_n rfl rfl dX12_takeMark_37 rfl) ?_
      refine zx_lift (pc' := 39) (fun _ => zq_dup rfl dX12_takeMark_38 rfl) ?_
      refine zx_lift (pc' := 42) (fun _ => zt_getI zfr_X12_186 zfd_57_28 dX12_takeMark_39 rfl) ?_
      refine zx_lift (pc' := 43) (fun _ => zq_iconst (v := 1) dX12_takeMark_42 rfl rfl) ?_
      refine zx_lift (pc' := 44) (fun _ => zq_aload_n rfl rfl dX12_takeMark_43 rfl) ?_
      refine zx_lift (pc' := 47) (fun _ => zt_getI zfr_X12_176 zfd_57_19 dX12_takeMark_44 rfl) ?_
      refine zx_lift (pc' := 48) (fun _ => zq_ishl dX12_takeMark_47 rfl) ?_
      refine zx_lift (pc' := 49) (fun _ => zq_ior dX12_takeMark_48 rfl) ?_
      refine zx_putI (pc' := 52) zfr_X12_186 (fun _ => ⟨rfl, rfl⟩) zfd_57_28 dX12_takeMark_49 rfl (fun s5 => ?_)
      refine zx_lift (pc' := 53) (fun _ => zq_iconst (v := 0) dX12_takeMark_52 rfl rfl) ?_
      exact zx_iret rfl dX12_takeMark_53
    · refine zx_lift (pc' := 28) (fun _ => zq_aload_n rfl rfl dX12_takeMark_27 rfl) ?_
      refine zx_lift (pc' := 29) (fun _ => zq_iconst (v := 3) dX12_takeMark_28 rfl rfl) ?_
      refine zx_lift (pc' := 30) (fun _ => zq_aload_n rfl rfl dX12_takeMark_29 rfl) ?_
      refine zx_lift (pc' := 33) (fun _ => zt_getI zfr_X12_173 zfd_57_20 dX12_takeMark_30 rfl) ?_
      refine zx_cVi (pc' := 36) zcv_X12_169 (cX12_fails_mc N (3 : Int32) (zgf s4 57 20) s4) zob_57 rfl (by decide) (Nat.le_of_ble_eq_true rfl) dX12_takeMark_33 rfl rfl (fun r6 s7 => ?_)
      exact zx_iret rfl dX12_takeMark_36
  · refine zx_lift (pc' := 12) (fun _ => zq_iload_n rfl rfl dX12_takeMark_11 rfl) ?_
    exact zx_iret rfl dX12_takeMark_12
theorem cX12_takeMark_mc (N : Nat)   (s : zq_S) (v : Int32 × zq_S) (h : mX12_takeMark N s = some v) : zq_MC yX12_takeMark cX12_takeMark 2 (some .int) ⟨2, 0, 0, 47⟩ 0 0 [.ref 57] (zq_en s) (zv_i v.1, zq_en v.2) := zq_MC_x [.ref 57, .null] (by decide +kernel) rfl rfl (Nat.le_of_ble_eq_true rfl) (xX12_takeMark N s) h
def mX12_addSign (N : Nat)  (p1 : Int32) (p2 : Int32) (p3 : Int32) (p4 : Int32) (s : zq_S) : Option (Unit × zq_S) :=
  zq_ck (zgf s 57 21) 400 (
  zq_let (zpa s 71 (zgf s 57 21) p1) (fun s1 =>
  zq_ck (zgf s1 57 21) 400 (
  zq_let (zpa s1 72 (zgf s1 57 21) p2) (fun s2 =>
  zq_ck (zgf s2 57 21) 400 (
  zq_let (zpa s2 73 (zgf s2 57 21) p3) (fun s3 =>
  zq_ck (zgf s3 57 21) 400 (
  zq_let (zpa s3 74 (zgf s3 57 21) (-1 : Int32)) (fun s4 =>
  zq_ck (zgf s4 57 21) 400 (
  zq_let (zpa s4 75 (zgf s4 57 21) p4) (fun s5 =>
  zq_let (zpf s5 57 21 ((zgf s5 57 21) + (1 : Int32))) (fun s6 =>
  some ((), s6))))))))))))
set_option maxRecDepth 20000 in
set_option maxHeartbeats 2000000 in
theorem xX12_addSign (N : Nat)  (p1 : Int32) (p2 : Int32) (p3 : Int32) (p4 : Int32) (s : zq_S) : zq_X yX12_addSign RX12 cX12_addSign 5 none ⟨0, 0, 0, 0⟩ zv_v 0 [.ref 57, .int p1, .int p2, .int p3, .int p4] [] s (mX12_addSign N p1 p2 p3 p4 s) := by
  unfold mX12_addSign
  refine zx_lift (pc' := 1) (fun _ => zq_aload_n rfl rfl dX12_addSign_0 rfl) ?_
  refine zx_lift (pc' := 4) (fun _ => zt_getR zfr_X12_54 zfd_57_22 dX12_addSign_1 rfl) ?_
  refine zx_lift (pc' := 5) (fun _ => zq_aload_n rfl rfl dX12_addSign_4 rfl) ?_
  refine zx_lift (pc' := 8) (fun _ => zt_getI zfr_X12_179 zfd_57_21 dX12_addSign_5 rfl) ?_
  refine zx_lift (pc' := 9) (fun _ => zq_iload_n rfl rfl dX12_addSign_8 rfl) ?_
  refine zx_iastore (pc' := 10) zsh_71 dX12_addSign_9 rfl (fun s1 => ?_)
  refine zx_lift (pc' := 11) (fun _ => zq_aload_n rfl rfl dX12_addSign_10 rfl) ?_
  refine zx_lift (pc' := 14) (fun _ => zt_getR zfr_X12_57 zfd_57_23 dX12_addSign_11 rfl) ?_
  refine zx_lift (pc' := 15) (fun _ => zq_aload_n rfl rfl dX12_addSign_14 rfl) ?_
  refine zx_lift (pc' := 18) (fun _ => zt_getI zfr_X12_179 zfd_57_21 dX12_addSign_15 rfl) ?_
  refine zx_lift (pc' := 19) (fun _ => zq_iload_n rfl rfl dX12_addSign_18 rfl) ?_
  refine zx_iastore (pc' := 20) zsh_72 dX12_addSign_19 rfl (fun s2 => ?_)
  refine zx_lift (pc' := 21) (fun _ => zq_aload_n rfl rfl dX12_addSign_20 rfl) ?_
  refine zx_lift (pc' := 24) (fun _ => zt_getR zfr_X12_60 zfd_57_24 dX12_addSign_21 rfl) ?_
  refine zx_lift (pc' := 25) (fun _ => zq_aload_n rfl rfl dX12_addSign_24 rfl) ?_
  refine zx_lift (pc' := 28) (fun _ => zt_getI zfr_X12_179 zfd_57_21 dX12_addSign_25 rfl) ?_
  refine zx_lift (pc' := 29) (fun _ => zq_iload_n rfl rfl dX12_addSign_28 rfl) ?_
  refine zx_iastore (pc' := 30) zsh_73 dX12_addSign_29 rfl (fun s3 => ?_)
  refine zx_lift (pc' := 31) (fun _ => zq_aload_n rfl rfl dX12_addSign_30 rfl) ?_
  refine zx_lift (pc' := 34) (fun _ => zt_getR zfr_X12_63 zfd_57_25 dX12_addSign_31 rfl) ?_
  refine zx_lift (pc' := 35) (fun _ => zq_aload_n rfl rfl dX12_addSign_34 rfl) ?_
  refine zx_lift (pc' := 38) (fun _ => zt_getI zfr_X12_179 zfd_57_21 dX12_addSign_35 rfl) ?_
  refine zx_lift (pc' := 39) (fun _ => zq_iconst (v := (-1)) dX12_addSign_38 rfl rfl) ?_
  refine zx_iastore (pc' := 40) zsh_74 dX12_addSign_39 rfl (fun s4 => ?_)
  refine zx_lift (pc' := 41) (fun _ => zq_aload_n rfl rfl dX12_addSign_40 rfl) ?_
  refine zx_lift (pc' := 44) (fun _ => zt_getR zfr_X12_66 zfd_57_26 dX12_addSign_41 rfl) ?_
  refine zx_lift (pc' := 45) (fun _ => zq_aload_n rfl rfl dX12_addSign_44 rfl) ?_
  refine zx_lift (pc' := 48) (fun _ => zt_getI zfr_X12_179 zfd_57_21 dX12_addSign_45 rfl) ?_
  refine zx_lift (pc' := 50) (fun _ => zq_iload rfl dX12_addSign_48 rfl) ?_
  refine zx_iastore (pc' := 51) zsh_75 dX12_addSign_50 rfl (fun s5 => ?_)
  refine zx_lift (pc' := 52) (fun _ => zq_aload_n rfl rfl dX12_addSign_51 rfl) ?_
  refine zx_lift (pc' := 53) (fun _ => zq_dup rfl dX12_addSign_52 rfl) ?_
  refine zx_lift (pc' := 56) (fun _ => zt_getI zfr_X12_179 zfd_57_21 dX12_addSign_53 rfl) ?_
  refine zx_lift (pc' := 57) (fun _ => zq_iconst (v := 1) dX12_addSign_56 rfl rfl) ?_
  refine zx_lift (pc' := 58) (fun _ => zq_iadd dX12_addSign_57 rfl) ?_
  refine zx_putI (pc' := 61) zfr_X12_179 (fun _ => ⟨rfl, rfl⟩) zfd_57_21 dX12_addSign_58 rfl (fun s6 => ?_)
  exact zx_vret rfl dX12_addSign_61
theorem cX12_addSign_mc (N : Nat)  (p1 : Int32) (p2 : Int32) (p3 : Int32) (p4 : Int32) (s : zq_S) (v : Unit × zq_S) (h : mX12_addSign N p1 p2 p3 p4 s = some v) : zq_MC yX12_addSign cX12_addSign 5 none ⟨0, 0, 0, 0⟩ 0 0 [.ref 57, .int p1, .int p2, .int p3, .int p4] (zq_en s) (zv_v v.1, zq_en v.2) := zq_MC_x [.ref 57, .int p1, .int p2, .int p3, .int p4] (by decide +kernel) rfl rfl (Nat.le_of_ble_eq_true rfl) (xX12_addSign N p1 p2 p3 p4 s) h
def jX12_takeOpen_j87 (N : Nat)   (w1 : Int32) (w2 : Int32) (w3 : Int32) (w4 : Int32) (w5 : Int32) (s : zq_S) : Option (Int32 × zq_S) :=
  if w3 ≤ (0 : Int32) then
  zq_b2 (mX12_here N s) (fun r6 s7 =>
  if r6 = (58 : Int32) then
  zq_let (zpf s7 57 18 ((zgf s7 57 18) + (1 : Int32))) (fun s8 =>
  zq_ck (zgf s8 57 31) 8 (
  zq_let (zpa s8 76 (zgf s8 57 31) (zgf s8 57 21)) (fun s9 =>
  zq_let (zpf s9 57 31 ((zgf s9 57 31) + (1 : Int32))) (fun s10 =>
  zq_let (if w1 = (3 : Int32) then (1 : Int32) else (0 : Int32)) (fun x11 =>
  zq_let (zpf s10 57 33 ((zgf s10 57 33) + x11)) (fun s12 =>
  zq_let (if w1 = (3 : Int32) then ((1 : Int32) <<< (w4 &&& 31)) else (0 : Int32)) (fun x13 =>
  zq_let (zpf s12 57 29 ((zgf s12 57 29) ||| x13)) (fun s14 =>
  zq_b2 (mX12_addSign N w1 w4 w5 w2 s14) (fun r15 s16 =>
  zq_let (zpf s16 57 34 (1 : Int32)) (fun s17 =>
  some ((0 : Int32), s17)))))))))))
  else
  zq_b2 (mX12_fails N (1 : Int32) (zgf s7 57 18) s7) (fun r18 s19 =>
  some (r18, s19)))
  else
  some (w3, s)
set_option maxRecDepth 20000 in
set_option maxHeartbeats 2000000 in
theorem xX12_takeOpen_j87_j (N : Nat)   (w1 : Int32) (w2 : Int32) (w3 : Int32) (w4 : Int32) (w5 : Int32) (s : zq_S) : zq_X yX12_takeOpen RX12 cX12_takeOpen 6 (some .int) ⟨3, 0, 0, 68⟩ zv_i 87 [.ref 57, .int w1, .int w2, .int w3, .int w4, .int w5] [] s (jX12_takeOpen_j87 N w1 w2 w3 w4 w5 s) := by
  unfold jX12_takeOpen_j87
  refine zx_lift (pc' := 88) (fun _ => zq_iload_n rfl rfl dX12_takeOpen_87 rfl) ?_
  refine zx_if_le (pc' := 91) (tgt := 93) dX12_takeOpen_88 rfl rfl (fun hc => ?_) (fun hc => ?_)
  · refine zx_lift (pc' := 94) (fun _ => zq_aload_n rfl rfl dX12_takeOpen_93 rfl) ?_
    refine zx_cVi (pc' := 97) zcv_X12_162 (cX12_here_mc N s) zob_57 rfl (by decide) (Nat.le_of_ble_eq_true rfl) dX12_takeOpen_94 rfl rfl (fun r6 s7 => ?_)
    refine zx_lift (pc' := 99) (fun _ => zq_bipush (v := 58) dX12_takeOpen_97 rfl rfl) ?_
    refine zx_icmp_eq (pc' := 102) (tgt := 112) dX12_takeOpen_99 rfl rfl (fun hc => ?_) (fun hc => ?_)
    · refine zx_lift (pc' := 113) (fun _ => zq_aload_n rfl rfl dX12_takeOpen_112 rfl) ?_
      refine zx_lift (pc' := 114) (fun _ => zq_dup rfl dX12_takeOpen_113 rfl) ?_
      refine zx_lift (pc' := 117) (fun _ => zt_getI zfr_X12_159 zfd_57_18 dX12_takeOpen_114 rfl) ?_
      refine zx_lift (pc' := 118) (fun _ => zq_iconst (v := 1) dX12_takeOpen_117 rfl rfl) ?_
      refine zx_lift (pc' := 119) (fun _ => zq_iadd dX12_takeOpen_118 rfl) ?_
      refine zx_putI (pc' := 122) zfr_X12_159 (fun _ => ⟨rfl, rfl⟩) zfd_57_18 dX12_takeOpen_119 rfl (fun s8 => ?_)
      refine zx_lift (pc' := 123) (fun _ => zq_aload_n rfl rfl dX12_takeOpen_122 rfl) ?_
      refine zx_lift (pc' := 126) (fun _ => zt_getR zfr_X12_69 zfd_57_32 dX12_takeOpen_123 rfl) ?_
      refine zx_lift (pc' := 127) (fun _ => zq_aload_n rfl rfl dX12_takeOpen_126 rfl) ?_
      refine zx_lift (pc' := 130) (fun _ => zt_getI zfr_X12_196 zfd_57_31 dX12_takeOpen_127 rfl) ?_
      refine zx_lift (pc' := 131) (fun _ => zq_aload_n rfl rfl dX12_takeOpen_130 rfl) ?_
      refine zx_lift (pc' := 134) (fun _ => zt_getI zfr_X12_179 zfd_57_21 dX12_takeOpen_131 rfl) ?_
      refine zx_iastore (pc' := 135) zsh_76 dX12_takeOpen_134 rfl (fun s9 => ?_)
      refine zx_lift (pc' := 136) (fun _ => zq_aload_n rfl rfl dX12_takeOpen_135 rfl) ?_
      refine zx_lift (pc' := 137) (fun _ => zq_dup rfl dX12_takeOpen_136 rfl) ?_
      refine zx_lift (pc' := 140) (fun _ => zt_getI zfr_X12_196 zfd_57_31 dX12_takeOpen_137 rfl) ?_
      refine zx_lift (pc' := 141) (fun _ => zq_iconst (v := 1) dX12_takeOpen_140 rfl rfl) ?_
      refine zx_lift (pc' := 142) (fun _ => zq_iadd dX12_takeOpen_141 rfl) ?_
      refine zx_putI (pc' := 145) zfr_X12_196 (fun _ => ⟨rfl, rfl⟩) zfd_57_31 dX12_takeOpen_142 rfl (fun s10 => ?_)
      refine zx_lift (pc' := 146) (fun _ => zq_aload_n rfl rfl dX12_takeOpen_145 rfl) ?_
      refine zx_lift (pc' := 147) (fun _ => zq_dup rfl dX12_takeOpen_146 rfl) ?_
      refine zx_lift (pc' := 150) (fun _ => zt_getI zfr_X12_202 zfd_57_33 dX12_takeOpen_147 rfl) ?_
      refine zx_lift (pc' := 151) (fun _ => zq_iload_n rfl rfl dX12_takeOpen_150 rfl) ?_
      refine zx_lift (pc' := 152) (fun _ => zq_iconst (v := 3) dX12_takeOpen_151 rfl rfl) ?_
      refine zx_tern (pcJ := 160) (lsJ := fun x11 => [.ref 57, .int w1, .int w2, .null, .int w4, .int w5]) (stJ := fun x11 => [.int x11, .int (zgf s10 57 33), .ref 57]) (fun x11 => ?_) (fun f hJ => ?_)
      rotate_left
      · refine zx_licmp_ne (pc' := 155) (tgt := 159) dX12_takeOpen_152 rfl rfl (fun _ => ?_) (fun _ => ?_)
        · refine zx_lift (pc' := 160) (fun _ => zq_iconst (v := 0) dX12_takeOpen_159 rfl rfl) ?_
          exact zx_lessJ (zq_cr (zq_cr (zq_cr (zq_cz (zq_cr (zq_cr zq_cn)))))) (hJ _)
        · refine zx_lift (pc' := 156) (fun _ => zq_iconst (v := 1) dX12_takeOpen_155 rfl rfl) ?_
          refine zx_lift (pc' := 160) (fun _ => zq_goto dX12_takeOpen_156 rfl) ?_
          exact zx_lessJ (zq_cr (zq_cr (zq_cr (zq_cz (zq_cr (zq_cr zq_cn)))))) (hJ _)
      refine zx_lift (pc' := 161) (fun _ => zq_iadd dX12_takeOpen_160 rfl) ?_
      refine zx_putI (pc' := 164) zfr_X12_202 (fun _ => ⟨rfl, rfl⟩) zfd_57_33 dX12_takeOpen_161 rfl (fun s12 => ?_)
      refine zx_lift (pc' := 165) (fun _ => zq_aload_n rfl rfl dX12_takeOpen_164 rfl) ?_
      refine zx_lift (pc' := 166) (fun _ => zq_dup rfl dX12_takeOpen_165 rfl) ?_
      refine zx_lift (pc' := 169) (fun _ => zt_getI zfr_X12_205 zfd_57_29 dX12_takeOpen_166 rfl) ?_
      refine zx_lift (pc' := 170) (fun _ => zq_iload_n rfl rfl dX12_takeOpen_169 rfl) ?_
      refine zx_lift (pc' := 171) (fun _ => zq_iconst (v := 3) dX12_takeOpen_170 rfl rfl) ?_
      refine zx_tern (pcJ := 182) (lsJ := fun x13 => [.ref 57, .int w1, .int w2, .null, .int w4, .int w5]) (stJ := fun x13 => [.int x13, .int (zgf s12 57 29), .ref 57]) (fun x13 => ?_) (fun f hJ => ?_)
      rotate_left
      · refine zx_licmp_ne (pc' := 174) (tgt := 181) dX12_takeOpen_171 rfl rfl (fun _ => ?_) (fun _ => ?_)
        · refine zx_lift (pc' := 182) (fun _ => zq_iconst (v := 0) dX12_takeOpen_181 rfl rfl) ?_
          exact zx_lessJ (zq_cr (zq_cr (zq_cr (zq_cz (zq_cr (zq_cr zq_cn)))))) (hJ _)
        · refine zx_lift (pc' := 175) (fun _ => zq_iconst (v := 1) dX12_takeOpen_174 rfl rfl) ?_
          refine zx_lift (pc' := 177) (fun _ => zq_iload rfl dX12_takeOpen_175 rfl) ?_
          refine zx_lift (pc' := 178) (fun _ => zq_ishl dX12_takeOpen_177 rfl) ?_
          refine zx_lift (pc' := 182) (fun _ => zq_goto dX12_takeOpen_178 rfl) ?_
          exact zx_lessJ (zq_cr (zq_cr (zq_cr (zq_cz (zq_cr (zq_cr zq_cn)))))) (hJ _)
      refine zx_lift (pc' := 183) (fun _ => zq_ior dX12_takeOpen_182 rfl) ?_
      refine zx_putI (pc' := 186) zfr_X12_205 (fun _ => ⟨rfl, rfl⟩) zfd_57_29 dX12_takeOpen_183 rfl (fun s14 => ?_)
      refine zx_lift (pc' := 187) (fun _ => zq_aload_n rfl rfl dX12_takeOpen_186 rfl) ?_
      refine zx_lift (pc' := 188) (fun _ => zq_iload_n rfl rfl dX12_takeOpen_187 rfl) ?_
      refine zx_lift (pc' := 190) (fun _ => zq_iload rfl dX12_takeOpen_188 rfl) ?_
      refine zx_lift (pc' := 192) (fun _ => zq_iload rfl dX12_takeOpen_190 rfl) ?_
      refine zx_lift (pc' := 193) (fun _ => zq_iload_n rfl rfl dX12_takeOpen_192 rfl) ?_
      refine zx_cVv (pc' := 196) zcv_X12_208 (cX12_addSign_mc N w1 w4 w5 w2 s14) zob_57 rfl (by decide) (Nat.le_of_ble_eq_true rfl) dX12_takeOpen_193 rfl rfl (fun r15 s16 => ?_)
      refine zx_lift (pc' := 197) (fun _ => zq_aload_n rfl rfl dX12_takeOpen_196 rfl) ?_
      refine zx_lift (pc' := 198) (fun _ => zq_iconst (v := 1) dX12_takeOpen_197 rfl rfl) ?_
      refine zx_putI (pc' := 201) zfr_X12_212 (fun _ => ⟨by decide, rfl⟩) zfd_57_34 dX12_takeOpen_198 rfl (fun s17 => ?_)
      refine zx_lift (pc' := 202) (fun _ => zq_iconst (v := 0) dX12_takeOpen_201 rfl rfl) ?_
      exact zx_iret rfl dX12_takeOpen_202
    · refine zx_lift (pc' := 103) (fun _ => zq_aload_n rfl rfl dX12_takeOpen_102 rfl) ?_
      refine zx_lift (pc' := 104) (fun _ => zq_iconst (v := 1) dX12_takeOpen_103 rfl rfl) ?_
      refine zx_lift (pc' := 105) (fun _ => zq_aload_n rfl rfl dX12_takeOpen_104 rfl) ?_
      refine zx_lift (pc' := 108) (fun _ => zt_getI zfr_X12_159 zfd_57_18 dX12_takeOpen_105 rfl) ?_
      refine zx_cVi (pc' := 111) zcv_X12_169 (cX12_fails_mc N (1 : Int32) (zgf s7 57 18) s7) zob_57 rfl (by decide) (Nat.le_of_ble_eq_true rfl) dX12_takeOpen_108 rfl rfl (fun r18 s19 => ?_)
      exact zx_iret rfl dX12_takeOpen_111
  · refine zx_lift (pc' := 92) (fun _ => zq_iload_n rfl rfl dX12_takeOpen_91 rfl) ?_
    exact zx_iret rfl dX12_takeOpen_92
def mX12_takeOpen (N : Nat)  (p1 : Int32) (s : zq_S) : Option (Int32 × zq_S) :=
  if (zgf s 57 31) = (8 : Int32) then
  zq_b2 (mX12_fails N (5 : Int32) (zgf s 57 18) s) (fun r26 s27 =>
  some (r26, s27))
  else
  zq_let (zgf s 57 18) (fun x1 =>
  zq_let (zpf s 57 18 ((zgf s 57 18) + (1 : Int32))) (fun s2 =>
  zq_b2 (mX12_takeMark N s2) (fun r3 s4 =>
  zq_let (zgf s4 57 19) (fun x5 =>
  if r3 = (0 : Int32) then
  if p1 = (2 : Int32) then
  zq_b2 (mX12_here N s4) (fun r20 s21 =>
  if r20 = (33 : Int32) then
  zq_let (zpf s21 57 18 ((zgf s21 57 18) + (1 : Int32))) (fun s22 =>
  zq_b2 (mX12_takeMark N s22) (fun r23 s24 =>
  zq_let (zgf s24 57 19) (fun x25 =>
  jX12_takeOpen_j87 N p1 x1 r23 x5 x25 s24)))
  else
  jX12_takeOpen_j87 N p1 x1 r3 x5 (-1 : Int32) s21)
  else
  jX12_takeOpen_j87 N p1 x1 r3 x5 (-1 : Int32) s4
  else
  jX12_takeOpen_j87 N p1 x1 r3 x5 (-1 : Int32) s4))))
set_option maxRecDepth 20000 in
set_option maxHeartbeats 2000000 in
theorem xX12_takeOpen (N : Nat)  (p1 : Int32) (s : zq_S) : zq_X yX12_takeOpen RX12 cX12_takeOpen 6 (some .int) ⟨3, 0, 0, 68⟩ zv_i 0 [.ref 57, .int p1, .null, .null, .null, .null] [] s (mX12_takeOpen N p1 s) := by
  unfold mX12_takeOpen
  refine zx_lift (pc' := 1) (fun _ => zq_aload_n rfl rfl dX12_takeOpen_0 rfl) ?_
  refine zx_lift (pc' := 4) (fun _ => zt_getI zfr_X12_196 zfd_57_31 dX12_takeOpen_1 rfl) ?_
  refine zx_lift (pc' := 6) (fun _ => zq_bipush (v := 8) dX12_takeOpen_4 rfl rfl) ?_
  refine zx_icmp_ne (pc' := 9) (tgt := 19) dX12_takeOpen_6 rfl rfl (fun hc => ?_) (fun hc => ?_)
  · refine zx_lift (pc' := 20) (fun _ => zq_aload_n rfl rfl dX12_takeOpen_19 rfl) ?_
    refine zx_lift (pc' := 23) (fun _ => zt_getI zfr_X12_159 zfd_57_18 dX12_takeOpen_20 rfl) ?_
    refine zx_istore_n (pc' := 24) (ls' := fun x1 => [.ref 57, .int p1, .int x1, .null, .null, .null]) rfl (by decide) rfl (fun _ => rfl) dX12_takeOpen_23 rfl (fun x1 => ?_)
    refine zx_lift (pc' := 25) (fun _ => zq_aload_n rfl rfl dX12_takeOpen_24 rfl) ?_
    refine zx_lift (pc' := 26) (fun _ => zq_dup rfl dX12_takeOpen_25 rfl) ?_
    refine zx_lift (pc' := 29) (fun _ => zt_getI zfr_X12_159 zfd_57_18 dX12_takeOpen_26 rfl) ?_
    refine zx_lift (pc' := 30) (fun _ => zq_iconst (v := 1) dX12_takeOpen_29 rfl rfl) ?_
    refine zx_lift (pc' := 31) (fun _ => zq_iadd dX12_takeOpen_30 rfl) ?_
    refine zx_putI (pc' := 34) zfr_X12_159 (fun _ => ⟨rfl, rfl⟩) zfd_57_18 dX12_takeOpen_31 rfl (fun s2 => ?_)
    refine zx_lift (pc' := 35) (fun _ => zq_aload_n rfl rfl dX12_takeOpen_34 rfl) ?_
    refine zx_cVi (pc' := 38) zcv_X12_199 (cX12_takeMark_mc N s2) zob_57 rfl (by decide) (Nat.le_of_ble_eq_true rfl) dX12_takeOpen_35 rfl rfl (fun r3 s4 => ?_)
    refine zx_lift (pc' := 39) (fun _ => zq_istore_n (ls' := [.ref 57, .int p1, .int x1, .int r3, .null, .null]) rfl (by decide) rfl rfl dX12_takeOpen_38 rfl) ?_
    refine zx_lift (pc' := 40) (fun _ => zq_aload_n rfl rfl dX12_takeOpen_39 rfl) ?_
    refine zx_lift (pc' := 43) (fun _ => zt_getI zfr_X12_176 zfd_57_19 dX12_takeOpen_40 rfl) ?_
    refine zx_istore (pc' := 45) (ls' := fun x5 => [.ref 57, .int p1, .int x1, .int r3, .int x5, .null]) (by decide) rfl (fun _ => rfl) dX12_takeOpen_43 rfl (fun x5 => ?_)
    refine zx_lift (pc' := 46) (fun _ => zq_iconst (v := (-1)) dX12_takeOpen_45 rfl rfl) ?_
    refine zx_lift (pc' := 48) (fun _ => zq_istore (ls' := [.ref 57, .int p1, .int x1, .int r3, .int x5, .int (-1 : Int32)]) (by decide) rfl rfl dX12_takeOpen_46 rfl) ?_
    refine zx_lift (pc' := 49) (fun _ => zq_iload_n rfl rfl dX12_takeOpen_48 rfl) ?_
    refine zx_if_ne (pc' := 52) (tgt := 87) dX12_takeOpen_49 rfl rfl (fun hc => ?_) (fun hc => ?_)
    · exact xX12_takeOpen_j87_j N p1 x1 r3 x5 (-1 : Int32) s4
    · refine zx_lift (pc' := 53) (fun _ => zq_iload_n rfl rfl dX12_takeOpen_52 rfl) ?_
      refine zx_lift (pc' := 54) (fun _ => zq_iconst (v := 2) dX12_takeOpen_53 rfl rfl) ?_
      refine zx_icmp_ne (pc' := 57) (tgt := 87) dX12_takeOpen_54 rfl rfl (fun hc => ?_) (fun hc => ?_)
      · exact xX12_takeOpen_j87_j N p1 x1 r3 x5 (-1 : Int32) s4
      · refine zx_lift (pc' := 58) (fun _ => zq_aload_n rfl rfl dX12_takeOpen_57 rfl) ?_
        refine zx_cVi (pc' := 61) zcv_X12_162 (cX12_here_mc N s4) zob_57 rfl (by decide) (Nat.le_of_ble_eq_true rfl) dX12_takeOpen_58 rfl rfl (fun r20 s21 => ?_)
        refine zx_lift (pc' := 63) (fun _ => zq_bipush (v := 33) dX12_takeOpen_61 rfl rfl) ?_
        refine zx_icmp_ne (pc' := 66) (tgt := 87) dX12_takeOpen_63 rfl rfl (fun hc => ?_) (fun hc => ?_)
        · exact xX12_takeOpen_j87_j N p1 x1 r3 x5 (-1 : Int32) s21
        · refine zx_lift (pc' := 67) (fun _ => zq_aload_n rfl rfl dX12_takeOpen_66 rfl) ?_
          refine zx_lift (pc' := 68) (fun _ => zq_dup rfl dX12_takeOpen_67 rfl) ?_
          refine zx_lift (pc' := 71) (fun _ => zt_getI zfr_X12_159 zfd_57_18 dX12_takeOpen_68 rfl) ?_
          refine zx_lift (pc' := 72) (fun _ => zq_iconst (v := 1) dX12_takeOpen_71 rfl rfl) ?_
          refine zx_lift (pc' := 73) (fun _ => zq_iadd dX12_takeOpen_72 rfl) ?_
          refine zx_putI (pc' := 76) zfr_X12_159 (fun _ => ⟨rfl, rfl⟩) zfd_57_18 dX12_takeOpen_73 rfl (fun s22 => ?_)
          refine zx_lift (pc' := 77) (fun _ => zq_aload_n rfl rfl dX12_takeOpen_76 rfl) ?_
          refine zx_cVi (pc' := 80) zcv_X12_199 (cX12_takeMark_mc N s22) zob_57 rfl (by decide) (Nat.le_of_ble_eq_true rfl) dX12_takeOpen_77 rfl rfl (fun r23 s24 => ?_)
          refine zx_lift (pc' := 81) (fun _ => zq_istore_n (ls' := [.ref 57, .int p1, .int x1, .int r23, .int x5, .int (-1 : Int32)]) rfl (by decide) rfl rfl dX12_takeOpen_80 rfl) ?_
          refine zx_lift (pc' := 82) (fun _ => zq_aload_n rfl rfl dX12_takeOpen_81 rfl) ?_
          refine zx_lift (pc' := 85) (fun _ => zt_getI zfr_X12_176 zfd_57_19 dX12_takeOpen_82 rfl) ?_
          refine zx_istore (pc' := 87) (ls' := fun x25 => [.ref 57, .int p1, .int x1, .int r23, .int x5, .int x25]) (by decide) rfl (fun _ => rfl) dX12_takeOpen_85 rfl (fun x25 => ?_)
          exact xX12_takeOpen_j87_j N p1 x1 r23 x5 x25 s24
  · refine zx_lift (pc' := 10) (fun _ => zq_aload_n rfl rfl dX12_takeOpen_9 rfl) ?_
    refine zx_lift (pc' := 11) (fun _ => zq_iconst (v := 5) dX12_takeOpen_10 rfl rfl) ?_
    refine zx_lift (pc' := 12) (fun _ => zq_aload_n rfl rfl dX12_takeOpen_11 rfl) ?_
    refine zx_lift (pc' := 15) (fun _ => zt_getI zfr_X12_159 zfd_57_18 dX12_takeOpen_12 rfl) ?_
    refine zx_cVi (pc' := 18) zcv_X12_169 (cX12_fails_mc N (5 : Int32) (zgf s 57 18) s) zob_57 rfl (by decide) (Nat.le_of_ble_eq_true rfl) dX12_takeOpen_15 rfl rfl (fun r26 s27 => ?_)
    exact zx_iret rfl dX12_takeOpen_18
theorem cX12_takeOpen_mc (N : Nat)  (p1 : Int32) (s : zq_S) (v : Int32 × zq_S) (h : mX12_takeOpen N p1 s = some v) : zq_MC yX12_takeOpen cX12_takeOpen 6 (some .int) ⟨3, 0, 0, 68⟩ 0 0 [.ref 57, .int p1] (zq_en s) (zv_i v.1, zq_en v.2) := zq_MC_x [.ref 57, .int p1, .null, .null, .null, .null] (by decide +kernel) rfl rfl (Nat.le_of_ble_eq_true rfl) (xX12_takeOpen N p1 s) h
def jX12_takeClose_j34 (N : Nat)    (s : zq_S) : Option (Int32 × zq_S) :=
  zq_b2 (mX12_fails N (1 : Int32) (zgf s 57 18) s) (fun r1 s2 =>
  some (r1, s2))
set_option maxRecDepth 20000 in
set_option maxHeartbeats 2000000 in
theorem xX12_takeClose_j34_j (N : Nat)    (s : zq_S) : zq_X yX12_takeClose RX12 cX12_takeClose 3 (some .int) ⟨1, 0, 0, 24⟩ zv_i 34 [.ref 57, .null, .null] [] s (jX12_takeClose_j34 N s) := by
  unfold jX12_takeClose_j34
  refine zx_lift (pc' := 35) (fun _ => zq_aload_n rfl rfl dX12_takeClose_34 rfl) ?_
  refine zx_lift (pc' := 36) (fun _ => zq_iconst (v := 1) dX12_takeClose_35 rfl rfl) ?_
  refine zx_lift (pc' := 37) (fun _ => zq_aload_n rfl rfl dX12_takeClose_36 rfl) ?_
  refine zx_lift (pc' := 40) (fun _ => zt_getI zfr_X12_159 zfd_57_18 dX12_takeClose_37 rfl) ?_
  refine zx_cVi (pc' := 43) zcv_X12_169 (cX12_fails_mc N (1 : Int32) (zgf s 57 18) s) zob_57 rfl (by decide) (Nat.le_of_ble_eq_true rfl) dX12_takeClose_40 rfl rfl (fun r1 s2 => ?_)
  exact zx_iret rfl dX12_takeClose_43
def mX12_takeClose (N : Nat)  (p1 : Int32) (s : zq_S) : Option (Int32 × zq_S) :=
  if (zgf s 57 31) = (0 : Int32) then
  jX12_takeClose_j34 N s
  else
  if (zgf s 57 34) = (0 : Int32) then
  zq_ck ((zgf s 57 31) - (1 : Int32)) 8 (
  zq_ck (zga s 76 ((zgf s 57 31) - (1 : Int32))) 400 (
  if (zga s 71 (zga s 76 ((zgf s 57 31) - (1 : Int32)))) = p1 then
  zq_let (zpf s 57 31 ((zgf s 57 31) - (1 : Int32))) (fun s3 =>
  zq_ck (zgf s3 57 31) 8 (
  zq_let (zga s3 76 (zgf s3 57 31)) (fun x4 =>
  zq_ck x4 400 (
  zq_let (zpa s3 74 x4 (zgf s3 57 21)) (fun s5 =>
  zq_let (if p1 = (3 : Int32) then (1 : Int32) else (0 : Int32)) (fun x6 =>
  zq_let (zpf s5 57 33 ((zgf s5 57 33) - x6)) (fun s7 =>
  zq_b2 (mX12_addSign N (4 : Int32) p1 (0 : Int32) (zgf s7 57 18) s7) (fun r8 s9 =>
  zq_ck ((zgf s9 57 21) - (1 : Int32)) 400 (
  zq_let (zpa s9 74 ((zgf s9 57 21) - (1 : Int32)) x4) (fun s10 =>
  zq_let (zpf s10 57 18 ((zgf s10 57 18) + (1 : Int32))) (fun s11 =>
  some ((0 : Int32), s11))))))))))))
  else
  jX12_takeClose_j34 N s))
  else
  jX12_takeClose_j34 N s
set_option maxRecDepth 20000 in
set_option maxHeartbeats 2000000 in
theorem xX12_takeClose (N : Nat)  (p1 : Int32) (s : zq_S) : zq_X yX12_takeClose RX12 cX12_takeClose 3 (some .int) ⟨1, 0, 0, 24⟩ zv_i 0 [.ref 57, .int p1, .null] [] s (mX12_takeClose N p1 s) := by
  unfold mX12_takeClose
  refine zx_lift (pc' := 1) (fun _ => zq_aload_n rfl rfl dX12_takeClose_0 rfl) ?_
  refine zx_lift (pc' := 4) (fun _ => zt_getI zfr_X12_196 zfd_57_31 dX12_takeClose_1 rfl) ?_
  refine zx_if_eq (pc' := 7) (tgt := 34) dX12_takeClose_4 rfl rfl (fun hc => ?_) (fun hc => ?_)
  · refine zx_less [.ref 57, .null, .null] (zq_cr (zq_cz (zq_cz zq_cn))) ?_
    exact xX12_takeClose_j34_j N s
  · refine zx_lift (pc' := 8) (fun _ => zq_aload_n rfl rfl dX12_takeClose_7 rfl) ?_
    refine zx_lift (pc' := 11) (fun _ => zt_getI zfr_X12_212 zfd_57_34 dX12_takeClose_8 rfl) ?_
    refine zx_if_ne (pc' := 14) (tgt := 34) dX12_takeClose_11 rfl rfl (fun hc => ?_) (fun hc => ?_)
    · refine zx_less [.ref 57, .null, .null] (zq_cr (zq_cz (zq_cz zq_cn))) ?_
      exact xX12_takeClose_j34_j N s
    · refine zx_lift (pc' := 15) (fun _ => zq_aload_n rfl rfl dX12_takeClose_14 rfl) ?_
      refine zx_lift (pc' := 18) (fun _ => zt_getR zfr_X12_54 zfd_57_22 dX12_takeClose_15 rfl) ?_
      refine zx_lift (pc' := 19) (fun _ => zq_aload_n rfl rfl dX12_takeClose_18 rfl) ?_
      refine zx_lift (pc' := 22) (fun _ => zt_getR zfr_X12_69 zfd_57_32 dX12_takeClose_19 rfl) ?_
      refine zx_lift (pc' := 23) (fun _ => zq_aload_n rfl rfl dX12_takeClose_22 rfl) ?_
      refine zx_lift (pc' := 26) (fun _ => zt_getI zfr_X12_196 zfd_57_31 dX12_takeClose_23 rfl) ?_
      refine zx_lift (pc' := 27) (fun _ => zq_iconst (v := 1) dX12_takeClose_26 rfl rfl) ?_
      refine zx_lift (pc' := 28) (fun _ => zq_isub dX12_takeClose_27 rfl) ?_
      refine zx_iaload (pc' := 29) zsh_76 dX12_takeClose_28 rfl ?_
      refine zx_iaload (pc' := 30) zsh_71 dX12_takeClose_29 rfl ?_
      refine zx_lift (pc' := 31) (fun _ => zq_iload_n rfl rfl dX12_takeClose_30 rfl) ?_
      refine zx_icmp_eq (pc' := 34) (tgt := 44) dX12_takeClose_31 rfl rfl (fun hc => ?_) (fun hc => ?_)
      · refine zx_lift (pc' := 45) (fun _ => zq_aload_n rfl rfl dX12_takeClose_44 rfl) ?_
        refine zx_lift (pc' := 46) (fun _ => zq_dup rfl dX12_takeClose_45 rfl) ?_
        refine zx_lift (pc' := 49) (fun _ => zt_getI zfr_X12_196 zfd_57_31 dX12_takeClose_46 rfl) ?_
        refine zx_lift (pc' := 50) (fun _ => zq_iconst (v := 1) dX12_takeClose_49 rfl rfl) ?_
        refine zx_lift (pc' := 51) (fun _ => zq_isub dX12_takeClose_50 rfl) ?_
        refine zx_putI (pc' := 54) zfr_X12_196 (fun _ => ⟨rfl, rfl⟩) zfd_57_31 dX12_takeClose_51 rfl (fun s3 => ?_)
        refine zx_lift (pc' := 55) (fun _ => zq_aload_n rfl rfl dX12_takeClose_54 rfl) ?_
        refine zx_lift (pc' := 58) (fun _ => zt_getR zfr_X12_69 zfd_57_32 dX12_takeClose_55 rfl) ?_
        refine zx_lift (pc' := 59) (fun _ => zq_aload_n rfl rfl dX12_takeClose_58 rfl) ?_
        refine zx_lift (pc' := 62) (fun _ => zt_getI zfr_X12_196 zfd_57_31 dX12_takeClose_59 rfl) ?_
        refine zx_iaload (pc' := 63) zsh_76 dX12_takeClose_62 rfl ?_
        refine zx_istore_n (pc' := 64) (ls' := fun x4 => [.ref 57, .int p1, .int x4]) rfl (by decide) rfl (fun _ => rfl) dX12_takeClose_63 rfl (fun x4 => ?_)
        refine zx_lift (pc' := 65) (fun _ => zq_aload_n rfl rfl dX12_takeClose_64 rfl) ?_
        refine zx_lift (pc' := 68) (fun _ => zt_getR zfr_X12_63 zfd_57_25 dX12_takeClose_65 rfl) ?_
        refine zx_lift (pc' := 69) (fun _ => zq_iload_n rfl rfl dX12_takeClose_68 rfl) ?_
        refine zx_lift (pc' := 70) (fun _ => zq_aload_n rfl rfl dX12_takeClose_69 rfl) ?_
        refine zx_lift (pc' := 73) (fun _ => zt_getI zfr_X12_179 zfd_57_21 dX12_takeClose_70 rfl) ?_
        refine zx_iastore (pc' := 74) zsh_74 dX12_takeClose_73 rfl (fun s5 => ?_)
        refine zx_lift (pc' := 75) (fun _ => zq_aload_n rfl rfl dX12_takeClose_74 rfl) ?_
        refine zx_lift (pc' := 76) (fun _ => zq_dup rfl dX12_takeClose_75 rfl) ?_
        refine zx_lift (pc' := 79) (fun _ => zt_getI zfr_X12_202 zfd_57_33 dX12_takeClose_76 rfl) ?_
        refine zx_lift (pc' := 80) (fun _ => zq_iload_n rfl rfl dX12_takeClose_79 rfl) ?_
        refine zx_lift (pc' := 81) (fun _ => zq_iconst (v := 3) dX12_takeClose_80 rfl rfl) ?_
        refine zx_tern (pcJ := 89) (lsJ := fun x6 => [.ref 57, .int p1, .int x4]) (stJ := fun x6 => [.int x6, .int (zgf s5 57 33), .ref 57]) (fun x6 => ?_) (fun f hJ => ?_)
        rotate_left
        · refine zx_licmp_ne (pc' := 84) (tgt := 88) dX12_takeClose_81 rfl rfl (fun _ => ?_) (fun _ => ?_)
          · refine zx_lift (pc' := 89) (fun _ => zq_iconst (v := 0) dX12_takeClose_88 rfl rfl) ?_
            exact zx_lessJ (zq_cr (zq_cr (zq_cr zq_cn))) (hJ _)
          · refine zx_lift (pc' := 85) (fun _ => zq_iconst (v := 1) dX12_takeClose_84 rfl rfl) ?_
            refine zx_lift (pc' := 89) (fun _ => zq_goto dX12_takeClose_85 rfl) ?_
            exact zx_lessJ (zq_cr (zq_cr (zq_cr zq_cn))) (hJ _)
        refine zx_lift (pc' := 90) (fun _ => zq_isub dX12_takeClose_89 rfl) ?_
        refine zx_putI (pc' := 93) zfr_X12_202 (fun _ => ⟨rfl, rfl⟩) zfd_57_33 dX12_takeClose_90 rfl (fun s7 => ?_)
        refine zx_lift (pc' := 94) (fun _ => zq_aload_n rfl rfl dX12_takeClose_93 rfl) ?_
        refine zx_lift (pc' := 95) (fun _ => zq_iconst (v := 4) dX12_takeClose_94 rfl rfl) ?_
        refine zx_lift (pc' := 96) (fun _ => zq_iload_n rfl rfl dX12_takeClose_95 rfl) ?_
        refine zx_lift (pc' := 97) (fun _ => zq_iconst (v := 0) dX12_takeClose_96 rfl rfl) ?_
        refine zx_lift (pc' := 98) (fun _ => zq_aload_n rfl rfl dX12_takeClose_97 rfl) ?_
        refine zx_lift (pc' := 101) (fun _ => zt_getI zfr_X12_159 zfd_57_18 dX12_takeClose_98 rfl) ?_
        refine zx_cVv (pc' := 104) zcv_X12_208 (cX12_addSign_mc N (4 : Int32) p1 (0 : Int32) (zgf s7 57 18) s7) zob_57 rfl (by decide) (Nat.le_of_ble_eq_true rfl) dX12_takeClose_101 rfl rfl (fun r8 s9 => ?_)
        refine zx_lift (pc' := 105) (fun _ => zq_aload_n rfl rfl dX12_takeClose_104 rfl) ?_
        refine zx_lift (pc' := 108) (fun _ => zt_getR zfr_X12_63 zfd_57_25 dX12_takeClose_105 rfl) ?_
        refine zx_lift (pc' := 109) (fun _ => zq_aload_n rfl rfl dX12_takeClose_108 rfl) ?_
        refine zx_lift (pc' := 112) (fun _ => zt_getI zfr_X12_179 zfd_57_21 dX12_takeClose_109 rfl) ?_
        refine zx_lift (pc' := 113) (fun _ => zq_iconst (v := 1) dX12_takeClose_112 rfl rfl) ?_
        refine zx_lift (pc' := 114) (fun _ => zq_isub dX12_takeClose_113 rfl) ?_
        refine zx_lift (pc' := 115) (fun _ => zq_iload_n rfl rfl dX12_takeClose_114 rfl) ?_
        refine zx_iastore (pc' := 116) zsh_74 dX12_takeClose_115 rfl (fun s10 => ?_)
        refine zx_lift (pc' := 117) (fun _ => zq_aload_n rfl rfl dX12_takeClose_116 rfl) ?_
        refine zx_lift (pc' := 118) (fun _ => zq_dup rfl dX12_takeClose_117 rfl) ?_
        refine zx_lift (pc' := 121) (fun _ => zt_getI zfr_X12_159 zfd_57_18 dX12_takeClose_118 rfl) ?_
        refine zx_lift (pc' := 122) (fun _ => zq_iconst (v := 1) dX12_takeClose_121 rfl rfl) ?_
        refine zx_lift (pc' := 123) (fun _ => zq_iadd dX12_takeClose_122 rfl) ?_
        refine zx_putI (pc' := 126) zfr_X12_159 (fun _ => ⟨rfl, rfl⟩) zfd_57_18 dX12_takeClose_123 rfl (fun s11 => ?_)
        refine zx_lift (pc' := 127) (fun _ => zq_iconst (v := 0) dX12_takeClose_126 rfl rfl) ?_
        exact zx_iret rfl dX12_takeClose_127
      · refine zx_less [.ref 57, .null, .null] (zq_cr (zq_cz (zq_cz zq_cn))) ?_
        exact xX12_takeClose_j34_j N s
theorem cX12_takeClose_mc (N : Nat)  (p1 : Int32) (s : zq_S) (v : Int32 × zq_S) (h : mX12_takeClose N p1 s = some v) : zq_MC yX12_takeClose cX12_takeClose 3 (some .int) ⟨1, 0, 0, 24⟩ 0 0 [.ref 57, .int p1] (zq_en s) (zv_i v.1, zq_en v.2) := zq_MC_x [.ref 57, .int p1, .null] (by decide +kernel) rfl rfl (Nat.le_of_ble_eq_true rfl) (xX12_takeClose N p1 s) h
def mX12_takeWord (N : Nat)   (s : zq_S) : Option (Int32 × zq_S) :=
  zq_b2 (mX12_takeNumber N (99 : Int32) s) (fun r1 s2 =>
  if r1 ≤ (0 : Int32) then
  if (zgf s2 57 27) = (40 : Int32) then
  zq_b2 (mX12_fails N (4 : Int32) (zgf s2 57 20) s2) (fun r4 s5 =>
  some (r4, s5))
  else
  zq_let (zpf s2 57 27 ((zgf s2 57 27) + (1 : Int32))) (fun s3 =>
  some ((0 : Int32), s3))
  else
  some (r1, s2))
set_option maxRecDepth 20000 in
set_option maxHeartbeats 2000000 in
theorem xX12_takeWord (N : Nat)   (s : zq_S) : zq_X yX12_takeWord RX12 cX12_takeWord 2 (some .int) ⟨2, 0, 0, 47⟩ zv_i 0 [.ref 57, .null] [] s (mX12_takeWord N s) := by
  unfold mX12_takeWord
  refine zx_lift (pc' := 1) (fun _ => zq_aload_n rfl rfl dX12_takeWord_0 rfl) ?_
  refine zx_lift (pc' := 3) (fun _ => zq_bipush (v := 99) dX12_takeWord_1 rfl rfl) ?_
  refine zx_cVi (pc' := 6) zcv_X12_182 (cX12_takeNumber_mc N (99 : Int32) s) zob_57 rfl (by decide) (Nat.le_of_ble_eq_true rfl) dX12_takeWord_3 rfl rfl (fun r1 s2 => ?_)
  refine zx_lift (pc' := 7) (fun _ => zq_istore_n (ls' := [.ref 57, .int r1]) rfl (by decide) rfl rfl dX12_takeWord_6 rfl) ?_
  refine zx_lift (pc' := 8) (fun _ => zq_iload_n rfl rfl dX12_takeWord_7 rfl) ?_
  refine zx_if_le (pc' := 11) (tgt := 13) dX12_takeWord_8 rfl rfl (fun hc => ?_) (fun hc => ?_)
  · refine zx_lift (pc' := 14) (fun _ => zq_aload_n rfl rfl dX12_takeWord_13 rfl) ?_
    refine zx_lift (pc' := 17) (fun _ => zt_getI zfr_X12_193 zfd_57_27 dX12_takeWord_14 rfl) ?_
    refine zx_lift (pc' := 19) (fun _ => zq_bipush (v := 40) dX12_takeWord_17 rfl rfl) ?_
    refine zx_icmp_ne (pc' := 22) (tgt := 32) dX12_takeWord_19 rfl rfl (fun hc => ?_) (fun hc => ?_)
    · refine zx_lift (pc' := 33) (fun _ => zq_aload_n rfl rfl dX12_takeWord_32 rfl) ?_
      refine zx_lift (pc' := 34) (fun _ => zq_dup rfl dX12_takeWord_33 rfl) ?_
      refine zx_lift (pc' := 37) (fun _ => zt_getI zfr_X12_193 zfd_57_27 dX12_takeWord_34 rfl) ?_
      refine zx_lift (pc' := 38) (fun _ => zq_iconst (v := 1) dX12_takeWord_37 rfl rfl) ?_
      refine zx_lift (pc' := 39) (fun _ => zq_iadd dX12_takeWord_38 rfl) ?_
      refine zx_putI (pc' := 42) zfr_X12_193 (fun _ => ⟨rfl, rfl⟩) zfd_57_27 dX12_takeWord_39 rfl (fun s3 => ?_)
      refine zx_lift (pc' := 43) (fun _ => zq_iconst (v := 0) dX12_takeWord_42 rfl rfl) ?_
      exact zx_iret rfl dX12_takeWord_43
    · refine zx_lift (pc' := 23) (fun _ => zq_aload_n rfl rfl dX12_takeWord_22 rfl) ?_
      refine zx_lift (pc' := 24) (fun _ => zq_iconst (v := 4) dX12_takeWord_23 rfl rfl) ?_
      refine zx_lift (pc' := 25) (fun _ => zq_aload_n rfl rfl dX12_takeWord_24 rfl) ?_
      refine zx_lift (pc' := 28) (fun _ => zt_getI zfr_X12_173 zfd_57_20 dX12_takeWord_25 rfl) ?_
      refine zx_cVi (pc' := 31) zcv_X12_169 (cX12_fails_mc N (4 : Int32) (zgf s2 57 20) s2) zob_57 rfl (by decide) (Nat.le_of_ble_eq_true rfl) dX12_takeWord_28 rfl rfl (fun r4 s5 => ?_)
      exact zx_iret rfl dX12_takeWord_31
  · refine zx_lift (pc' := 12) (fun _ => zq_iload_n rfl rfl dX12_takeWord_11 rfl) ?_
    exact zx_iret rfl dX12_takeWord_12
theorem cX12_takeWord_mc (N : Nat)   (s : zq_S) (v : Int32 × zq_S) (h : mX12_takeWord N s = some v) : zq_MC yX12_takeWord cX12_takeWord 2 (some .int) ⟨2, 0, 0, 47⟩ 0 0 [.ref 57] (zq_en s) (zv_i v.1, zq_en v.2) := zq_MC_x [.ref 57, .null] (by decide +kernel) rfl rfl (Nat.le_of_ble_eq_true rfl) (xX12_takeWord N s) h
