def bX12_nearest_32 (N : Nat)  (f1 : Int32) (f2 : Int32) (k65 : zq_S → Option (Int32 × zq_S)) (self : Int32 × zq_S → Option (Int32 × zq_S)) (v : Int32 × zq_S) : Option (Int32 × zq_S) :=
  zq_ck f1 4 (
  if (zga v.2 92 f1) ≤ v.1 then
  k65 v.2
  else
  zq_ck (((40 : Int32) * f1) + v.1) 160 (
  zq_ck v.1 40 (
  zq_let (zpa v.2 89 v.1 (zga v.2 93 (((40 : Int32) * f1) + v.1))) (fun s7 =>
  zq_let (v.1 + (1 : Int32)) (fun x8 =>
  self (x8, s7))))))
set_option maxRecDepth 20000 in
set_option maxHeartbeats 2000000 in
theorem xX12_nearest_32 (N : Nat)  (f1 : Int32) (f2 : Int32) (k65 : zq_S → Option (Int32 × zq_S)) (hk65 : ∀ e, zq_X yX12_nearest RX12 cX12_nearest 8 (some .int) ⟨4, 0, 0, 91⟩ zv_i 65 [.ref 57, .int f1, .int f2, .null, .null, .null, .null, .null] [] e (k65 e)) (self : Int32 × zq_S → Option (Int32 × zq_S)) (hself : ∀ v, zq_X yX12_nearest RX12 cX12_nearest 8 (some .int) ⟨4, 0, 0, 91⟩ zv_i 32 [.ref 57, .int f1, .int f2, .int v.1, .null, .null, .null, .null] [] v.2 (self v)) (v : Int32 × zq_S) : zq_X yX12_nearest RX12 cX12_nearest 8 (some .int) ⟨4, 0, 0, 91⟩ zv_i 32 [.ref 57, .int f1, .int f2, .int v.1, .null, .null, .null, .null] [] v.2 (bX12_nearest_32 N f1 f2 k65 self v) := by
  unfold bX12_nearest_32
  refine zx_lift (pc' := 33) (fun _ => zq_iload_n rfl rfl dX12_nearest_32 rfl) ?_
  refine zx_lift (pc' := 34) (fun _ => zq_aload_n rfl rfl dX12_nearest_33 rfl) ?_
  refine zx_lift (pc' := 37) (fun _ => zt_getR zfr_X12_119 zfd_57_55 dX12_nearest_34 rfl) ?_
  refine zx_lift (pc' := 38) (fun _ => zq_iload_n rfl rfl dX12_nearest_37 rfl) ?_
  refine zx_iaload (pc' := 39) zsh_92 dX12_nearest_38 rfl ?_
  refine zx_icmp_ge (pc' := 42) (tgt := 65) dX12_nearest_39 rfl rfl (fun hc => ?_) (fun hc => ?_)
  · refine zx_less [.ref 57, .int f1, .int f2, .null, .null, .null, .null, .null] (zq_cr (zq_cr (zq_cr (zq_cz (zq_cz (zq_cz (zq_cz (zq_cz zq_cn)))))))) ?_
    exact hk65 v.2
  · refine zx_lift (pc' := 43) (fun _ => zq_aload_n rfl rfl dX12_nearest_42 rfl) ?_
    refine zx_lift (pc' := 46) (fun _ => zt_getR zfr_X12_110 zfd_57_50 dX12_nearest_43 rfl) ?_
    refine zx_lift (pc' := 47) (fun _ => zq_iload_n rfl rfl dX12_nearest_46 rfl) ?_
    refine zx_lift (pc' := 48) (fun _ => zq_aload_n rfl rfl dX12_nearest_47 rfl) ?_
    refine zx_lift (pc' := 51) (fun _ => zt_getR zfr_X12_122 zfd_57_56 dX12_nearest_48 rfl) ?_
    refine zx_lift (pc' := 53) (fun _ => zq_bipush (v := 40) dX12_nearest_51 rfl rfl) ?_
    refine zx_lift (pc' := 54) (fun _ => zq_iload_n rfl rfl dX12_nearest_53 rfl) ?_
    refine zx_lift (pc' := 55) (fun _ => zq_imul dX12_nearest_54 rfl) ?_
    refine zx_lift (pc' := 56) (fun _ => zq_iload_n rfl rfl dX12_nearest_55 rfl) ?_
    refine zx_lift (pc' := 57) (fun _ => zq_iadd dX12_nearest_56 rfl) ?_
    refine zx_iaload (pc' := 58) zsh_93 dX12_nearest_57 rfl ?_
    refine zx_iastore (pc' := 59) zsh_89 dX12_nearest_58 rfl (fun s7 => ?_)
    refine zx_iinc (pc' := 62) (ls' := fun x8 => [.ref 57, .int f1, .int f2, .int x8, .null, .null, .null, .null]) rfl rfl (by decide) rfl (fun _ => rfl) dX12_nearest_59 rfl (fun x8 => ?_)
    refine zx_lift (pc' := 32) (fun _ => zq_goto dX12_nearest_62 rfl) ?_
    exact hself (x8, s7)
theorem yX12_nearest_32 (N : Nat)  (f1 : Int32) (f2 : Int32) (k65 : zq_S → Option (Int32 × zq_S)) (hk65 : ∀ e, zq_X yX12_nearest RX12 cX12_nearest 8 (some .int) ⟨4, 0, 0, 91⟩ zv_i 65 [.ref 57, .int f1, .int f2, .null, .null, .null, .null, .null] [] e (k65 e)) (n : Nat) : ∀ v : Int32 × zq_S, zq_X yX12_nearest RX12 cX12_nearest 8 (some .int) ⟨4, 0, 0, 91⟩ zv_i 32 [.ref 57, .int f1, .int f2, .int v.1, .null, .null, .null, .null] [] v.2 (zq_loop (bX12_nearest_32 N f1 f2 k65) n v) := by
  induction n with
  | zero => exact fun v u hu => by cases hu
  | succ n ih =>
    intro v
    rw [zq_loop_s]
    exact xX12_nearest_32 N f1 f2 k65 hk65 (zq_loop (bX12_nearest_32 N f1 f2 k65) n) ih v
def jX12_nearest_j158 (N : Nat)  (f1 : Int32) (f2 : Int32)  (self : Int32 × Int32 × Int32 × zq_S → Option (Int32 × zq_S)) (w3 : Int32) (w4 : Int32) (w5 : Int32) (s : zq_S) : Option (Int32 × zq_S) :=
  zq_let (w5 + (1 : Int32)) (fun x13 =>
  self (w3, w4, x13, s))
set_option maxRecDepth 20000 in
set_option maxHeartbeats 2000000 in
theorem xX12_nearest_j158_j (N : Nat)  (f1 : Int32) (f2 : Int32)  (self : Int32 × Int32 × Int32 × zq_S → Option (Int32 × zq_S)) (hself : ∀ v, zq_X yX12_nearest RX12 cX12_nearest 8 (some .int) ⟨4, 0, 0, 91⟩ zv_i 73 [.ref 57, .int f1, .int f2, .int v.1, .int v.2.1, .int v.2.2.1, .null, .null] [] v.2.2.2 (self v)) (w3 : Int32) (w4 : Int32) (w5 : Int32) (s : zq_S) : zq_X yX12_nearest RX12 cX12_nearest 8 (some .int) ⟨4, 0, 0, 91⟩ zv_i 158 [.ref 57, .int f1, .int f2, .int w3, .int w4, .int w5, .null, .null] [] s (jX12_nearest_j158 N f1 f2 self w3 w4 w5 s) := by
  unfold jX12_nearest_j158
  refine zx_iinc (pc' := 161) (ls' := fun x13 => [.ref 57, .int f1, .int f2, .int w3, .int w4, .int x13, .null, .null]) rfl rfl (by decide) rfl (fun _ => rfl) dX12_nearest_158 rfl (fun x13 => ?_)
  refine zx_lift (pc' := 73) (fun _ => zq_goto dX12_nearest_161 rfl) ?_
  exact hself (w3, w4, x13, s)
def bX12_nearest_73 (N : Nat)  (f1 : Int32) (f2 : Int32)  (self : Int32 × Int32 × Int32 × zq_S → Option (Int32 × zq_S)) (v : Int32 × Int32 × Int32 × zq_S) : Option (Int32 × zq_S) :=
  zq_b2 (mX12_all N v.2.2.2) (fun r10 s11 =>
  if r10 < v.2.2.1 then
  zq_let (if f2 = (0 : Int32) then v.2.1 else v.1) (fun x12 =>
  some (x12, s11))
  else
  zq_ck v.2.2.1 1024 (
  if (zga s11 78 v.2.2.1) = (0 : Int32) then
  jX12_nearest_j158 N f1 f2 self v.1 v.2.1 v.2.2.1 s11
  else
  zq_b2 (mX12_fill_a88 N v.2.2.1 s11) (fun r14 s15 =>
  zq_ck f1 4 (
  zq_b2 (mX12_distance N r14 (zga s15 92 f1) s15) (fun r16 s17 =>
  zq_let (if v.1 < (0 : Int32) then (1 : Int32) else (if v.2.1 ≤ r16 then (0 : Int32) else (1 : Int32))) (fun x18 =>
  zq_let (if x18 = (0 : Int32) then v.1 else v.2.2.1) (fun x19 =>
  zq_let (if x18 = (0 : Int32) then v.2.1 else r16) (fun x20 =>
  jX12_nearest_j158 N f1 f2 self x19 x20 v.2.2.1 s17))))))))
set_option maxRecDepth 20000 in
set_option maxHeartbeats 2000000 in
theorem xX12_nearest_73 (N : Nat)  (f1 : Int32) (f2 : Int32)  (self : Int32 × Int32 × Int32 × zq_S → Option (Int32 × zq_S)) (hself : ∀ v, zq_X yX12_nearest RX12 cX12_nearest 8 (some .int) ⟨4, 0, 0, 91⟩ zv_i 73 [.ref 57, .int f1, .int f2, .int v.1, .int v.2.1, .int v.2.2.1, .null, .null] [] v.2.2.2 (self v)) (v : Int32 × Int32 × Int32 × zq_S) : zq_X yX12_nearest RX12 cX12_nearest 8 (some .int) ⟨4, 0, 0, 91⟩ zv_i 73 [.ref 57, .int f1, .int f2, .int v.1, .int v.2.1, .int v.2.2.1, .null, .null] [] v.2.2.2 (bX12_nearest_73 N f1 f2 self v) := by
  unfold bX12_nearest_73
  refine zx_lift (pc' := 75) (fun _ => zq_iload rfl dX12_nearest_73 rfl) ?_
  refine zx_lift (pc' := 76) (fun _ => zq_aload_n rfl rfl dX12_nearest_75 rfl) ?_
  refine zx_cVi (pc' := 79) zcv_X12_148 (cX12_all_mc N v.2.2.2) zob_57 rfl (by decide) (Nat.le_of_ble_eq_true rfl) dX12_nearest_76 rfl rfl (fun r10 s11 => ?_)
  refine zx_icmp_gt (pc' := 82) (tgt := 164) dX12_nearest_79 rfl rfl (fun hc => ?_) (fun hc => ?_)
  · refine zx_lift (pc' := 165) (fun _ => zq_iload_n rfl rfl dX12_nearest_164 rfl) ?_
    refine zx_tern (pcJ := 174) (lsJ := fun x12 => [.null, .null, .null, .null, .null, .null, .null, .null]) (stJ := fun x12 => [.int x12]) (fun x12 => ?_) (fun f hJ => ?_)
    rotate_left
    · refine zx_lif_ne (pc' := 168) (tgt := 173) dX12_nearest_165 rfl rfl (fun _ => ?_) (fun _ => ?_)
      · refine zx_lift (pc' := 174) (fun _ => zq_iload_n rfl rfl dX12_nearest_173 rfl) ?_
        exact zx_lessJ (zq_cz (zq_cz (zq_cz (zq_cz (zq_cz (zq_cz (zq_cz (zq_cz zq_cn)))))))) (hJ _)
      · refine zx_lift (pc' := 170) (fun _ => zq_iload rfl dX12_nearest_168 rfl) ?_
        refine zx_lift (pc' := 174) (fun _ => zq_goto dX12_nearest_170 rfl) ?_
        exact zx_lessJ (zq_cz (zq_cz (zq_cz (zq_cz (zq_cz (zq_cz (zq_cz (zq_cz zq_cn)))))))) (hJ _)
    exact zx_iret rfl dX12_nearest_174
  · refine zx_lift (pc' := 83) (fun _ => zq_aload_n rfl rfl dX12_nearest_82 rfl) ?_
    refine zx_lift (pc' := 86) (fun _ => zt_getR zfr_X12_75 zfd_57_38 dX12_nearest_83 rfl) ?_
    refine zx_lift (pc' := 88) (fun _ => zq_iload rfl dX12_nearest_86 rfl) ?_
    refine zx_zaload (pc' := 89) zsh_78 dX12_nearest_88 rfl ?_
    refine zx_if_eq (pc' := 92) (tgt := 158) dX12_nearest_89 rfl rfl (fun hc => ?_) (fun hc => ?_)
    · exact xX12_nearest_j158_j N f1 f2 self hself v.1 v.2.1 v.2.2.1 s11
    · refine zx_lift (pc' := 93) (fun _ => zq_aload_n rfl rfl dX12_nearest_92 rfl) ?_
      refine zx_lift (pc' := 94) (fun _ => zq_aload_n rfl rfl dX12_nearest_93 rfl) ?_
      refine zx_lift (pc' := 96) (fun _ => zq_iload rfl dX12_nearest_94 rfl) ?_
      refine zx_lift (pc' := 97) (fun _ => zq_aload_n rfl rfl dX12_nearest_96 rfl) ?_
      refine zx_lift (pc' := 100) (fun _ => zt_getR zfr_X12_107 zfd_57_49 dX12_nearest_97 rfl) ?_
      refine zx_cVi (pc' := 103) zcv_X12_356 (cX12_fill_a88_mc N v.2.2.1 s11) zob_57 rfl (by decide) (Nat.le_of_ble_eq_true rfl) dX12_nearest_100 rfl rfl (fun r14 s15 => ?_)
      refine zx_lift (pc' := 104) (fun _ => zq_aload_n rfl rfl dX12_nearest_103 rfl) ?_
      refine zx_lift (pc' := 107) (fun _ => zt_getR zfr_X12_119 zfd_57_55 dX12_nearest_104 rfl) ?_
      refine zx_lift (pc' := 108) (fun _ => zq_iload_n rfl rfl dX12_nearest_107 rfl) ?_
      refine zx_iaload (pc' := 109) zsh_92 dX12_nearest_108 rfl ?_
      refine zx_cVi (pc' := 112) zcv_X12_360 (cX12_distance_mc N r14 (zga s15 92 f1) s15) zob_57 rfl (by decide) (Nat.le_of_ble_eq_true rfl) dX12_nearest_109 rfl rfl (fun r16 s17 => ?_)
      refine zx_lift (pc' := 114) (fun _ => zq_istore (ls' := [.ref 57, .int f1, .int f2, .int v.1, .int v.2.1, .int v.2.2.1, .int r16, .null]) (by decide) rfl rfl dX12_nearest_112 rfl) ?_
      refine zx_lift (pc' := 115) (fun _ => zq_iload_n rfl rfl dX12_nearest_114 rfl) ?_
      refine zx_tern (pcJ := 130) (lsJ := fun x18 => [.ref 57, .int f1, .int f2, .int v.1, .int v.2.1, .int v.2.2.1, .int r16, .null]) (stJ := fun x18 => [.int x18]) (fun x18 => ?_) (fun f hJ => ?_)
      rotate_left
      · refine zx_lif_lt (pc' := 118) (tgt := 125) dX12_nearest_115 rfl rfl (fun _ => ?_) (fun _ => ?_)
        · refine zx_lift (pc' := 126) (fun _ => zq_iconst (v := 1) dX12_nearest_125 rfl rfl) ?_
          refine zx_lift (pc' := 130) (fun _ => zq_goto dX12_nearest_126 rfl) ?_
          exact zx_lessJ (zq_cr (zq_cr (zq_cr (zq_cr (zq_cr (zq_cr (zq_cr (zq_cz zq_cn)))))))) (hJ _)
        · refine zx_lift (pc' := 120) (fun _ => zq_iload rfl dX12_nearest_118 rfl) ?_
          refine zx_lift (pc' := 122) (fun _ => zq_iload rfl dX12_nearest_120 rfl) ?_
          refine zx_licmp_ge (pc' := 125) (tgt := 129) dX12_nearest_122 rfl rfl (fun _ => ?_) (fun _ => ?_)
          · refine zx_lift (pc' := 130) (fun _ => zq_iconst (v := 0) dX12_nearest_129 rfl rfl) ?_
            exact zx_lessJ (zq_cr (zq_cr (zq_cr (zq_cr (zq_cr (zq_cr (zq_cr (zq_cz zq_cn)))))))) (hJ _)
          · refine zx_lift (pc' := 126) (fun _ => zq_iconst (v := 1) dX12_nearest_125 rfl rfl) ?_
            refine zx_lift (pc' := 130) (fun _ => zq_goto dX12_nearest_126 rfl) ?_
            exact zx_lessJ (zq_cr (zq_cr (zq_cr (zq_cr (zq_cr (zq_cr (zq_cr (zq_cz zq_cn)))))))) (hJ _)
      refine zx_lift (pc' := 132) (fun _ => zq_istore (ls' := [.ref 57, .int f1, .int f2, .int v.1, .int v.2.1, .int v.2.2.1, .int r16, .int x18]) (by decide) rfl rfl dX12_nearest_130 rfl) ?_
      refine zx_lift (pc' := 134) (fun _ => zq_iload rfl dX12_nearest_132 rfl) ?_
      refine zx_tern (pcJ := 143) (lsJ := fun x19 => [.ref 57, .int f1, .int f2, .null, .int v.2.1, .int v.2.2.1, .int r16, .int x18]) (stJ := fun x19 => [.int x19]) (fun x19 => ?_) (fun f hJ => ?_)
      rotate_left
      · refine zx_lif_eq (pc' := 137) (tgt := 142) dX12_nearest_134 rfl rfl (fun _ => ?_) (fun _ => ?_)
        · refine zx_lift (pc' := 143) (fun _ => zq_iload_n rfl rfl dX12_nearest_142 rfl) ?_
          exact zx_lessJ (zq_cr (zq_cr (zq_cr (zq_cz (zq_cr (zq_cr (zq_cr (zq_cr zq_cn)))))))) (hJ _)
        · refine zx_lift (pc' := 139) (fun _ => zq_iload rfl dX12_nearest_137 rfl) ?_
          refine zx_lift (pc' := 143) (fun _ => zq_goto dX12_nearest_139 rfl) ?_
          exact zx_lessJ (zq_cr (zq_cr (zq_cr (zq_cz (zq_cr (zq_cr (zq_cr (zq_cr zq_cn)))))))) (hJ _)
      refine zx_lift (pc' := 144) (fun _ => zq_istore_n (ls' := [.ref 57, .int f1, .int f2, .int x19, .int v.2.1, .int v.2.2.1, .int r16, .int x18]) rfl (by decide) rfl rfl dX12_nearest_143 rfl) ?_
      refine zx_lift (pc' := 146) (fun _ => zq_iload rfl dX12_nearest_144 rfl) ?_
      refine zx_tern (pcJ := 156) (lsJ := fun x20 => [.ref 57, .int f1, .int f2, .int x19, .null, .int v.2.2.1, .null, .null]) (stJ := fun x20 => [.int x20]) (fun x20 => ?_) (fun f hJ => ?_)
      rotate_left
      · refine zx_lif_eq (pc' := 149) (tgt := 154) dX12_nearest_146 rfl rfl (fun _ => ?_) (fun _ => ?_)
        · refine zx_lift (pc' := 156) (fun _ => zq_iload rfl dX12_nearest_154 rfl) ?_
          exact zx_lessJ (zq_cr (zq_cr (zq_cr (zq_cr (zq_cz (zq_cr (zq_cz (zq_cz zq_cn)))))))) (hJ _)
        · refine zx_lift (pc' := 151) (fun _ => zq_iload rfl dX12_nearest_149 rfl) ?_
          refine zx_lift (pc' := 156) (fun _ => zq_goto dX12_nearest_151 rfl) ?_
          exact zx_lessJ (zq_cr (zq_cr (zq_cr (zq_cr (zq_cz (zq_cr (zq_cz (zq_cz zq_cn)))))))) (hJ _)
      refine zx_lift (pc' := 158) (fun _ => zq_istore (ls' := [.ref 57, .int f1, .int f2, .int x19, .int x20, .int v.2.2.1, .null, .null]) (by decide) rfl rfl dX12_nearest_156 rfl) ?_
      exact xX12_nearest_j158_j N f1 f2 self hself x19 x20 v.2.2.1 s17
theorem yX12_nearest_73 (N : Nat)  (f1 : Int32) (f2 : Int32)  (n : Nat) : ∀ v : Int32 × Int32 × Int32 × zq_S, zq_X yX12_nearest RX12 cX12_nearest 8 (some .int) ⟨4, 0, 0, 91⟩ zv_i 73 [.ref 57, .int f1, .int f2, .int v.1, .int v.2.1, .int v.2.2.1, .null, .null] [] v.2.2.2 (zq_loop (bX12_nearest_73 N f1 f2 ) n v) := by
  induction n with
  | zero => exact fun v u hu => by cases hu
  | succ n ih =>
    intro v
    rw [zq_loop_s]
    exact xX12_nearest_73 N f1 f2  (zq_loop (bX12_nearest_73 N f1 f2 ) n) ih v
def mX12_nearest (N : Nat)  (p1 : Int32) (p2 : Int32) (s : zq_S) : Option (Int32 × zq_S) :=
  zq_b2 (mX12_isCopy N p1 s) (fun r1 s2 =>
  if r1 = (0 : Int32) then
  some ((-1001 : Int32), s2)
  else
  zq_b2 (mX12_in N (Int32.toInt64 p2) (0 : Int64) (1 : Int64) s2) (fun r3 s4 =>
  if r3 = (0 : Int32) then
  some ((-1002 : Int32), s4)
  else
  zq_b2 (mX12_findTexts N s4) (fun r5 s6 =>
  zq_loop (bX12_nearest_32 N p1 p2 (fun e9 =>
  zq_loop (bX12_nearest_73 N p1 p2 ) N ((-1 : Int32), (0 : Int32), (0 : Int32), e9))) N ((0 : Int32), s6))))
set_option maxRecDepth 20000 in
set_option maxHeartbeats 2000000 in
theorem xX12_nearest (N : Nat)  (p1 : Int32) (p2 : Int32) (s : zq_S) : zq_X yX12_nearest RX12 cX12_nearest 8 (some .int) ⟨4, 0, 0, 91⟩ zv_i 0 [.ref 57, .int p1, .int p2, .null, .null, .null, .null, .null] [] s (mX12_nearest N p1 p2 s) := by
  unfold mX12_nearest
  refine zx_lift (pc' := 1) (fun _ => zq_aload_n rfl rfl dX12_nearest_0 rfl) ?_
  refine zx_lift (pc' := 2) (fun _ => zq_iload_n rfl rfl dX12_nearest_1 rfl) ?_
  refine zx_cVi (pc' := 5) zcv_X12_363 (cX12_isCopy_mc N p1 s) zob_57 rfl (by decide) (Nat.le_of_ble_eq_true rfl) dX12_nearest_2 rfl rfl (fun r1 s2 => ?_)
  refine zx_if_ne (pc' := 8) (tgt := 12) dX12_nearest_5 rfl rfl (fun hc => ?_) (fun hc => ?_)
  · refine zx_lift (pc' := 13) (fun _ => zq_iload_n rfl rfl dX12_nearest_12 rfl) ?_
    refine zx_lift (pc' := 14) (fun _ => zq_i2l dX12_nearest_13 rfl) ?_
    refine zx_lift (pc' := 15) (fun _ => zq_lconst (v := 0) dX12_nearest_14 rfl rfl) ?_
    refine zx_lift (pc' := 16) (fun _ => zq_lconst (v := 1) dX12_nearest_15 rfl rfl) ?_
    refine zx_cSi (pc' := 19) zcs_X12_144 (cX12_in_mc N (Int32.toInt64 p2) (0 : Int64) (1 : Int64) s2) rfl (by decide) (Nat.le_of_ble_eq_true rfl) dX12_nearest_16 rfl rfl (fun r3 s4 => ?_)
    refine zx_if_ne (pc' := 22) (tgt := 26) dX12_nearest_19 rfl rfl (fun hc => ?_) (fun hc => ?_)
    · refine zx_lift (pc' := 27) (fun _ => zq_aload_n rfl rfl dX12_nearest_26 rfl) ?_
      refine zx_cVv (pc' := 30) zcv_X12_340 (cX12_findTexts_mc N s4) zob_57 rfl (by decide) (Nat.le_of_ble_eq_true rfl) dX12_nearest_27 rfl rfl (fun r5 s6 => ?_)
      refine zx_lift (pc' := 31) (fun _ => zq_iconst (v := 0) dX12_nearest_30 rfl rfl) ?_
      refine zx_lift (pc' := 32) (fun _ => zq_istore_n (ls' := [.ref 57, .int p1, .int p2, .int (0 : Int32), .null, .null, .null, .null]) rfl (by decide) rfl rfl dX12_nearest_31 rfl) ?_
      refine yX12_nearest_32 N p1 p2 _ (fun e9 => ?_) N ((0 : Int32), s6)
      refine zx_lift (pc' := 66) (fun _ => zq_iconst (v := (-1)) dX12_nearest_65 rfl rfl) ?_
      refine zx_lift (pc' := 67) (fun _ => zq_istore_n (ls' := [.ref 57, .int p1, .int p2, .int (-1 : Int32), .null, .null, .null, .null]) rfl (by decide) rfl rfl dX12_nearest_66 rfl) ?_
      refine zx_lift (pc' := 68) (fun _ => zq_iconst (v := 0) dX12_nearest_67 rfl rfl) ?_
      refine zx_lift (pc' := 70) (fun _ => zq_istore (ls' := [.ref 57, .int p1, .int p2, .int (-1 : Int32), .int (0 : Int32), .null, .null, .null]) (by decide) rfl rfl dX12_nearest_68 rfl) ?_
      refine zx_lift (pc' := 71) (fun _ => zq_iconst (v := 0) dX12_nearest_70 rfl rfl) ?_
      refine zx_lift (pc' := 73) (fun _ => zq_istore (ls' := [.ref 57, .int p1, .int p2, .int (-1 : Int32), .int (0 : Int32), .int (0 : Int32), .null, .null]) (by decide) rfl rfl dX12_nearest_71 rfl) ?_
      refine yX12_nearest_73 N p1 p2  N ((-1 : Int32), (0 : Int32), (0 : Int32), e9)
    · refine zx_lift (pc' := 25) (fun _ => zq_sipush (v := (-1002)) dX12_nearest_22 rfl rfl) ?_
      exact zx_iret rfl dX12_nearest_25
  · refine zx_lift (pc' := 11) (fun _ => zq_sipush (v := (-1001)) dX12_nearest_8 rfl rfl) ?_
    exact zx_iret rfl dX12_nearest_11
theorem cX12_nearest_mc (N : Nat)  (p1 : Int32) (p2 : Int32) (s : zq_S) (v : Int32 × zq_S) (h : mX12_nearest N p1 p2 s = some v) : zq_MC yX12_nearest cX12_nearest 8 (some .int) ⟨4, 0, 0, 91⟩ 0 0 [.ref 57, .int p1, .int p2] (zq_en s) (zv_i v.1, zq_en v.2) := zq_MC_x [.ref 57, .int p1, .int p2, .null, .null, .null, .null, .null] (by decide +kernel) rfl rfl (Nat.le_of_ble_eq_true rfl) (xX12_nearest N p1 p2 s) h
def jX12_next_j32 (N : Nat)   (t0 : Int32) (s : zq_S) : Option (Int32 × zq_S) :=
  some (t0, s)
set_option maxRecDepth 20000 in
set_option maxHeartbeats 2000000 in
theorem xX12_next_j32_j (N : Nat)   (t0 : Int32) (s : zq_S) : zq_X yX12_next RX12 cX12_next 2 (some .int) ⟨3, 0, 0, 65⟩ zv_i 32 [.null, .null] [.int t0] s (jX12_next_j32 N t0 s) := by
  unfold jX12_next_j32
  exact zx_iret rfl dX12_next_32
def mX12_next (N : Nat)  (p1 : Int32) (s : zq_S) : Option (Int32 × zq_S) :=
  zq_b2 (mX12_areMarks N p1 s) (fun r1 s2 =>
  if r1 = (0 : Int32) then
  some ((-1001 : Int32), s2)
  else
  zq_b2 (mX12_isGoodSet N p1 s2) (fun r3 s4 =>
  if r3 = (0 : Int32) then
  jX12_next_j32 N (-1003 : Int32) s4
  else
  zq_ck p1 1024 (
  jX12_next_j32 N (zga s4 79 p1) s4)))
set_option maxRecDepth 20000 in
set_option maxHeartbeats 2000000 in
theorem xX12_next (N : Nat)  (p1 : Int32) (s : zq_S) : zq_X yX12_next RX12 cX12_next 2 (some .int) ⟨3, 0, 0, 65⟩ zv_i 0 [.ref 57, .int p1] [] s (mX12_next N p1 s) := by
  unfold mX12_next
  refine zx_lift (pc' := 1) (fun _ => zq_aload_n rfl rfl dX12_next_0 rfl) ?_
  refine zx_lift (pc' := 2) (fun _ => zq_iload_n rfl rfl dX12_next_1 rfl) ?_
  refine zx_cVi (pc' := 5) zcv_X12_310 (cX12_areMarks_mc N p1 s) zob_57 rfl (by decide) (Nat.le_of_ble_eq_true rfl) dX12_next_2 rfl rfl (fun r1 s2 => ?_)
  refine zx_if_ne (pc' := 8) (tgt := 12) dX12_next_5 rfl rfl (fun hc => ?_) (fun hc => ?_)
  · refine zx_lift (pc' := 13) (fun _ => zq_aload_n rfl rfl dX12_next_12 rfl) ?_
    refine zx_lift (pc' := 14) (fun _ => zq_iload_n rfl rfl dX12_next_13 rfl) ?_
    refine zx_cVi (pc' := 17) zcv_X12_313 (cX12_isGoodSet_mc N p1 s2) zob_57 rfl (by decide) (Nat.le_of_ble_eq_true rfl) dX12_next_14 rfl rfl (fun r3 s4 => ?_)
    refine zx_if_eq (pc' := 20) (tgt := 29) dX12_next_17 rfl rfl (fun hc => ?_) (fun hc => ?_)
    · refine zx_lift (pc' := 32) (fun _ => zq_sipush (v := (-1003)) dX12_next_29 rfl rfl) ?_
      refine zx_less [.null, .null] (zq_cz (zq_cz zq_cn)) ?_
      exact xX12_next_j32_j N (-1003 : Int32) s4
    · refine zx_lift (pc' := 21) (fun _ => zq_aload_n rfl rfl dX12_next_20 rfl) ?_
      refine zx_lift (pc' := 24) (fun _ => zt_getR zfr_X12_78 zfd_57_39 dX12_next_21 rfl) ?_
      refine zx_lift (pc' := 25) (fun _ => zq_iload_n rfl rfl dX12_next_24 rfl) ?_
      refine zx_iaload (pc' := 26) zsh_79 dX12_next_25 rfl ?_
      refine zx_lift (pc' := 32) (fun _ => zq_goto dX12_next_26 rfl) ?_
      refine zx_less [.null, .null] (zq_cz (zq_cz zq_cn)) ?_
      exact xX12_next_j32_j N (zga s4 79 p1) s4
  · refine zx_lift (pc' := 11) (fun _ => zq_sipush (v := (-1001)) dX12_next_8 rfl rfl) ?_
    exact zx_iret rfl dX12_next_11
theorem cX12_next_mc (N : Nat)  (p1 : Int32) (s : zq_S) (v : Int32 × zq_S) (h : mX12_next N p1 s = some v) : zq_MC yX12_next cX12_next 2 (some .int) ⟨3, 0, 0, 65⟩ 0 0 [.ref 57, .int p1] (zq_en s) (zv_i v.1, zq_en v.2) := zq_MC_x [.ref 57, .int p1] (by decide +kernel) rfl rfl (Nat.le_of_ble_eq_true rfl) (xX12_next N p1 s) h
def jX12_order_j41 (N : Nat)    (s : zq_S) : Option (Int32 × zq_S) :=
  some ((-1 : Int32), s)
set_option maxRecDepth 20000 in
set_option maxHeartbeats 2000000 in
theorem xX12_order_j41_j (N : Nat)    (s : zq_S) : zq_X yX12_order RX12 cX12_order 13 (some .int) ⟨2, 0, 0, 44⟩ zv_i 41 [.null, .null, .null, .null, .null, .null, .null, .null, .null, .null, .null, .null, .null] [] s (jX12_order_j41 N s) := by
  unfold jX12_order_j41
  refine zx_lift (pc' := 42) (fun _ => zq_iconst (v := (-1)) dX12_order_41 rfl rfl) ?_
  exact zx_iret rfl dX12_order_42
def jX12_order_j112 (N : Nat)  (f3 : Int32) (f6 : Int32) (f8 : Int32) (k156 : Int64 × Int32 × zq_S → Option (Int32 × zq_S)) (self : Int64 × Int32 × Int32 × zq_S → Option (Int32 × zq_S)) (w4 : Int64) (w9 : Int32) (w10 : Int32) (t0 : Int64) (s : zq_S) : Option (Int32 × zq_S) :=
  zq_let (if (lg_cmp t0 w4) ≤ (0 : Int32) then w9 else w10) (fun x7 =>
  zq_let (if (lg_cmp t0 w4) ≤ (0 : Int32) then t0 else (0 : Int64)) (fun x8 =>
  zq_let (w4 - x8) (fun x9 =>
  zq_let (w10 + (1 : Int32)) (fun x10 =>
  self (x9, x7, x10, s)))))
set_option maxRecDepth 20000 in
set_option maxHeartbeats 2000000 in
theorem xX12_order_j112_j (N : Nat)  (f3 : Int32) (f6 : Int32) (f8 : Int32) (k156 : Int64 × Int32 × zq_S → Option (Int32 × zq_S)) (hk156 : ∀ e, zq_X yX12_order RX12 cX12_order 13 (some .int) ⟨2, 0, 0, 44⟩ zv_i 156 [.ref 57, .null, .null, .int f3, .long e.1, .null, .int f6, .null, .int f8, .int e.2.1, .null, .null, .null] [] e.2.2 (k156 e)) (self : Int64 × Int32 × Int32 × zq_S → Option (Int32 × zq_S)) (hself : ∀ v, zq_X yX12_order RX12 cX12_order 13 (some .int) ⟨2, 0, 0, 44⟩ zv_i 67 [.ref 57, .null, .null, .int f3, .long v.1, .null, .int f6, .null, .int f8, .int v.2.1, .int v.2.2.1, .null, .null] [] v.2.2.2 (self v)) (w4 : Int64) (w9 : Int32) (w10 : Int32) (t0 : Int64) (s : zq_S) : zq_X yX12_order RX12 cX12_order 13 (some .int) ⟨2, 0, 0, 44⟩ zv_i 112 [.ref 57, .null, .null, .int f3, .long w4, .null, .int f6, .null, .int f8, .int w9, .int w10, .null, .null] [.long t0] s (jX12_order_j112 N f3 f6 f8 k156 self w4 w9 w10 t0 s) := by
  unfold jX12_order_j112
  refine zx_lift (pc' := 114) (fun _ => zq_lstore (ls' := [.ref 57, .null, .null, .int f3, .long w4, .null, .int f6, .null, .int f8, .int w9, .int w10, .long t0, .null]) (by decide) rfl rfl dX12_order_112 rfl) ?_
  refine zx_lift (pc' := 116) (fun _ => zq_lload rfl dX12_order_114 rfl) ?_
  refine zx_lift (pc' := 118) (fun _ => zq_lload rfl dX12_order_116 rfl) ?_
  refine zx_lift (pc' := 119) (fun _ => zq_lcmp dX12_order_118 rfl) ?_
  refine zx_tern (pcJ := 129) (lsJ := fun x7 => [.ref 57, .null, .null, .int f3, .long w4, .null, .int f6, .null, .int f8, .null, .int w10, .long t0, .null]) (stJ := fun x7 => [.int x7]) (fun x7 => ?_) (fun f hJ => ?_)
  rotate_left
  · refine zx_lif_le (pc' := 122) (tgt := 127) dX12_order_119 rfl rfl (fun _ => ?_) (fun _ => ?_)
    · refine zx_lift (pc' := 129) (fun _ => zq_iload rfl dX12_order_127 rfl) ?_
      exact zx_lessJ (zq_cr (zq_cz (zq_cz (zq_cr (zq_cr (zq_cz (zq_cr (zq_cz (zq_cr (zq_cz (zq_cr (zq_cr (zq_cz zq_cn))))))))))))) (hJ _)
    · refine zx_lift (pc' := 124) (fun _ => zq_iload rfl dX12_order_122 rfl) ?_
      refine zx_lift (pc' := 129) (fun _ => zq_goto dX12_order_124 rfl) ?_
      exact zx_lessJ (zq_cr (zq_cz (zq_cz (zq_cr (zq_cr (zq_cz (zq_cr (zq_cz (zq_cr (zq_cz (zq_cr (zq_cr (zq_cz zq_cn))))))))))))) (hJ _)
  refine zx_lift (pc' := 131) (fun _ => zq_istore (ls' := [.ref 57, .null, .null, .int f3, .long w4, .null, .int f6, .null, .int f8, .int x7, .int w10, .long t0, .null]) (by decide) rfl rfl dX12_order_129 rfl) ?_
  refine zx_lift (pc' := 133) (fun _ => zq_lload rfl dX12_order_131 rfl) ?_
  refine zx_lift (pc' := 135) (fun _ => zq_lload rfl dX12_order_133 rfl) ?_
  refine zx_lift (pc' := 137) (fun _ => zq_lload rfl dX12_order_135 rfl) ?_
  refine zx_lift (pc' := 138) (fun _ => zq_lcmp dX12_order_137 rfl) ?_
  refine zx_tern (pcJ := 147) (lsJ := fun x8 => [.ref 57, .null, .null, .int f3, .null, .null, .int f6, .null, .int f8, .int x7, .int w10, .null, .null]) (stJ := fun x8 => [.long x8, .long w4]) (fun x8 => ?_) (fun f hJ => ?_)
  rotate_left
  · refine zx_lif_le (pc' := 141) (tgt := 145) dX12_order_138 rfl rfl (fun _ => ?_) (fun _ => ?_)
    · refine zx_lift (pc' := 147) (fun _ => zq_lload rfl dX12_order_145 rfl) ?_
      exact zx_lessJ (zq_cr (zq_cz (zq_cz (zq_cr (zq_cz (zq_cz (zq_cr (zq_cz (zq_cr (zq_cr (zq_cr (zq_cz (zq_cz zq_cn))))))))))))) (hJ _)
    · refine zx_lift (pc' := 142) (fun _ => zq_lconst (v := 0) dX12_order_141 rfl rfl) ?_
      refine zx_lift (pc' := 147) (fun _ => zq_goto dX12_order_142 rfl) ?_
      exact zx_lessJ (zq_cr (zq_cz (zq_cz (zq_cr (zq_cz (zq_cz (zq_cr (zq_cz (zq_cr (zq_cr (zq_cr (zq_cz (zq_cz zq_cn))))))))))))) (hJ _)
  refine zx_lift (pc' := 148) (fun _ => zq_lsub dX12_order_147 rfl) ?_
  refine zx_lstore (pc' := 150) (ls' := fun x9 => [.ref 57, .null, .null, .int f3, .long x9, .null, .int f6, .null, .int f8, .int x7, .int w10, .null, .null]) (by decide) rfl (fun _ => rfl) dX12_order_148 rfl (fun x9 => ?_)
  refine zx_iinc (pc' := 153) (ls' := fun x10 => [.ref 57, .null, .null, .int f3, .long x9, .null, .int f6, .null, .int f8, .int x7, .int x10, .null, .null]) rfl rfl (by decide) rfl (fun _ => rfl) dX12_order_150 rfl (fun x10 => ?_)
  refine zx_lift (pc' := 67) (fun _ => zq_goto dX12_order_153 rfl) ?_
  exact hself (x9, x7, x10, s)
def bX12_order_67 (N : Nat)  (f3 : Int32) (f6 : Int32) (f8 : Int32) (k156 : Int64 × Int32 × zq_S → Option (Int32 × zq_S)) (self : Int64 × Int32 × Int32 × zq_S → Option (Int32 × zq_S)) (v : Int64 × Int32 × Int32 × zq_S) : Option (Int32 × zq_S) :=
  if (zgf v.2.2.2 57 6) ≤ v.2.2.1 then
  k156 (v.1, v.2.1, v.2.2.2)
  else
  if (0 : Int32) ≤ v.2.1 then
  k156 (v.1, v.2.1, v.2.2.2)
  else
  zq_ck f6 1024 (
  zq_b2 (mX12_has N (zga v.2.2.2 79 f6) v.2.2.1 v.2.2.2) (fun r5 s6 =>
  if r5 = (0 : Int32) then
  jX12_order_j112 N f3 f6 f8 k156 self v.1 v.2.1 v.2.2.1 (0 : Int64) s6
  else
  zq_ck (f6 ||| ((1 : Int32) <<< (v.2.2.1 &&& 31))) 1024 (
  jX12_order_j112 N f3 f6 f8 k156 self v.1 v.2.1 v.2.2.1 (zgl s6 81 (f6 ||| ((1 : Int32) <<< (v.2.2.1 &&& 31)))) s6)))
set_option maxRecDepth 20000 in
set_option maxHeartbeats 2000000 in
theorem xX12_order_67 (N : Nat)  (f3 : Int32) (f6 : Int32) (f8 : Int32) (k156 : Int64 × Int32 × zq_S → Option (Int32 × zq_S)) (hk156 : ∀ e, zq_X yX12_order RX12 cX12_order 13 (some .int) ⟨2, 0, 0, 44⟩ zv_i 156 [.ref 57, .null, .null, .int f3, .long e.1, .null, .int f6, .null, .int f8, .int e.2.1, .null, .null, .null] [] e.2.2 (k156 e)) (self : Int64 × Int32 × Int32 × zq_S → Option (Int32 × zq_S)) (hself : ∀ v, zq_X yX12_order RX12 cX12_order 13 (some .int) ⟨2, 0, 0, 44⟩ zv_i 67 [.ref 57, .null, .null, .int f3, .long v.1, .null, .int f6, .null, .int f8, .int v.2.1, .int v.2.2.1, .null, .null] [] v.2.2.2 (self v)) (v : Int64 × Int32 × Int32 × zq_S) : zq_X yX12_order RX12 cX12_order 13 (some .int) ⟨2, 0, 0, 44⟩ zv_i 67 [.ref 57, .null, .null, .int f3, .long v.1, .null, .int f6, .null, .int f8, .int v.2.1, .int v.2.2.1, .null, .null] [] v.2.2.2 (bX12_order_67 N f3 f6 f8 k156 self v) := by
  unfold bX12_order_67
  refine zx_lift (pc' := 69) (fun _ => zq_iload rfl dX12_order_67 rfl) ?_
  refine zx_lift (pc' := 70) (fun _ => zq_aload_n rfl rfl dX12_order_69 rfl) ?_
  refine zx_lift (pc' := 73) (fun _ => zt_getI zfr_X12_141 zfd_57_6 dX12_order_70 rfl) ?_
  refine zx_icmp_ge (pc' := 76) (tgt := 156) dX12_order_73 rfl rfl (fun hc => ?_) (fun hc => ?_)
  · refine zx_less [.ref 57, .null, .null, .int f3, .long v.1, .null, .int f6, .null, .int f8, .int v.2.1, .null, .null, .null] (zq_cr (zq_cz (zq_cz (zq_cr (zq_cr (zq_cz (zq_cr (zq_cz (zq_cr (zq_cr (zq_cz (zq_cz (zq_cz zq_cn))))))))))))) ?_
    exact hk156 (v.1, v.2.1, v.2.2.2)
  · refine zx_lift (pc' := 78) (fun _ => zq_iload rfl dX12_order_76 rfl) ?_
    refine zx_if_ge (pc' := 81) (tgt := 156) dX12_order_78 rfl rfl (fun hc => ?_) (fun hc => ?_)
    · refine zx_less [.ref 57, .null, .null, .int f3, .long v.1, .null, .int f6, .null, .int f8, .int v.2.1, .null, .null, .null] (zq_cr (zq_cz (zq_cz (zq_cr (zq_cr (zq_cz (zq_cr (zq_cz (zq_cr (zq_cr (zq_cz (zq_cz (zq_cz zq_cn))))))))))))) ?_
      exact hk156 (v.1, v.2.1, v.2.2.2)
    · refine zx_lift (pc' := 82) (fun _ => zq_aload_n rfl rfl dX12_order_81 rfl) ?_
      refine zx_lift (pc' := 85) (fun _ => zt_getR zfr_X12_78 zfd_57_39 dX12_order_82 rfl) ?_
      refine zx_lift (pc' := 87) (fun _ => zq_iload rfl dX12_order_85 rfl) ?_
      refine zx_iaload (pc' := 88) zsh_79 dX12_order_87 rfl ?_
      refine zx_lift (pc' := 90) (fun _ => zq_iload rfl dX12_order_88 rfl) ?_
      refine zx_cSi (pc' := 93) zcs_X12_189 (cX12_has_mc N (zga v.2.2.2 79 f6) v.2.2.1 v.2.2.2) rfl (by decide) (Nat.le_of_ble_eq_true rfl) dX12_order_90 rfl rfl (fun r5 s6 => ?_)
      refine zx_if_eq (pc' := 96) (tgt := 111) dX12_order_93 rfl rfl (fun hc => ?_) (fun hc => ?_)
      · refine zx_lift (pc' := 112) (fun _ => zq_lconst (v := 0) dX12_order_111 rfl rfl) ?_
        exact xX12_order_j112_j N f3 f6 f8 k156 hk156 self hself v.1 v.2.1 v.2.2.1 (0 : Int64) s6
      · refine zx_lift (pc' := 97) (fun _ => zq_aload_n rfl rfl dX12_order_96 rfl) ?_
        refine zx_lift (pc' := 100) (fun _ => zt_getR zfr_X12_85 zfd_57_41 dX12_order_97 rfl) ?_
        refine zx_lift (pc' := 102) (fun _ => zq_iload rfl dX12_order_100 rfl) ?_
        refine zx_lift (pc' := 103) (fun _ => zq_iconst (v := 1) dX12_order_102 rfl rfl) ?_
        refine zx_lift (pc' := 105) (fun _ => zq_iload rfl dX12_order_103 rfl) ?_
        refine zx_lift (pc' := 106) (fun _ => zq_ishl dX12_order_105 rfl) ?_
        refine zx_lift (pc' := 107) (fun _ => zq_ior dX12_order_106 rfl) ?_
        refine zx_laload (pc' := 108) zsh_81 dX12_order_107 rfl ?_
        refine zx_lift (pc' := 112) (fun _ => zq_goto dX12_order_108 rfl) ?_
        exact xX12_order_j112_j N f3 f6 f8 k156 hk156 self hself v.1 v.2.1 v.2.2.1 (zgl s6 81 (f6 ||| ((1 : Int32) <<< (v.2.2.1 &&& 31)))) s6
theorem yX12_order_67 (N : Nat)  (f3 : Int32) (f6 : Int32) (f8 : Int32) (k156 : Int64 × Int32 × zq_S → Option (Int32 × zq_S)) (hk156 : ∀ e, zq_X yX12_order RX12 cX12_order 13 (some .int) ⟨2, 0, 0, 44⟩ zv_i 156 [.ref 57, .null, .null, .int f3, .long e.1, .null, .int f6, .null, .int f8, .int e.2.1, .null, .null, .null] [] e.2.2 (k156 e)) (n : Nat) : ∀ v : Int64 × Int32 × Int32 × zq_S, zq_X yX12_order RX12 cX12_order 13 (some .int) ⟨2, 0, 0, 44⟩ zv_i 67 [.ref 57, .null, .null, .int f3, .long v.1, .null, .int f6, .null, .int f8, .int v.2.1, .int v.2.2.1, .null, .null] [] v.2.2.2 (zq_loop (bX12_order_67 N f3 f6 f8 k156) n v) := by
  induction n with
  | zero => exact fun v u hu => by cases hu
  | succ n ih =>
    intro v
    rw [zq_loop_s]
    exact xX12_order_67 N f3 f6 f8 k156 hk156 (zq_loop (bX12_order_67 N f3 f6 f8 k156) n) ih v
def jX12_order_j156 (N : Nat)  (f3 : Int32)  (self : Int64 × Int32 × Int32 × Int32 × zq_S → Option (Int32 × zq_S)) (w4 : Int64) (w6 : Int32) (w8 : Int32) (w9 : Int32) (s : zq_S) : Option (Int32 × zq_S) :=
  zq_let (w6 ||| ((1 : Int32) <<< (w9 &&& 31))) (fun x12 =>
  zq_let (w8 + (1 : Int32)) (fun x13 =>
  self (w4, x12, w9, x13, s)))
set_option maxRecDepth 20000 in
set_option maxHeartbeats 2000000 in
theorem xX12_order_j156_j (N : Nat)  (f3 : Int32)  (self : Int64 × Int32 × Int32 × Int32 × zq_S → Option (Int32 × zq_S)) (hself : ∀ v, zq_X yX12_order RX12 cX12_order 13 (some .int) ⟨2, 0, 0, 44⟩ zv_i 55 [.ref 57, .null, .null, .int f3, .long v.1, .null, .int v.2.1, .int v.2.2.1, .int v.2.2.2.1, .null, .null, .null, .null] [] v.2.2.2.2 (self v)) (w4 : Int64) (w6 : Int32) (w8 : Int32) (w9 : Int32) (s : zq_S) : zq_X yX12_order RX12 cX12_order 13 (some .int) ⟨2, 0, 0, 44⟩ zv_i 156 [.ref 57, .null, .null, .int f3, .long w4, .null, .int w6, .null, .int w8, .int w9, .null, .null, .null] [] s (jX12_order_j156 N f3 self w4 w6 w8 w9 s) := by
  unfold jX12_order_j156
  refine zx_lift (pc' := 158) (fun _ => zq_iload rfl dX12_order_156 rfl) ?_
  refine zx_lift (pc' := 159) (fun _ => zq_iconst (v := 1) dX12_order_158 rfl rfl) ?_
  refine zx_lift (pc' := 161) (fun _ => zq_iload rfl dX12_order_159 rfl) ?_
  refine zx_lift (pc' := 162) (fun _ => zq_ishl dX12_order_161 rfl) ?_
  refine zx_lift (pc' := 163) (fun _ => zq_ior dX12_order_162 rfl) ?_
  refine zx_istore (pc' := 165) (ls' := fun x12 => [.ref 57, .null, .null, .int f3, .long w4, .null, .int x12, .null, .int w8, .int w9, .null, .null, .null]) (by decide) rfl (fun _ => rfl) dX12_order_163 rfl (fun x12 => ?_)
  refine zx_lift (pc' := 167) (fun _ => zq_iload rfl dX12_order_165 rfl) ?_
  refine zx_lift (pc' := 169) (fun _ => zq_istore (ls' := [.ref 57, .null, .null, .int f3, .long w4, .null, .int x12, .int w9, .int w8, .int w9, .null, .null, .null]) (by decide) rfl rfl dX12_order_167 rfl) ?_
  refine zx_iinc (pc' := 172) (ls' := fun x13 => [.ref 57, .null, .null, .int f3, .long w4, .null, .int x12, .int w9, .int x13, .int w9, .null, .null, .null]) rfl rfl (by decide) rfl (fun _ => rfl) dX12_order_169 rfl (fun x13 => ?_)
  refine zx_lift (pc' := 55) (fun _ => zq_goto dX12_order_172 rfl) ?_
  refine zx_less [.ref 57, .null, .null, .int f3, .long w4, .null, .int x12, .int w9, .int x13, .null, .null, .null, .null] (zq_cr (zq_cz (zq_cz (zq_cr (zq_cr (zq_cz (zq_cr (zq_cr (zq_cr (zq_cz (zq_cz (zq_cz (zq_cz zq_cn))))))))))))) ?_
  exact hself (w4, x12, w9, x13, s)
def bX12_order_55 (N : Nat)  (f3 : Int32)  (self : Int64 × Int32 × Int32 × Int32 × zq_S → Option (Int32 × zq_S)) (v : Int64 × Int32 × Int32 × Int32 × zq_S) : Option (Int32 × zq_S) :=
  if f3 < v.2.2.2.1 then
  some (v.2.2.1, v.2.2.2.2)
  else
  zq_loop (bX12_order_67 N f3 v.2.1 v.2.2.2.1 (fun e11 =>
  jX12_order_j156 N f3 self e11.1 v.2.1 v.2.2.2.1 e11.2.1 e11.2.2)) N (v.1, (-1 : Int32), (0 : Int32), v.2.2.2.2)
set_option maxRecDepth 20000 in
set_option maxHeartbeats 2000000 in
theorem xX12_order_55 (N : Nat)  (f3 : Int32)  (self : Int64 × Int32 × Int32 × Int32 × zq_S → Option (Int32 × zq_S)) (hself : ∀ v, zq_X yX12_order RX12 cX12_order 13 (some .int) ⟨2, 0, 0, 44⟩ zv_i 55 [.ref 57, .null, .null, .int f3, .long v.1, .null, .int v.2.1, .int v.2.2.1, .int v.2.2.2.1, .null, .null, .null, .null] [] v.2.2.2.2 (self v)) (v : Int64 × Int32 × Int32 × Int32 × zq_S) : zq_X yX12_order RX12 cX12_order 13 (some .int) ⟨2, 0, 0, 44⟩ zv_i 55 [.ref 57, .null, .null, .int f3, .long v.1, .null, .int v.2.1, .int v.2.2.1, .int v.2.2.2.1, .null, .null, .null, .null] [] v.2.2.2.2 (bX12_order_55 N f3 self v) := by
  unfold bX12_order_55
  refine zx_lift (pc' := 57) (fun _ => zq_iload rfl dX12_order_55 rfl) ?_
  refine zx_lift (pc' := 58) (fun _ => zq_iload_n rfl rfl dX12_order_57 rfl) ?_
  refine zx_icmp_gt (pc' := 61) (tgt := 175) dX12_order_58 rfl rfl (fun hc => ?_) (fun hc => ?_)
  · refine zx_lift (pc' := 177) (fun _ => zq_iload rfl dX12_order_175 rfl) ?_
    exact zx_iret rfl dX12_order_177
  · refine zx_lift (pc' := 62) (fun _ => zq_iconst (v := (-1)) dX12_order_61 rfl rfl) ?_
    refine zx_lift (pc' := 64) (fun _ => zq_istore (ls' := [.ref 57, .null, .null, .int f3, .long v.1, .null, .int v.2.1, .int v.2.2.1, .int v.2.2.2.1, .int (-1 : Int32), .null, .null, .null]) (by decide) rfl rfl dX12_order_62 rfl) ?_
    refine zx_lift (pc' := 65) (fun _ => zq_iconst (v := 0) dX12_order_64 rfl rfl) ?_
    refine zx_lift (pc' := 67) (fun _ => zq_istore (ls' := [.ref 57, .null, .null, .int f3, .long v.1, .null, .int v.2.1, .int v.2.2.1, .int v.2.2.2.1, .int (-1 : Int32), .int (0 : Int32), .null, .null]) (by decide) rfl rfl dX12_order_65 rfl) ?_
    refine zx_less [.ref 57, .null, .null, .int f3, .long v.1, .null, .int v.2.1, .null, .int v.2.2.2.1, .int (-1 : Int32), .int (0 : Int32), .null, .null] (zq_cr (zq_cz (zq_cz (zq_cr (zq_cr (zq_cz (zq_cr (zq_cz (zq_cr (zq_cr (zq_cr (zq_cz (zq_cz zq_cn))))))))))))) ?_
    refine yX12_order_67 N f3 v.2.1 v.2.2.2.1 _ (fun e11 => ?_) N (v.1, (-1 : Int32), (0 : Int32), v.2.2.2.2)
    exact xX12_order_j156_j N f3 self hself e11.1 v.2.1 v.2.2.2.1 e11.2.1 e11.2.2
theorem yX12_order_55 (N : Nat)  (f3 : Int32)  (n : Nat) : ∀ v : Int64 × Int32 × Int32 × Int32 × zq_S, zq_X yX12_order RX12 cX12_order 13 (some .int) ⟨2, 0, 0, 44⟩ zv_i 55 [.ref 57, .null, .null, .int f3, .long v.1, .null, .int v.2.1, .int v.2.2.1, .int v.2.2.2.1, .null, .null, .null, .null] [] v.2.2.2.2 (zq_loop (bX12_order_55 N f3 ) n v) := by
  induction n with
  | zero => exact fun v u hu => by cases hu
  | succ n ih =>
    intro v
    rw [zq_loop_s]
    exact xX12_order_55 N f3  (zq_loop (bX12_order_55 N f3 ) n) ih v
def mX12_order (N : Nat)  (p1 : Int64) (p3 : Int32) (s : zq_S) : Option (Int32 × zq_S) :=
  if (0 : Int32) ≤ (lg_cmp p1 (0 : Int64)) then
  zq_b2 (mX12_find N s) (fun r1 s2 =>
  zq_ck (0 : Int32) 1024 (
  if (0 : Int32) ≤ (lg_cmp p1 (zgl s2 81 (0 : Int32))) then
  jX12_order_j41 N s2
  else
  zq_b2 (mX12_in N (Int32.toInt64 p3) (0 : Int64) (Int32.toInt64 ((zgf s2 57 6) - (1 : Int32))) s2) (fun r3 s4 =>
  if r3 = (0 : Int32) then
  jX12_order_j41 N s4
  else
  zq_loop (bX12_order_55 N p3 ) N (p1, (0 : Int32), (-1 : Int32), (0 : Int32), s4))))
  else
  some ((-1002 : Int32), s)
set_option maxRecDepth 20000 in
set_option maxHeartbeats 2000000 in
theorem xX12_order (N : Nat)  (p1 : Int64) (p3 : Int32) (s : zq_S) : zq_X yX12_order RX12 cX12_order 13 (some .int) ⟨2, 0, 0, 44⟩ zv_i 0 [.ref 57, .long p1, .null, .int p3, .null, .null, .null, .null, .null, .null, .null, .null, .null] [] s (mX12_order N p1 p3 s) := by
  unfold mX12_order
  refine zx_lift (pc' := 1) (fun _ => zq_lload_n rfl rfl dX12_order_0 rfl) ?_
  refine zx_lift (pc' := 2) (fun _ => zq_lconst (v := 0) dX12_order_1 rfl rfl) ?_
  refine zx_lift (pc' := 3) (fun _ => zq_lcmp dX12_order_2 rfl) ?_
  refine zx_if_ge (pc' := 6) (tgt := 10) dX12_order_3 rfl rfl (fun hc => ?_) (fun hc => ?_)
  · refine zx_lift (pc' := 11) (fun _ => zq_aload_n rfl rfl dX12_order_10 rfl) ?_
    refine zx_cVv (pc' := 14) zcv_X12_307 (cX12_find_mc N s) zob_57 rfl (by decide) (Nat.le_of_ble_eq_true rfl) dX12_order_11 rfl rfl (fun r1 s2 => ?_)
    refine zx_lift (pc' := 15) (fun _ => zq_lload_n rfl rfl dX12_order_14 rfl) ?_
    refine zx_lift (pc' := 16) (fun _ => zq_aload_n rfl rfl dX12_order_15 rfl) ?_
    refine zx_lift (pc' := 19) (fun _ => zt_getR zfr_X12_85 zfd_57_41 dX12_order_16 rfl) ?_
    refine zx_lift (pc' := 20) (fun _ => zq_iconst (v := 0) dX12_order_19 rfl rfl) ?_
    refine zx_laload (pc' := 21) zsh_81 dX12_order_20 rfl ?_
    refine zx_lift (pc' := 22) (fun _ => zq_lcmp dX12_order_21 rfl) ?_
    refine zx_if_ge (pc' := 25) (tgt := 41) dX12_order_22 rfl rfl (fun hc => ?_) (fun hc => ?_)
    · refine zx_less [.null, .null, .null, .null, .null, .null, .null, .null, .null, .null, .null, .null, .null] (zq_cz (zq_cz (zq_cz (zq_cz (zq_cz (zq_cz (zq_cz (zq_cz (zq_cz (zq_cz (zq_cz (zq_cz (zq_cz zq_cn))))))))))))) ?_
      exact xX12_order_j41_j N s2
    · refine zx_lift (pc' := 26) (fun _ => zq_iload_n rfl rfl dX12_order_25 rfl) ?_
      refine zx_lift (pc' := 27) (fun _ => zq_i2l dX12_order_26 rfl) ?_
      refine zx_lift (pc' := 28) (fun _ => zq_lconst (v := 0) dX12_order_27 rfl rfl) ?_
      refine zx_lift (pc' := 29) (fun _ => zq_aload_n rfl rfl dX12_order_28 rfl) ?_
      refine zx_lift (pc' := 32) (fun _ => zt_getI zfr_X12_141 zfd_57_6 dX12_order_29 rfl) ?_
      refine zx_lift (pc' := 33) (fun _ => zq_iconst (v := 1) dX12_order_32 rfl rfl) ?_
      refine zx_lift (pc' := 34) (fun _ => zq_isub dX12_order_33 rfl) ?_
      refine zx_lift (pc' := 35) (fun _ => zq_i2l dX12_order_34 rfl) ?_
      refine zx_cSi (pc' := 38) zcs_X12_144 (cX12_in_mc N (Int32.toInt64 p3) (0 : Int64) (Int32.toInt64 ((zgf s2 57 6) - (1 : Int32))) s2) rfl (by decide) (Nat.le_of_ble_eq_true rfl) dX12_order_35 rfl rfl (fun r3 s4 => ?_)
      refine zx_if_ne (pc' := 41) (tgt := 43) dX12_order_38 rfl rfl (fun hc => ?_) (fun hc => ?_)
      · refine zx_lift (pc' := 44) (fun _ => zq_lload_n rfl rfl dX12_order_43 rfl) ?_
        refine zx_lift (pc' := 46) (fun _ => zq_lstore (ls' := [.ref 57, .long p1, .null, .int p3, .long p1, .null, .null, .null, .null, .null, .null, .null, .null]) (by decide) rfl rfl dX12_order_44 rfl) ?_
        refine zx_lift (pc' := 47) (fun _ => zq_iconst (v := 0) dX12_order_46 rfl rfl) ?_
        refine zx_lift (pc' := 49) (fun _ => zq_istore (ls' := [.ref 57, .long p1, .null, .int p3, .long p1, .null, .int (0 : Int32), .null, .null, .null, .null, .null, .null]) (by decide) rfl rfl dX12_order_47 rfl) ?_
        refine zx_lift (pc' := 50) (fun _ => zq_iconst (v := (-1)) dX12_order_49 rfl rfl) ?_
        refine zx_lift (pc' := 52) (fun _ => zq_istore (ls' := [.ref 57, .long p1, .null, .int p3, .long p1, .null, .int (0 : Int32), .int (-1 : Int32), .null, .null, .null, .null, .null]) (by decide) rfl rfl dX12_order_50 rfl) ?_
        refine zx_lift (pc' := 53) (fun _ => zq_iconst (v := 0) dX12_order_52 rfl rfl) ?_
        refine zx_lift (pc' := 55) (fun _ => zq_istore (ls' := [.ref 57, .long p1, .null, .int p3, .long p1, .null, .int (0 : Int32), .int (-1 : Int32), .int (0 : Int32), .null, .null, .null, .null]) (by decide) rfl rfl dX12_order_53 rfl) ?_
        refine zx_less [.ref 57, .null, .null, .int p3, .long p1, .null, .int (0 : Int32), .int (-1 : Int32), .int (0 : Int32), .null, .null, .null, .null] (zq_cr (zq_cz (zq_cz (zq_cr (zq_cr (zq_cz (zq_cr (zq_cr (zq_cr (zq_cz (zq_cz (zq_cz (zq_cz zq_cn))))))))))))) ?_
        refine yX12_order_55 N p3  N (p1, (0 : Int32), (-1 : Int32), (0 : Int32), s4)
      · refine zx_less [.null, .null, .null, .null, .null, .null, .null, .null, .null, .null, .null, .null, .null] (zq_cz (zq_cz (zq_cz (zq_cz (zq_cz (zq_cz (zq_cz (zq_cz (zq_cz (zq_cz (zq_cz (zq_cz (zq_cz zq_cn))))))))))))) ?_
        exact xX12_order_j41_j N s4
  · refine zx_lift (pc' := 9) (fun _ => zq_sipush (v := (-1002)) dX12_order_6 rfl rfl) ?_
    exact zx_iret rfl dX12_order_9
theorem cX12_order_mc (N : Nat)  (p1 : Int64) (p3 : Int32) (s : zq_S) (v : Int32 × zq_S) (h : mX12_order N p1 p3 s = some v) : zq_MC yX12_order cX12_order 13 (some .int) ⟨2, 0, 0, 44⟩ 0 0 [.ref 57, .long p1, .int p3] (zq_en s) (zv_i v.1, zq_en v.2) := zq_MC_x [.ref 57, .long p1, .null, .int p3, .null, .null, .null, .null, .null, .null, .null, .null, .null] (by decide +kernel) rfl rfl (Nat.le_of_ble_eq_true rfl) (xX12_order N p1 p3 s) h
def mX12_orders (N : Nat)   (s : zq_S) : Option (Int64 × zq_S) :=
  zq_b2 (mX12_find N s) (fun r1 s2 =>
  zq_ck (0 : Int32) 1024 (
  some ((zgl s2 81 (0 : Int32)), s2)))
set_option maxRecDepth 20000 in
set_option maxHeartbeats 2000000 in
theorem xX12_orders (N : Nat)   (s : zq_S) : zq_X yX12_orders RX12 cX12_orders 1 (some .long) ⟨2, 0, 0, 44⟩ zv_l 0 [.ref 57] [] s (mX12_orders N s) := by
  unfold mX12_orders
  refine zx_lift (pc' := 1) (fun _ => zq_aload_n rfl rfl dX12_orders_0 rfl) ?_
  refine zx_cVv (pc' := 4) zcv_X12_307 (cX12_find_mc N s) zob_57 rfl (by decide) (Nat.le_of_ble_eq_true rfl) dX12_orders_1 rfl rfl (fun r1 s2 => ?_)
  refine zx_lift (pc' := 5) (fun _ => zq_aload_n rfl rfl dX12_orders_4 rfl) ?_
  refine zx_lift (pc' := 8) (fun _ => zt_getR zfr_X12_85 zfd_57_41 dX12_orders_5 rfl) ?_
  refine zx_lift (pc' := 9) (fun _ => zq_iconst (v := 0) dX12_orders_8 rfl rfl) ?_
  refine zx_laload (pc' := 10) zsh_81 dX12_orders_9 rfl ?_
  exact zx_lret rfl dX12_orders_10
theorem cX12_orders_mc (N : Nat)   (s : zq_S) (v : Int64 × zq_S) (h : mX12_orders N s = some v) : zq_MC yX12_orders cX12_orders 1 (some .long) ⟨2, 0, 0, 44⟩ 0 0 [.ref 57] (zq_en s) (zv_l v.1, zq_en v.2) := zq_MC_x [.ref 57] (by decide +kernel) rfl rfl (Nat.le_of_ble_eq_true rfl) (xX12_orders N s) h
def jX12_place_j54 (N : Nat)   (t0 : Int32) (s : zq_S) : Option (Int32 × zq_S) :=
  some (t0, s)
set_option maxRecDepth 20000 in
set_option maxHeartbeats 2000000 in
theorem xX12_place_j54_j (N : Nat)   (t0 : Int32) (s : zq_S) : zq_X yX12_place RX12 cX12_place 3 (some .int) ⟨2, 0, 0, 46⟩ zv_i 54 [.null, .null, .null] [.int t0] s (jX12_place_j54 N t0 s) := by
  unfold jX12_place_j54
  exact zx_iret rfl dX12_place_54
def mX12_place (N : Nat)  (p1 : Int32) (p2 : Int32) (s : zq_S) : Option (Int32 × zq_S) :=
  zq_b2 (mX12_isMark N p1 s) (fun r1 s2 =>
  if r1 = (0 : Int32) then
  some ((-1001 : Int32), s2)
  else
  if p2 = (0 : Int32) then
  zq_ck p1 10 (
  zq_b2 (mX12_bits N (zga s2 65 p1) s2) (fun r7 s8 =>
  jX12_place_j54 N r7 s8))
  else
  if p2 = (1 : Int32) then
  zq_b2 (mX12_behind N p1 s2) (fun r3 s4 =>
  zq_b2 (mX12_bits N r3 s4) (fun r5 s6 =>
  jX12_place_j54 N (((zgf s2 57 6) - (1 : Int32)) - r5) s6))
  else
  jX12_place_j54 N (-1002 : Int32) s2)
set_option maxRecDepth 20000 in
set_option maxHeartbeats 2000000 in
theorem xX12_place (N : Nat)  (p1 : Int32) (p2 : Int32) (s : zq_S) : zq_X yX12_place RX12 cX12_place 3 (some .int) ⟨2, 0, 0, 46⟩ zv_i 0 [.ref 57, .int p1, .int p2] [] s (mX12_place N p1 p2 s) := by
  unfold mX12_place
  refine zx_lift (pc' := 1) (fun _ => zq_aload_n rfl rfl dX12_place_0 rfl) ?_
  refine zx_lift (pc' := 2) (fun _ => zq_iload_n rfl rfl dX12_place_1 rfl) ?_
  refine zx_cVi (pc' := 5) zcv_X12_280 (cX12_isMark_mc N p1 s) zob_57 rfl (by decide) (Nat.le_of_ble_eq_true rfl) dX12_place_2 rfl rfl (fun r1 s2 => ?_)
  refine zx_if_ne (pc' := 8) (tgt := 12) dX12_place_5 rfl rfl (fun hc => ?_) (fun hc => ?_)
  · refine zx_lift (pc' := 13) (fun _ => zq_iload_n rfl rfl dX12_place_12 rfl) ?_
    refine zx_if_ne (pc' := 16) (tgt := 28) dX12_place_13 rfl rfl (fun hc => ?_) (fun hc => ?_)
    · refine zx_lift (pc' := 29) (fun _ => zq_iload_n rfl rfl dX12_place_28 rfl) ?_
      refine zx_lift (pc' := 30) (fun _ => zq_iconst (v := 1) dX12_place_29 rfl rfl) ?_
      refine zx_icmp_ne (pc' := 33) (tgt := 51) dX12_place_30 rfl rfl (fun hc => ?_) (fun hc => ?_)
      · refine zx_lift (pc' := 54) (fun _ => zq_sipush (v := (-1002)) dX12_place_51 rfl rfl) ?_
        refine zx_less [.null, .null, .null] (zq_cz (zq_cz (zq_cz zq_cn))) ?_
        exact xX12_place_j54_j N (-1002 : Int32) s2
      · refine zx_lift (pc' := 34) (fun _ => zq_aload_n rfl rfl dX12_place_33 rfl) ?_
        refine zx_lift (pc' := 37) (fun _ => zt_getI zfr_X12_141 zfd_57_6 dX12_place_34 rfl) ?_
        refine zx_lift (pc' := 38) (fun _ => zq_iconst (v := 1) dX12_place_37 rfl rfl) ?_
        refine zx_lift (pc' := 39) (fun _ => zq_isub dX12_place_38 rfl) ?_
        refine zx_lift (pc' := 40) (fun _ => zq_aload_n rfl rfl dX12_place_39 rfl) ?_
        refine zx_lift (pc' := 41) (fun _ => zq_iload_n rfl rfl dX12_place_40 rfl) ?_
        refine zx_cVi (pc' := 44) zcv_X12_284 (cX12_behind_mc N p1 s2) zob_57 rfl (by decide) (Nat.le_of_ble_eq_true rfl) dX12_place_41 rfl rfl (fun r3 s4 => ?_)
        refine zx_cSi (pc' := 47) zcs_X12_301 (cX12_bits_mc N r3 s4) rfl (by decide) (Nat.le_of_ble_eq_true rfl) dX12_place_44 rfl rfl (fun r5 s6 => ?_)
        refine zx_lift (pc' := 48) (fun _ => zq_isub dX12_place_47 rfl) ?_
        refine zx_lift (pc' := 54) (fun _ => zq_goto dX12_place_48 rfl) ?_
        refine zx_less [.null, .null, .null] (zq_cz (zq_cz (zq_cz zq_cn))) ?_
        exact xX12_place_j54_j N (((zgf s2 57 6) - (1 : Int32)) - r5) s6
    · refine zx_lift (pc' := 17) (fun _ => zq_aload_n rfl rfl dX12_place_16 rfl) ?_
      refine zx_lift (pc' := 20) (fun _ => zt_getR zfr_X12_31 zfd_57_10 dX12_place_17 rfl) ?_
      refine zx_lift (pc' := 21) (fun _ => zq_iload_n rfl rfl dX12_place_20 rfl) ?_
      refine zx_iaload (pc' := 22) zsh_65 dX12_place_21 rfl ?_
      refine zx_cSi (pc' := 25) zcs_X12_301 (cX12_bits_mc N (zga s2 65 p1) s2) rfl (by decide) (Nat.le_of_ble_eq_true rfl) dX12_place_22 rfl rfl (fun r7 s8 => ?_)
      refine zx_lift (pc' := 54) (fun _ => zq_goto dX12_place_25 rfl) ?_
      refine zx_less [.null, .null, .null] (zq_cz (zq_cz (zq_cz zq_cn))) ?_
      exact xX12_place_j54_j N r7 s8
  · refine zx_lift (pc' := 11) (fun _ => zq_sipush (v := (-1001)) dX12_place_8 rfl rfl) ?_
    exact zx_iret rfl dX12_place_11
theorem cX12_place_mc (N : Nat)  (p1 : Int32) (p2 : Int32) (s : zq_S) (v : Int32 × zq_S) (h : mX12_place N p1 p2 s = some v) : zq_MC yX12_place cX12_place 3 (some .int) ⟨2, 0, 0, 46⟩ 0 0 [.ref 57, .int p1, .int p2] (zq_en s) (zv_i v.1, zq_en v.2) := zq_MC_x [.ref 57, .int p1, .int p2] (by decide +kernel) rfl rfl (Nat.le_of_ble_eq_true rfl) (xX12_place N p1 p2 s) h
def mX12_printSign (N : Nat)  (p1 : Int32) (s : zq_S) : Option (Unit × zq_S) :=
  zq_ck (zgf s 57 36) 1600 (
  zq_let (zpa s 77 (zgf s 57 36) p1) (fun s1 =>
  zq_let (zpf s1 57 36 ((zgf s1 57 36) + (1 : Int32))) (fun s2 =>
  some ((), s2))))
set_option maxRecDepth 20000 in
set_option maxHeartbeats 2000000 in
theorem xX12_printSign (N : Nat)  (p1 : Int32) (s : zq_S) : zq_X yX12_printSign RX12 cX12_printSign 2 none ⟨0, 0, 0, 0⟩ zv_v 0 [.ref 57, .int p1] [] s (mX12_printSign N p1 s) := by
  unfold mX12_printSign
  refine zx_lift (pc' := 1) (fun _ => zq_aload_n rfl rfl dX12_printSign_0 rfl) ?_
  refine zx_lift (pc' := 4) (fun _ => zt_getR zfr_X12_72 zfd_57_35 dX12_printSign_1 rfl) ?_
  refine zx_lift (pc' := 5) (fun _ => zq_aload_n rfl rfl dX12_printSign_4 rfl) ?_
  refine zx_lift (pc' := 8) (fun _ => zt_getI zfr_X12_261 zfd_57_36 dX12_printSign_5 rfl) ?_
  refine zx_lift (pc' := 9) (fun _ => zq_iload_n rfl rfl dX12_printSign_8 rfl) ?_
  refine zx_iastore (pc' := 10) zsh_77 dX12_printSign_9 rfl (fun s1 => ?_)
  refine zx_lift (pc' := 11) (fun _ => zq_aload_n rfl rfl dX12_printSign_10 rfl) ?_
  refine zx_lift (pc' := 12) (fun _ => zq_dup rfl dX12_printSign_11 rfl) ?_
  refine zx_lift (pc' := 15) (fun _ => zt_getI zfr_X12_261 zfd_57_36 dX12_printSign_12 rfl) ?_
  refine zx_lift (pc' := 16) (fun _ => zq_iconst (v := 1) dX12_printSign_15 rfl rfl) ?_
  refine zx_lift (pc' := 17) (fun _ => zq_iadd dX12_printSign_16 rfl) ?_
  refine zx_putI (pc' := 20) zfr_X12_261 (fun _ => ⟨rfl, rfl⟩) zfd_57_36 dX12_printSign_17 rfl (fun s2 => ?_)
  exact zx_vret rfl dX12_printSign_20
theorem cX12_printSign_mc (N : Nat)  (p1 : Int32) (s : zq_S) (v : Unit × zq_S) (h : mX12_printSign N p1 s = some v) : zq_MC yX12_printSign cX12_printSign 2 none ⟨0, 0, 0, 0⟩ 0 0 [.ref 57, .int p1] (zq_en s) (zv_v v.1, zq_en v.2) := zq_MC_x [.ref 57, .int p1] (by decide +kernel) rfl rfl (Nat.le_of_ble_eq_true rfl) (xX12_printSign N p1 s) h
def jX12_printNumber_j54 (N : Nat)   (w1 : Int32) (s : zq_S) : Option (Unit × zq_S) :=
  zq_b2 (mX12_printSign N ((48 : Int32) + (w1 - w1 / (10 : Int32) * (10 : Int32))) s) (fun r1 s2 =>
  some ((), s2))
set_option maxRecDepth 20000 in
set_option maxHeartbeats 2000000 in
theorem xX12_printNumber_j54_j (N : Nat)   (w1 : Int32) (s : zq_S) : zq_X yX12_printNumber RX12 cX12_printNumber 2 none ⟨1, 0, 0, 25⟩ zv_v 54 [.ref 57, .int w1] [] s (jX12_printNumber_j54 N w1 s) := by
  unfold jX12_printNumber_j54
  refine zx_lift (pc' := 55) (fun _ => zq_aload_n rfl rfl dX12_printNumber_54 rfl) ?_
  refine zx_lift (pc' := 57) (fun _ => zq_bipush (v := 48) dX12_printNumber_55 rfl rfl) ?_
  refine zx_lift (pc' := 58) (fun _ => zq_iload_n rfl rfl dX12_printNumber_57 rfl) ?_
  refine zx_lift (pc' := 60) (fun _ => zq_bipush (v := 10) dX12_printNumber_58 rfl rfl) ?_
  refine zx_lift (pc' := 61) (fun _ => zq_irem (by decide) dX12_printNumber_60 rfl) ?_
  refine zx_lift (pc' := 62) (fun _ => zq_iadd dX12_printNumber_61 rfl) ?_
  refine zx_cVv (pc' := 65) zcv_X12_264 (cX12_printSign_mc N ((48 : Int32) + (w1 - w1 / (10 : Int32) * (10 : Int32))) s) zob_57 rfl (by decide) (Nat.le_of_ble_eq_true rfl) dX12_printNumber_62 rfl rfl (fun r1 s2 => ?_)
  exact zx_vret rfl dX12_printNumber_65
def jX12_printNumber_j37 (N : Nat)   (w1 : Int32) (s : zq_S) : Option (Unit × zq_S) :=
  if w1 ≤ (9 : Int32) then
  jX12_printNumber_j54 N w1 s
  else
  zq_b2 (mX12_printSign N ((48 : Int32) + (w1 / (10 : Int32))) s) (fun r3 s4 =>
  jX12_printNumber_j54 N w1 s4)
set_option maxRecDepth 20000 in
set_option maxHeartbeats 2000000 in
theorem xX12_printNumber_j37_j (N : Nat)   (w1 : Int32) (s : zq_S) : zq_X yX12_printNumber RX12 cX12_printNumber 2 none ⟨1, 0, 0, 25⟩ zv_v 37 [.ref 57, .int w1] [] s (jX12_printNumber_j37 N w1 s) := by
  unfold jX12_printNumber_j37
  refine zx_lift (pc' := 38) (fun _ => zq_iload_n rfl rfl dX12_printNumber_37 rfl) ?_
  refine zx_lift (pc' := 40) (fun _ => zq_bipush (v := 9) dX12_printNumber_38 rfl rfl) ?_
  refine zx_icmp_le (pc' := 43) (tgt := 54) dX12_printNumber_40 rfl rfl (fun hc => ?_) (fun hc => ?_)
  · exact xX12_printNumber_j54_j N w1 s
  · refine zx_lift (pc' := 44) (fun _ => zq_aload_n rfl rfl dX12_printNumber_43 rfl) ?_
    refine zx_lift (pc' := 46) (fun _ => zq_bipush (v := 48) dX12_printNumber_44 rfl rfl) ?_
    refine zx_lift (pc' := 47) (fun _ => zq_iload_n rfl rfl dX12_printNumber_46 rfl) ?_
    refine zx_lift (pc' := 49) (fun _ => zq_bipush (v := 10) dX12_printNumber_47 rfl rfl) ?_
    refine zx_lift (pc' := 50) (fun _ => zq_idiv (by decide) dX12_printNumber_49 rfl) ?_
    refine zx_lift (pc' := 51) (fun _ => zq_iadd dX12_printNumber_50 rfl) ?_
    refine zx_cVv (pc' := 54) zcv_X12_264 (cX12_printSign_mc N ((48 : Int32) + (w1 / (10 : Int32))) s) zob_57 rfl (by decide) (Nat.le_of_ble_eq_true rfl) dX12_printNumber_51 rfl rfl (fun r3 s4 => ?_)
    exact xX12_printNumber_j54_j N w1 s4
def mX12_printNumber (N : Nat)  (p1 : Int32) (s : zq_S) : Option (Unit × zq_S) :=
  if (zgf s 57 36) ≤ (0 : Int32) then
  jX12_printNumber_j37 N p1 s
  else
  zq_ck ((zgf s 57 36) - (1 : Int32)) 1600 (
  zq_b2 (mX12_in N (Int32.toInt64 (zga s 77 ((zgf s 57 36) - (1 : Int32)))) (48 : Int64) (57 : Int64) s) (fun r5 s6 =>
  if r5 = (0 : Int32) then
  jX12_printNumber_j37 N p1 s6
  else
  zq_b2 (mX12_printSign N (32 : Int32) s6) (fun r7 s8 =>
  jX12_printNumber_j37 N p1 s8)))
set_option maxRecDepth 20000 in
set_option maxHeartbeats 2000000 in
theorem xX12_printNumber (N : Nat)  (p1 : Int32) (s : zq_S) : zq_X yX12_printNumber RX12 cX12_printNumber 2 none ⟨1, 0, 0, 25⟩ zv_v 0 [.ref 57, .int p1] [] s (mX12_printNumber N p1 s) := by
  unfold mX12_printNumber
  refine zx_lift (pc' := 1) (fun _ => zq_aload_n rfl rfl dX12_printNumber_0 rfl) ?_
  refine zx_lift (pc' := 4) (fun _ => zt_getI zfr_X12_261 zfd_57_36 dX12_printNumber_1 rfl) ?_
  refine zx_if_le (pc' := 7) (tgt := 37) dX12_printNumber_4 rfl rfl (fun hc => ?_) (fun hc => ?_)
  · exact xX12_printNumber_j37_j N p1 s
  · refine zx_lift (pc' := 8) (fun _ => zq_aload_n rfl rfl dX12_printNumber_7 rfl) ?_
    refine zx_lift (pc' := 11) (fun _ => zt_getR zfr_X12_72 zfd_57_35 dX12_printNumber_8 rfl) ?_
    refine zx_lift (pc' := 12) (fun _ => zq_aload_n rfl rfl dX12_printNumber_11 rfl) ?_
    refine zx_lift (pc' := 15) (fun _ => zt_getI zfr_X12_261 zfd_57_36 dX12_printNumber_12 rfl) ?_
    refine zx_lift (pc' := 16) (fun _ => zq_iconst (v := 1) dX12_printNumber_15 rfl rfl) ?_
    refine zx_lift (pc' := 17) (fun _ => zq_isub dX12_printNumber_16 rfl) ?_
    refine zx_iaload (pc' := 18) zsh_77 dX12_printNumber_17 rfl ?_
    refine zx_lift (pc' := 19) (fun _ => zq_i2l dX12_printNumber_18 rfl) ?_
    refine zx_lift (pc' := 22) (fun _ => zq_ldc2 zk_X12_165 dX12_printNumber_19 rfl) ?_
    refine zx_lift (pc' := 25) (fun _ => zq_ldc2 zk_X12_167 dX12_printNumber_22 rfl) ?_
    refine zx_cSi (pc' := 28) zcs_X12_144 (cX12_in_mc N (Int32.toInt64 (zga s 77 ((zgf s 57 36) - (1 : Int32)))) (48 : Int64) (57 : Int64) s) rfl (by decide) (Nat.le_of_ble_eq_true rfl) dX12_printNumber_25 rfl rfl (fun r5 s6 => ?_)
    refine zx_if_eq (pc' := 31) (tgt := 37) dX12_printNumber_28 rfl rfl (fun hc => ?_) (fun hc => ?_)
    · exact xX12_printNumber_j37_j N p1 s6
    · refine zx_lift (pc' := 32) (fun _ => zq_aload_n rfl rfl dX12_printNumber_31 rfl) ?_
      refine zx_lift (pc' := 34) (fun _ => zq_bipush (v := 32) dX12_printNumber_32 rfl rfl) ?_
      refine zx_cVv (pc' := 37) zcv_X12_264 (cX12_printSign_mc N (32 : Int32) s6) zob_57 rfl (by decide) (Nat.le_of_ble_eq_true rfl) dX12_printNumber_34 rfl rfl (fun r7 s8 => ?_)
      exact xX12_printNumber_j37_j N p1 s8
theorem cX12_printNumber_mc (N : Nat)  (p1 : Int32) (s : zq_S) (v : Unit × zq_S) (h : mX12_printNumber N p1 s = some v) : zq_MC yX12_printNumber cX12_printNumber 2 none ⟨1, 0, 0, 25⟩ 0 0 [.ref 57, .int p1] (zq_en s) (zv_v v.1, zq_en v.2) := zq_MC_x [.ref 57, .int p1] (by decide +kernel) rfl rfl (Nat.le_of_ble_eq_true rfl) (xX12_printNumber N p1 s) h
def jX12_printOpen_j71 (N : Nat)    (s : zq_S) : Option (Unit × zq_S) :=
  zq_b2 (mX12_printSign N (58 : Int32) s) (fun r5 s6 =>
  some ((), s6))
set_option maxRecDepth 20000 in
set_option maxHeartbeats 2000000 in
theorem xX12_printOpen_j71_j (N : Nat)    (s : zq_S) : zq_X yX12_printOpen RX12 cX12_printOpen 2 none ⟨2, 0, 0, 46⟩ zv_v 71 [.ref 57, .null] [] s (jX12_printOpen_j71 N s) := by
  unfold jX12_printOpen_j71
  refine zx_lift (pc' := 72) (fun _ => zq_aload_n rfl rfl dX12_printOpen_71 rfl) ?_
  refine zx_lift (pc' := 74) (fun _ => zq_bipush (v := 58) dX12_printOpen_72 rfl rfl) ?_
  refine zx_cVv (pc' := 77) zcv_X12_264 (cX12_printSign_mc N (58 : Int32) s) zob_57 rfl (by decide) (Nat.le_of_ble_eq_true rfl) dX12_printOpen_74 rfl rfl (fun r5 s6 => ?_)
  exact zx_vret rfl dX12_printOpen_77
def jX12_printOpen_j33 (N : Nat)   (w1 : Int32) (t0 : Int32) (s : zq_S) : Option (Unit × zq_S) :=
  zq_b2 (mX12_printSign N t0 s) (fun r1 s2 =>
  zq_ck w1 400 (
  zq_b2 (mX12_printNumber N (zga s2 59 w1) s2) (fun r3 s4 =>
  zq_ck w1 400 (
  if (zga s4 60 w1) < (0 : Int32) then
  jX12_printOpen_j71 N s4
  else
  zq_b2 (mX12_printSign N (33 : Int32) s4) (fun r7 s8 =>
  zq_ck w1 400 (
  zq_b2 (mX12_printNumber N (zga s8 60 w1) s8) (fun r9 s10 =>
  jX12_printOpen_j71 N s10)))))))
set_option maxRecDepth 20000 in
set_option maxHeartbeats 2000000 in
theorem xX12_printOpen_j33_j (N : Nat)   (w1 : Int32) (t0 : Int32) (s : zq_S) : zq_X yX12_printOpen RX12 cX12_printOpen 2 none ⟨2, 0, 0, 46⟩ zv_v 33 [.ref 57, .int w1] [.int t0, .ref 57] s (jX12_printOpen_j33 N w1 t0 s) := by
  unfold jX12_printOpen_j33
  refine zx_cVv (pc' := 36) zcv_X12_264 (cX12_printSign_mc N t0 s) zob_57 rfl (by decide) (Nat.le_of_ble_eq_true rfl) dX12_printOpen_33 rfl rfl (fun r1 s2 => ?_)
  refine zx_lift (pc' := 37) (fun _ => zq_aload_n rfl rfl dX12_printOpen_36 rfl) ?_
  refine zx_lift (pc' := 38) (fun _ => zq_aload_n rfl rfl dX12_printOpen_37 rfl) ?_
  refine zx_lift (pc' := 41) (fun _ => zt_getR zfr_X12_13 zfd_57_2 dX12_printOpen_38 rfl) ?_
  refine zx_lift (pc' := 42) (fun _ => zq_iload_n rfl rfl dX12_printOpen_41 rfl) ?_
  refine zx_iaload (pc' := 43) zsh_59 dX12_printOpen_42 rfl ?_
  refine zx_cVv (pc' := 46) zcv_X12_268 (cX12_printNumber_mc N (zga s2 59 w1) s2) zob_57 rfl (by decide) (Nat.le_of_ble_eq_true rfl) dX12_printOpen_43 rfl rfl (fun r3 s4 => ?_)
  refine zx_lift (pc' := 47) (fun _ => zq_aload_n rfl rfl dX12_printOpen_46 rfl) ?_
  refine zx_lift (pc' := 50) (fun _ => zt_getR zfr_X12_16 zfd_57_3 dX12_printOpen_47 rfl) ?_
  refine zx_lift (pc' := 51) (fun _ => zq_iload_n rfl rfl dX12_printOpen_50 rfl) ?_
  refine zx_iaload (pc' := 52) zsh_60 dX12_printOpen_51 rfl ?_
  refine zx_if_lt (pc' := 55) (tgt := 71) dX12_printOpen_52 rfl rfl (fun hc => ?_) (fun hc => ?_)
  · refine zx_less [.ref 57, .null] (zq_cr (zq_cz zq_cn)) ?_
    exact xX12_printOpen_j71_j N s4
  · refine zx_lift (pc' := 56) (fun _ => zq_aload_n rfl rfl dX12_printOpen_55 rfl) ?_
    refine zx_lift (pc' := 58) (fun _ => zq_bipush (v := 33) dX12_printOpen_56 rfl rfl) ?_
    refine zx_cVv (pc' := 61) zcv_X12_264 (cX12_printSign_mc N (33 : Int32) s4) zob_57 rfl (by decide) (Nat.le_of_ble_eq_true rfl) dX12_printOpen_58 rfl rfl (fun r7 s8 => ?_)
    refine zx_lift (pc' := 62) (fun _ => zq_aload_n rfl rfl dX12_printOpen_61 rfl) ?_
    refine zx_lift (pc' := 63) (fun _ => zq_aload_n rfl rfl dX12_printOpen_62 rfl) ?_
    refine zx_lift (pc' := 66) (fun _ => zt_getR zfr_X12_16 zfd_57_3 dX12_printOpen_63 rfl) ?_
    refine zx_lift (pc' := 67) (fun _ => zq_iload_n rfl rfl dX12_printOpen_66 rfl) ?_
    refine zx_iaload (pc' := 68) zsh_60 dX12_printOpen_67 rfl ?_
    refine zx_cVv (pc' := 71) zcv_X12_268 (cX12_printNumber_mc N (zga s8 60 w1) s8) zob_57 rfl (by decide) (Nat.le_of_ble_eq_true rfl) dX12_printOpen_68 rfl rfl (fun r9 s10 => ?_)
    refine zx_less [.ref 57, .null] (zq_cr (zq_cz zq_cn)) ?_
    exact xX12_printOpen_j71_j N s10
def mX12_printOpen (N : Nat)  (p1 : Int32) (s : zq_S) : Option (Unit × zq_S) :=
  zq_ck p1 400 (
  if (zga s 58 p1) = (1 : Int32) then
  jX12_printOpen_j33 N p1 (123 : Int32) s
  else
  zq_ck p1 400 (
  if (zga s 58 p1) = (2 : Int32) then
  jX12_printOpen_j33 N p1 (91 : Int32) s
  else
  jX12_printOpen_j33 N p1 (60 : Int32) s))
set_option maxRecDepth 20000 in
set_option maxHeartbeats 2000000 in
theorem xX12_printOpen (N : Nat)  (p1 : Int32) (s : zq_S) : zq_X yX12_printOpen RX12 cX12_printOpen 2 none ⟨2, 0, 0, 46⟩ zv_v 0 [.ref 57, .int p1] [] s (mX12_printOpen N p1 s) := by
  unfold mX12_printOpen
  refine zx_lift (pc' := 1) (fun _ => zq_aload_n rfl rfl dX12_printOpen_0 rfl) ?_
  refine zx_lift (pc' := 2) (fun _ => zq_aload_n rfl rfl dX12_printOpen_1 rfl) ?_
  refine zx_lift (pc' := 5) (fun _ => zt_getR zfr_X12_7 zfd_57_1 dX12_printOpen_2 rfl) ?_
  refine zx_lift (pc' := 6) (fun _ => zq_iload_n rfl rfl dX12_printOpen_5 rfl) ?_
  refine zx_iaload (pc' := 7) zsh_58 dX12_printOpen_6 rfl ?_
  refine zx_lift (pc' := 8) (fun _ => zq_iconst (v := 1) dX12_printOpen_7 rfl rfl) ?_
  refine zx_icmp_ne (pc' := 11) (tgt := 16) dX12_printOpen_8 rfl rfl (fun hc => ?_) (fun hc => ?_)
  · refine zx_lift (pc' := 17) (fun _ => zq_aload_n rfl rfl dX12_printOpen_16 rfl) ?_
    refine zx_lift (pc' := 20) (fun _ => zt_getR zfr_X12_7 zfd_57_1 dX12_printOpen_17 rfl) ?_
    refine zx_lift (pc' := 21) (fun _ => zq_iload_n rfl rfl dX12_printOpen_20 rfl) ?_
    refine zx_iaload (pc' := 22) zsh_58 dX12_printOpen_21 rfl ?_
    refine zx_lift (pc' := 23) (fun _ => zq_iconst (v := 2) dX12_printOpen_22 rfl rfl) ?_
    refine zx_icmp_ne (pc' := 26) (tgt := 31) dX12_printOpen_23 rfl rfl (fun hc => ?_) (fun hc => ?_)
    · refine zx_lift (pc' := 33) (fun _ => zq_bipush (v := 60) dX12_printOpen_31 rfl rfl) ?_
      exact xX12_printOpen_j33_j N p1 (60 : Int32) s
    · refine zx_lift (pc' := 28) (fun _ => zq_bipush (v := 91) dX12_printOpen_26 rfl rfl) ?_
      refine zx_lift (pc' := 33) (fun _ => zq_goto dX12_printOpen_28 rfl) ?_
      exact xX12_printOpen_j33_j N p1 (91 : Int32) s
  · refine zx_lift (pc' := 13) (fun _ => zq_bipush (v := 123) dX12_printOpen_11 rfl rfl) ?_
    refine zx_lift (pc' := 33) (fun _ => zq_goto dX12_printOpen_13 rfl) ?_
    exact xX12_printOpen_j33_j N p1 (123 : Int32) s
theorem cX12_printOpen_mc (N : Nat)  (p1 : Int32) (s : zq_S) (v : Unit × zq_S) (h : mX12_printOpen N p1 s = some v) : zq_MC yX12_printOpen cX12_printOpen 2 none ⟨2, 0, 0, 46⟩ 0 0 [.ref 57, .int p1] (zq_en s) (zv_v v.1, zq_en v.2) := zq_MC_x [.ref 57, .int p1] (by decide +kernel) rfl rfl (Nat.le_of_ble_eq_true rfl) (xX12_printOpen N p1 s) h
def jX12_printAll_j205 (N : Nat)    (self : Int32 × zq_S → Option (Unit × zq_S)) (w1 : Int32) (s : zq_S) : Option (Unit × zq_S) :=
  zq_let (w1 + (1 : Int32)) (fun x4 =>
  self (x4, s))
set_option maxRecDepth 20000 in
set_option maxHeartbeats 2000000 in
theorem xX12_printAll_j205_j (N : Nat)    (self : Int32 × zq_S → Option (Unit × zq_S)) (hself : ∀ v, zq_X yX12_printAll RX12 cX12_printAll 2 none ⟨3, 0, 0, 67⟩ zv_v 7 [.ref 57, .int v.1] [] v.2 (self v)) (w1 : Int32) (s : zq_S) : zq_X yX12_printAll RX12 cX12_printAll 2 none ⟨3, 0, 0, 67⟩ zv_v 205 [.ref 57, .int w1] [] s (jX12_printAll_j205 N self w1 s) := by
  unfold jX12_printAll_j205
  refine zx_iinc (pc' := 208) (ls' := fun x4 => [.ref 57, .int x4]) rfl rfl (by decide) rfl (fun _ => rfl) dX12_printAll_205 rfl (fun x4 => ?_)
  refine zx_lift (pc' := 7) (fun _ => zq_goto dX12_printAll_208 rfl) ?_
  exact hself (x4, s)
def jX12_printAll_j118 (N : Nat)    (self : Int32 × zq_S → Option (Unit × zq_S)) (w1 : Int32) (t0 : Int32) (s : zq_S) : Option (Unit × zq_S) :=
  zq_b2 (mX12_printSign N t0 s) (fun r15 s16 =>
  jX12_printAll_j205 N self w1 s16)
set_option maxRecDepth 20000 in
set_option maxHeartbeats 2000000 in
theorem xX12_printAll_j118_j (N : Nat)    (self : Int32 × zq_S → Option (Unit × zq_S)) (hself : ∀ v, zq_X yX12_printAll RX12 cX12_printAll 2 none ⟨3, 0, 0, 67⟩ zv_v 7 [.ref 57, .int v.1] [] v.2 (self v)) (w1 : Int32) (t0 : Int32) (s : zq_S) : zq_X yX12_printAll RX12 cX12_printAll 2 none ⟨3, 0, 0, 67⟩ zv_v 118 [.ref 57, .int w1] [.int t0, .ref 57] s (jX12_printAll_j118 N self w1 t0 s) := by
  unfold jX12_printAll_j118
  refine zx_cVv (pc' := 121) zcv_X12_264 (cX12_printSign_mc N t0 s) zob_57 rfl (by decide) (Nat.le_of_ble_eq_true rfl) dX12_printAll_118 rfl rfl (fun r15 s16 => ?_)
  refine zx_lift (pc' := 205) (fun _ => zq_goto dX12_printAll_121 rfl) ?_
  exact xX12_printAll_j205_j N self hself w1 s16
def bX12_printAll_7 (N : Nat)    (self : Int32 × zq_S → Option (Unit × zq_S)) (v : Int32 × zq_S) : Option (Unit × zq_S) :=
  if (zgf v.2 57 0) ≤ v.1 then
  some ((), v.2)
  else
  zq_ck v.1 400 (
  if (zga v.2 58 v.1) = (0 : Int32) then
  zq_ck v.1 400 (
  zq_b2 (mX12_printNumber N (zga v.2 59 v.1) v.2) (fun r2 s3 =>
  jX12_printAll_j205 N self v.1 s3))
  else if (zga v.2 58 v.1) = (1 : Int32) then
  zq_b2 (mX12_printOpen N v.1 v.2) (fun r6 s7 =>
  jX12_printAll_j205 N self v.1 s7)
  else if (zga v.2 58 v.1) = (2 : Int32) then
  zq_b2 (mX12_printOpen N v.1 v.2) (fun r9 s10 =>
  jX12_printAll_j205 N self v.1 s10)
  else if (zga v.2 58 v.1) = (3 : Int32) then
  zq_b2 (mX12_printOpen N v.1 v.2) (fun r12 s13 =>
  jX12_printAll_j205 N self v.1 s13)
  else if (zga v.2 58 v.1) = (4 : Int32) then
  zq_ck v.1 400 (
  if (zga v.2 59 v.1) = (1 : Int32) then
  jX12_printAll_j118 N self v.1 (125 : Int32) v.2
  else
  zq_ck v.1 400 (
  if (zga v.2 59 v.1) = (2 : Int32) then
  jX12_printAll_j118 N self v.1 (93 : Int32) v.2
  else
  jX12_printAll_j118 N self v.1 (62 : Int32) v.2))
  else if (zga v.2 58 v.1) = (5 : Int32) then
  zq_b2 (mX12_printSign N (42 : Int32) v.2) (fun r18 s19 =>
  zq_ck v.1 400 (
  zq_b2 (mX12_printNumber N (zga s19 59 v.1) s19) (fun r20 s21 =>
  jX12_printAll_j205 N self v.1 s21)))
  else if (zga v.2 58 v.1) = (6 : Int32) then
  zq_b2 (mX12_printSign N (40 : Int32) v.2) (fun r23 s24 =>
  zq_ck v.1 400 (
  zq_b2 (mX12_printNumber N (zga s24 59 v.1) s24) (fun r25 s26 =>
  jX12_printAll_j205 N self v.1 s26)))
  else if (zga v.2 58 v.1) = (7 : Int32) then
  zq_b2 (mX12_printSign N (47 : Int32) v.2) (fun r28 s29 =>
  zq_ck v.1 400 (
  zq_b2 (mX12_printNumber N (zga s29 60 v.1) s29) (fun r30 s31 =>
  zq_ck v.1 400 (
  zq_b2 (mX12_printNumber N (zga s31 59 v.1) s31) (fun r32 s33 =>
  jX12_printAll_j205 N self v.1 s33)))))
  else if (zga v.2 58 v.1) = (8 : Int32) then
  zq_b2 (mX12_printSign N (41 : Int32) v.2) (fun r35 s36 =>
  jX12_printAll_j205 N self v.1 s36)
  else 
  zq_b2 (mX12_printOpen N v.1 v.2) (fun r38 s39 =>
  jX12_printAll_j205 N self v.1 s39))
set_option maxRecDepth 20000 in
set_option maxHeartbeats 2000000 in
theorem xX12_printAll_7 (N : Nat)    (self : Int32 × zq_S → Option (Unit × zq_S)) (hself : ∀ v, zq_X yX12_printAll RX12 cX12_printAll 2 none ⟨3, 0, 0, 67⟩ zv_v 7 [.ref 57, .int v.1] [] v.2 (self v)) (v : Int32 × zq_S) : zq_X yX12_printAll RX12 cX12_printAll 2 none ⟨3, 0, 0, 67⟩ zv_v 7 [.ref 57, .int v.1] [] v.2 (bX12_printAll_7 N self v) := by
  unfold bX12_printAll_7
  refine zx_lift (pc' := 8) (fun _ => zq_iload_n rfl rfl dX12_printAll_7 rfl) ?_
  refine zx_lift (pc' := 9) (fun _ => zq_aload_n rfl rfl dX12_printAll_8 rfl) ?_
  refine zx_lift (pc' := 12) (fun _ => zt_getI zfr_X12_243 zfd_57_0 dX12_printAll_9 rfl) ?_
  refine zx_icmp_ge (pc' := 15) (tgt := 211) dX12_printAll_12 rfl rfl (fun hc => ?_) (fun hc => ?_)
  · exact zx_vret rfl dX12_printAll_211
  · refine zx_lift (pc' := 16) (fun _ => zq_aload_n rfl rfl dX12_printAll_15 rfl) ?_
    refine zx_lift (pc' := 19) (fun _ => zt_getR zfr_X12_7 zfd_57_1 dX12_printAll_16 rfl) ?_
    refine zx_lift (pc' := 20) (fun _ => zq_iload_n rfl rfl dX12_printAll_19 rfl) ?_
    refine zx_iaload (pc' := 21) zsh_58 dX12_printAll_20 rfl ?_
    refine zx_ite (fun hc => ?_) (fun hn5 => ?_)
    · refine zx_tabIn (tgt := 72) hc dX12_printAll_21 (by decide) (by decide) rfl rfl ?_
      refine zx_lift (pc' := 73) (fun _ => zq_aload_n rfl rfl dX12_printAll_72 rfl) ?_
      refine zx_lift (pc' := 74) (fun _ => zq_aload_n rfl rfl dX12_printAll_73 rfl) ?_
      refine zx_lift (pc' := 77) (fun _ => zt_getR zfr_X12_13 zfd_57_2 dX12_printAll_74 rfl) ?_
      refine zx_lift (pc' := 78) (fun _ => zq_iload_n rfl rfl dX12_printAll_77 rfl) ?_
      refine zx_iaload (pc' := 79) zsh_59 dX12_printAll_78 rfl ?_
      refine zx_cVv (pc' := 82) zcv_X12_268 (cX12_printNumber_mc N (zga v.2 59 v.1) v.2) zob_57 rfl (by decide) (Nat.le_of_ble_eq_true rfl) dX12_printAll_79 rfl rfl (fun r2 s3 => ?_)
      refine zx_lift (pc' := 205) (fun _ => zq_goto dX12_printAll_82 rfl) ?_
      exact xX12_printAll_j205_j N self hself v.1 s3
    refine zx_ite (fun hc => ?_) (fun hn8 => ?_)
    · refine zx_tabIn (tgt := 200) hc dX12_printAll_21 (by decide) (by decide) rfl rfl ?_
      refine zx_lift (pc' := 201) (fun _ => zq_aload_n rfl rfl dX12_printAll_200 rfl) ?_
      refine zx_lift (pc' := 202) (fun _ => zq_iload_n rfl rfl dX12_printAll_201 rfl) ?_
      refine zx_cVv (pc' := 205) zcv_X12_271 (cX12_printOpen_mc N v.1 v.2) zob_57 rfl (by decide) (Nat.le_of_ble_eq_true rfl) dX12_printAll_202 rfl rfl (fun r6 s7 => ?_)
      exact xX12_printAll_j205_j N self hself v.1 s7
    refine zx_ite (fun hc => ?_) (fun hn11 => ?_)
    · refine zx_tabIn (tgt := 200) hc dX12_printAll_21 (by decide) (by decide) rfl rfl ?_
      refine zx_lift (pc' := 201) (fun _ => zq_aload_n rfl rfl dX12_printAll_200 rfl) ?_
      refine zx_lift (pc' := 202) (fun _ => zq_iload_n rfl rfl dX12_printAll_201 rfl) ?_
      refine zx_cVv (pc' := 205) zcv_X12_271 (cX12_printOpen_mc N v.1 v.2) zob_57 rfl (by decide) (Nat.le_of_ble_eq_true rfl) dX12_printAll_202 rfl rfl (fun r9 s10 => ?_)
      exact xX12_printAll_j205_j N self hself v.1 s10
    refine zx_ite (fun hc => ?_) (fun hn14 => ?_)
    · refine zx_tabIn (tgt := 200) hc dX12_printAll_21 (by decide) (by decide) rfl rfl ?_
      refine zx_lift (pc' := 201) (fun _ => zq_aload_n rfl rfl dX12_printAll_200 rfl) ?_
      refine zx_lift (pc' := 202) (fun _ => zq_iload_n rfl rfl dX12_printAll_201 rfl) ?_
      refine zx_cVv (pc' := 205) zcv_X12_271 (cX12_printOpen_mc N v.1 v.2) zob_57 rfl (by decide) (Nat.le_of_ble_eq_true rfl) dX12_printAll_202 rfl rfl (fun r12 s13 => ?_)
      exact xX12_printAll_j205_j N self hself v.1 s13
    refine zx_ite (fun hc => ?_) (fun hn17 => ?_)
    · refine zx_tabIn (tgt := 85) hc dX12_printAll_21 (by decide) (by decide) rfl rfl ?_
      refine zx_lift (pc' := 86) (fun _ => zq_aload_n rfl rfl dX12_printAll_85 rfl) ?_
      refine zx_lift (pc' := 87) (fun _ => zq_aload_n rfl rfl dX12_printAll_86 rfl) ?_
      refine zx_lift (pc' := 90) (fun _ => zt_getR zfr_X12_13 zfd_57_2 dX12_printAll_87 rfl) ?_
      refine zx_lift (pc' := 91) (fun _ => zq_iload_n rfl rfl dX12_printAll_90 rfl) ?_
      refine zx_iaload (pc' := 92) zsh_59 dX12_printAll_91 rfl ?_
      refine zx_lift (pc' := 93) (fun _ => zq_iconst (v := 1) dX12_printAll_92 rfl rfl) ?_
      refine zx_icmp_ne (pc' := 96) (tgt := 101) dX12_printAll_93 rfl rfl (fun hc => ?_) (fun hc => ?_)
      · refine zx_lift (pc' := 102) (fun _ => zq_aload_n rfl rfl dX12_printAll_101 rfl) ?_
        refine zx_lift (pc' := 105) (fun _ => zt_getR zfr_X12_13 zfd_57_2 dX12_printAll_102 rfl) ?_
        refine zx_lift (pc' := 106) (fun _ => zq_iload_n rfl rfl dX12_printAll_105 rfl) ?_
        refine zx_iaload (pc' := 107) zsh_59 dX12_printAll_106 rfl ?_
        refine zx_lift (pc' := 108) (fun _ => zq_iconst (v := 2) dX12_printAll_107 rfl rfl) ?_
        refine zx_icmp_ne (pc' := 111) (tgt := 116) dX12_printAll_108 rfl rfl (fun hc => ?_) (fun hc => ?_)
        · refine zx_lift (pc' := 118) (fun _ => zq_bipush (v := 62) dX12_printAll_116 rfl rfl) ?_
          exact xX12_printAll_j118_j N self hself v.1 (62 : Int32) v.2
        · refine zx_lift (pc' := 113) (fun _ => zq_bipush (v := 93) dX12_printAll_111 rfl rfl) ?_
          refine zx_lift (pc' := 118) (fun _ => zq_goto dX12_printAll_113 rfl) ?_
          exact xX12_printAll_j118_j N self hself v.1 (93 : Int32) v.2
      · refine zx_lift (pc' := 98) (fun _ => zq_bipush (v := 125) dX12_printAll_96 rfl rfl) ?_
        refine zx_lift (pc' := 118) (fun _ => zq_goto dX12_printAll_98 rfl) ?_
        exact xX12_printAll_j118_j N self hself v.1 (125 : Int32) v.2
    refine zx_ite (fun hc => ?_) (fun hn22 => ?_)
    · refine zx_tabIn (tgt := 124) hc dX12_printAll_21 (by decide) (by decide) rfl rfl ?_
      refine zx_lift (pc' := 125) (fun _ => zq_aload_n rfl rfl dX12_printAll_124 rfl) ?_
      refine zx_lift (pc' := 127) (fun _ => zq_bipush (v := 42) dX12_printAll_125 rfl rfl) ?_
      refine zx_cVv (pc' := 130) zcv_X12_264 (cX12_printSign_mc N (42 : Int32) v.2) zob_57 rfl (by decide) (Nat.le_of_ble_eq_true rfl) dX12_printAll_127 rfl rfl (fun r18 s19 => ?_)
      refine zx_lift (pc' := 131) (fun _ => zq_aload_n rfl rfl dX12_printAll_130 rfl) ?_
      refine zx_lift (pc' := 132) (fun _ => zq_aload_n rfl rfl dX12_printAll_131 rfl) ?_
      refine zx_lift (pc' := 135) (fun _ => zt_getR zfr_X12_13 zfd_57_2 dX12_printAll_132 rfl) ?_
      refine zx_lift (pc' := 136) (fun _ => zq_iload_n rfl rfl dX12_printAll_135 rfl) ?_
      refine zx_iaload (pc' := 137) zsh_59 dX12_printAll_136 rfl ?_
      refine zx_cVv (pc' := 140) zcv_X12_268 (cX12_printNumber_mc N (zga s19 59 v.1) s19) zob_57 rfl (by decide) (Nat.le_of_ble_eq_true rfl) dX12_printAll_137 rfl rfl (fun r20 s21 => ?_)
      refine zx_lift (pc' := 205) (fun _ => zq_goto dX12_printAll_140 rfl) ?_
      exact xX12_printAll_j205_j N self hself v.1 s21
    refine zx_ite (fun hc => ?_) (fun hn27 => ?_)
    · refine zx_tabIn (tgt := 143) hc dX12_printAll_21 (by decide) (by decide) rfl rfl ?_
      refine zx_lift (pc' := 144) (fun _ => zq_aload_n rfl rfl dX12_printAll_143 rfl) ?_
      refine zx_lift (pc' := 146) (fun _ => zq_bipush (v := 40) dX12_printAll_144 rfl rfl) ?_
      refine zx_cVv (pc' := 149) zcv_X12_264 (cX12_printSign_mc N (40 : Int32) v.2) zob_57 rfl (by decide) (Nat.le_of_ble_eq_true rfl) dX12_printAll_146 rfl rfl (fun r23 s24 => ?_)
      refine zx_lift (pc' := 150) (fun _ => zq_aload_n rfl rfl dX12_printAll_149 rfl) ?_
      refine zx_lift (pc' := 151) (fun _ => zq_aload_n rfl rfl dX12_printAll_150 rfl) ?_
      refine zx_lift (pc' := 154) (fun _ => zt_getR zfr_X12_13 zfd_57_2 dX12_printAll_151 rfl) ?_
      refine zx_lift (pc' := 155) (fun _ => zq_iload_n rfl rfl dX12_printAll_154 rfl) ?_
      refine zx_iaload (pc' := 156) zsh_59 dX12_printAll_155 rfl ?_
      refine zx_cVv (pc' := 159) zcv_X12_268 (cX12_printNumber_mc N (zga s24 59 v.1) s24) zob_57 rfl (by decide) (Nat.le_of_ble_eq_true rfl) dX12_printAll_156 rfl rfl (fun r25 s26 => ?_)
      refine zx_lift (pc' := 205) (fun _ => zq_goto dX12_printAll_159 rfl) ?_
      exact xX12_printAll_j205_j N self hself v.1 s26
    refine zx_ite (fun hc => ?_) (fun hn34 => ?_)
    · refine zx_tabIn (tgt := 162) hc dX12_printAll_21 (by decide) (by decide) rfl rfl ?_
      refine zx_lift (pc' := 163) (fun _ => zq_aload_n rfl rfl dX12_printAll_162 rfl) ?_
      refine zx_lift (pc' := 165) (fun _ => zq_bipush (v := 47) dX12_printAll_163 rfl rfl) ?_
      refine zx_cVv (pc' := 168) zcv_X12_264 (cX12_printSign_mc N (47 : Int32) v.2) zob_57 rfl (by decide) (Nat.le_of_ble_eq_true rfl) dX12_printAll_165 rfl rfl (fun r28 s29 => ?_)
      refine zx_lift (pc' := 169) (fun _ => zq_aload_n rfl rfl dX12_printAll_168 rfl) ?_
      refine zx_lift (pc' := 170) (fun _ => zq_aload_n rfl rfl dX12_printAll_169 rfl) ?_
      refine zx_lift (pc' := 173) (fun _ => zt_getR zfr_X12_16 zfd_57_3 dX12_printAll_170 rfl) ?_
      refine zx_lift (pc' := 174) (fun _ => zq_iload_n rfl rfl dX12_printAll_173 rfl) ?_
      refine zx_iaload (pc' := 175) zsh_60 dX12_printAll_174 rfl ?_
      refine zx_cVv (pc' := 178) zcv_X12_268 (cX12_printNumber_mc N (zga s29 60 v.1) s29) zob_57 rfl (by decide) (Nat.le_of_ble_eq_true rfl) dX12_printAll_175 rfl rfl (fun r30 s31 => ?_)
      refine zx_lift (pc' := 179) (fun _ => zq_aload_n rfl rfl dX12_printAll_178 rfl) ?_
      refine zx_lift (pc' := 180) (fun _ => zq_aload_n rfl rfl dX12_printAll_179 rfl) ?_
      refine zx_lift (pc' := 183) (fun _ => zt_getR zfr_X12_13 zfd_57_2 dX12_printAll_180 rfl) ?_
      refine zx_lift (pc' := 184) (fun _ => zq_iload_n rfl rfl dX12_printAll_183 rfl) ?_
      refine zx_iaload (pc' := 185) zsh_59 dX12_printAll_184 rfl ?_
      refine zx_cVv (pc' := 188) zcv_X12_268 (cX12_printNumber_mc N (zga s31 59 v.1) s31) zob_57 rfl (by decide) (Nat.le_of_ble_eq_true rfl) dX12_printAll_185 rfl rfl (fun r32 s33 => ?_)
      refine zx_lift (pc' := 205) (fun _ => zq_goto dX12_printAll_188 rfl) ?_
      exact xX12_printAll_j205_j N self hself v.1 s33
    refine zx_ite (fun hc => ?_) (fun hn37 => ?_)
    · refine zx_tabIn (tgt := 191) hc dX12_printAll_21 (by decide) (by decide) rfl rfl ?_
      refine zx_lift (pc' := 192) (fun _ => zq_aload_n rfl rfl dX12_printAll_191 rfl) ?_
      refine zx_lift (pc' := 194) (fun _ => zq_bipush (v := 41) dX12_printAll_192 rfl rfl) ?_
      refine zx_cVv (pc' := 197) zcv_X12_264 (cX12_printSign_mc N (41 : Int32) v.2) zob_57 rfl (by decide) (Nat.le_of_ble_eq_true rfl) dX12_printAll_194 rfl rfl (fun r35 s36 => ?_)
      refine zx_lift (pc' := 205) (fun _ => zq_goto dX12_printAll_197 rfl) ?_
      exact xX12_printAll_j205_j N self hself v.1 s36
    refine zx_tabOut (tgt := 200) dX12_printAll_21 (by have := zq_tk (k := 0) hn5 (by decide); have := zq_tk (k := 1) hn8 (by decide); have := zq_tk (k := 2) hn11 (by decide); have := zq_tk (k := 3) hn14 (by decide); have := zq_tk (k := 4) hn17 (by decide); have := zq_tk (k := 5) hn22 (by decide); have := zq_tk (k := 6) hn27 (by decide); have := zq_tk (k := 7) hn34 (by decide); have := zq_tk (k := 8) hn37 (by decide); omega) rfl ?_
    refine zx_lift (pc' := 201) (fun _ => zq_aload_n rfl rfl dX12_printAll_200 rfl) ?_
    refine zx_lift (pc' := 202) (fun _ => zq_iload_n rfl rfl dX12_printAll_201 rfl) ?_
    refine zx_cVv (pc' := 205) zcv_X12_271 (cX12_printOpen_mc N v.1 v.2) zob_57 rfl (by decide) (Nat.le_of_ble_eq_true rfl) dX12_printAll_202 rfl rfl (fun r38 s39 => ?_)
    exact xX12_printAll_j205_j N self hself v.1 s39
theorem yX12_printAll_7 (N : Nat)    (n : Nat) : ∀ v : Int32 × zq_S, zq_X yX12_printAll RX12 cX12_printAll 2 none ⟨3, 0, 0, 67⟩ zv_v 7 [.ref 57, .int v.1] [] v.2 (zq_loop (bX12_printAll_7 N ) n v) := by
  induction n with
  | zero => exact fun v u hu => by cases hu
  | succ n ih =>
    intro v
    rw [zq_loop_s]
    exact xX12_printAll_7 N  (zq_loop (bX12_printAll_7 N ) n) ih v
def mX12_printAll (N : Nat)   (s : zq_S) : Option (Unit × zq_S) :=
  zq_let (zpf s 57 36 (0 : Int32)) (fun s1 =>
  zq_loop (bX12_printAll_7 N ) N ((0 : Int32), s1))
set_option maxRecDepth 20000 in
set_option maxHeartbeats 2000000 in
theorem xX12_printAll (N : Nat)   (s : zq_S) : zq_X yX12_printAll RX12 cX12_printAll 2 none ⟨3, 0, 0, 67⟩ zv_v 0 [.ref 57, .null] [] s (mX12_printAll N s) := by
  unfold mX12_printAll
  refine zx_lift (pc' := 1) (fun _ => zq_aload_n rfl rfl dX12_printAll_0 rfl) ?_
  refine zx_lift (pc' := 2) (fun _ => zq_iconst (v := 0) dX12_printAll_1 rfl rfl) ?_
  refine zx_putI (pc' := 5) zfr_X12_261 (fun _ => ⟨rfl, rfl⟩) zfd_57_36 dX12_printAll_2 rfl (fun s1 => ?_)
  refine zx_lift (pc' := 6) (fun _ => zq_iconst (v := 0) dX12_printAll_5 rfl rfl) ?_
  refine zx_lift (pc' := 7) (fun _ => zq_istore_n (ls' := [.ref 57, .int (0 : Int32)]) rfl (by decide) rfl rfl dX12_printAll_6 rfl) ?_
  refine yX12_printAll_7 N  N ((0 : Int32), s1)
theorem cX12_printAll_mc (N : Nat)   (s : zq_S) (v : Unit × zq_S) (h : mX12_printAll N s = some v) : zq_MC yX12_printAll cX12_printAll 2 none ⟨3, 0, 0, 67⟩ 0 0 [.ref 57] (zq_en s) (zv_v v.1, zq_en v.2) := zq_MC_x [.ref 57, .null] (by decide +kernel) rfl rfl (Nat.le_of_ble_eq_true rfl) (xX12_printAll N s) h
def jX12_print_j42 (N : Nat)   (t0 : Int32) (s : zq_S) : Option (Int32 × zq_S) :=
  some (t0, s)
set_option maxRecDepth 20000 in
set_option maxHeartbeats 2000000 in
theorem xX12_print_j42_j (N : Nat)   (t0 : Int32) (s : zq_S) : zq_X yX12_print RX12 cX12_print 2 (some .int) ⟨4, 0, 0, 88⟩ zv_i 42 [.null, .null] [.int t0] s (jX12_print_j42 N t0 s) := by
  unfold jX12_print_j42
  exact zx_iret rfl dX12_print_42
def mX12_print (N : Nat)  (p1 : Int32) (s : zq_S) : Option (Int32 × zq_S) :=
  zq_b2 (mX12_printAll N s) (fun r1 s2 =>
  if p1 = (-1 : Int32) then
  jX12_print_j42 N (zgf s2 57 36) s2
  else
  zq_b2 (mX12_in N (Int32.toInt64 p1) (0 : Int64) (Int32.toInt64 ((zgf s2 57 36) - (1 : Int32))) s2) (fun r3 s4 =>
  if r3 = (0 : Int32) then
  jX12_print_j42 N (-1 : Int32) s4
  else
  zq_ck p1 1600 (
  jX12_print_j42 N (zga s4 77 p1) s4)))
set_option maxRecDepth 20000 in
set_option maxHeartbeats 2000000 in
theorem xX12_print (N : Nat)  (p1 : Int32) (s : zq_S) : zq_X yX12_print RX12 cX12_print 2 (some .int) ⟨4, 0, 0, 88⟩ zv_i 0 [.ref 57, .int p1] [] s (mX12_print N p1 s) := by
  unfold mX12_print
  refine zx_lift (pc' := 1) (fun _ => zq_aload_n rfl rfl dX12_print_0 rfl) ?_
  refine zx_cVv (pc' := 4) zcv_X12_274 (cX12_printAll_mc N s) zob_57 rfl (by decide) (Nat.le_of_ble_eq_true rfl) dX12_print_1 rfl rfl (fun r1 s2 => ?_)
  refine zx_lift (pc' := 5) (fun _ => zq_iload_n rfl rfl dX12_print_4 rfl) ?_
  refine zx_lift (pc' := 6) (fun _ => zq_iconst (v := (-1)) dX12_print_5 rfl rfl) ?_
  refine zx_icmp_ne (pc' := 9) (tgt := 16) dX12_print_6 rfl rfl (fun hc => ?_) (fun hc => ?_)
  · refine zx_lift (pc' := 17) (fun _ => zq_iload_n rfl rfl dX12_print_16 rfl) ?_
    refine zx_lift (pc' := 18) (fun _ => zq_i2l dX12_print_17 rfl) ?_
    refine zx_lift (pc' := 19) (fun _ => zq_lconst (v := 0) dX12_print_18 rfl rfl) ?_
    refine zx_lift (pc' := 20) (fun _ => zq_aload_n rfl rfl dX12_print_19 rfl) ?_
    refine zx_lift (pc' := 23) (fun _ => zt_getI zfr_X12_261 zfd_57_36 dX12_print_20 rfl) ?_
    refine zx_lift (pc' := 24) (fun _ => zq_iconst (v := 1) dX12_print_23 rfl rfl) ?_
    refine zx_lift (pc' := 25) (fun _ => zq_isub dX12_print_24 rfl) ?_
    refine zx_lift (pc' := 26) (fun _ => zq_i2l dX12_print_25 rfl) ?_
    refine zx_cSi (pc' := 29) zcs_X12_144 (cX12_in_mc N (Int32.toInt64 p1) (0 : Int64) (Int32.toInt64 ((zgf s2 57 36) - (1 : Int32))) s2) rfl (by decide) (Nat.le_of_ble_eq_true rfl) dX12_print_26 rfl rfl (fun r3 s4 => ?_)
    refine zx_if_eq (pc' := 32) (tgt := 41) dX12_print_29 rfl rfl (fun hc => ?_) (fun hc => ?_)
    · refine zx_lift (pc' := 42) (fun _ => zq_iconst (v := (-1)) dX12_print_41 rfl rfl) ?_
      refine zx_less [.null, .null] (zq_cz (zq_cz zq_cn)) ?_
      exact xX12_print_j42_j N (-1 : Int32) s4
    · refine zx_lift (pc' := 33) (fun _ => zq_aload_n rfl rfl dX12_print_32 rfl) ?_
      refine zx_lift (pc' := 36) (fun _ => zt_getR zfr_X12_72 zfd_57_35 dX12_print_33 rfl) ?_
      refine zx_lift (pc' := 37) (fun _ => zq_iload_n rfl rfl dX12_print_36 rfl) ?_
      refine zx_iaload (pc' := 38) zsh_77 dX12_print_37 rfl ?_
      refine zx_lift (pc' := 42) (fun _ => zq_goto dX12_print_38 rfl) ?_
      refine zx_less [.null, .null] (zq_cz (zq_cz zq_cn)) ?_
      exact xX12_print_j42_j N (zga s4 77 p1) s4
  · refine zx_lift (pc' := 10) (fun _ => zq_aload_n rfl rfl dX12_print_9 rfl) ?_
    refine zx_lift (pc' := 13) (fun _ => zt_getI zfr_X12_261 zfd_57_36 dX12_print_10 rfl) ?_
    refine zx_lift (pc' := 42) (fun _ => zq_goto dX12_print_13 rfl) ?_
    refine zx_less [.null, .null] (zq_cz (zq_cz zq_cn)) ?_
    exact xX12_print_j42_j N (zgf s2 57 36) s2
theorem cX12_print_mc (N : Nat)  (p1 : Int32) (s : zq_S) (v : Int32 × zq_S) (h : mX12_print N p1 s = some v) : zq_MC yX12_print cX12_print 2 (some .int) ⟨4, 0, 0, 88⟩ 0 0 [.ref 57, .int p1] (zq_en s) (zv_i v.1, zq_en v.2) := zq_MC_x [.ref 57, .int p1] (by decide +kernel) rfl rfl (Nat.le_of_ble_eq_true rfl) (xX12_print N p1 s) h
def bX12_fill_a91_2 (N : Nat)  (f1 : Int32)  (self : Int32 × zq_S → Option (Int32 × zq_S)) (v : Int32 × zq_S) : Option (Int32 × zq_S) :=
  zq_ck f1 1024 (
  if (zga v.2 84 f1) ≤ v.1 then
  zq_ck f1 1024 (
  some ((zga v.2 84 f1), v.2))
  else
  zq_ck (((40 : Int32) * f1) + v.1) 40960 (
  zq_ck v.1 40 (
  zq_let (zpa v.2 91 v.1 (zga v.2 85 (((40 : Int32) * f1) + v.1))) (fun s1 =>
  zq_let (v.1 + (1 : Int32)) (fun x2 =>
  self (x2, s1))))))
set_option maxRecDepth 20000 in
set_option maxHeartbeats 2000000 in
theorem xX12_fill_a91_2 (N : Nat)  (f1 : Int32)  (self : Int32 × zq_S → Option (Int32 × zq_S)) (hself : ∀ v, zq_X yX12_fill RX12 cX12_fill 4 (some .int) ⟨0, 0, 0, 0⟩ zv_i 2 [.ref 57, .int f1, .ref 91, .int v.1] [] v.2 (self v)) (v : Int32 × zq_S) : zq_X yX12_fill RX12 cX12_fill 4 (some .int) ⟨0, 0, 0, 0⟩ zv_i 2 [.ref 57, .int f1, .ref 91, .int v.1] [] v.2 (bX12_fill_a91_2 N f1 self v) := by
  unfold bX12_fill_a91_2
  refine zx_lift (pc' := 3) (fun _ => zq_iload_n rfl rfl dX12_fill_2 rfl) ?_
  refine zx_lift (pc' := 4) (fun _ => zq_aload_n rfl rfl dX12_fill_3 rfl) ?_
  refine zx_lift (pc' := 7) (fun _ => zt_getR zfr_X12_94 zfd_57_45 dX12_fill_4 rfl) ?_
  refine zx_lift (pc' := 8) (fun _ => zq_iload_n rfl rfl dX12_fill_7 rfl) ?_
  refine zx_iaload (pc' := 9) zsh_84 dX12_fill_8 rfl ?_
  refine zx_icmp_ge (pc' := 12) (tgt := 32) dX12_fill_9 rfl rfl (fun hc => ?_) (fun hc => ?_)
  · refine zx_lift (pc' := 33) (fun _ => zq_aload_n rfl rfl dX12_fill_32 rfl) ?_
    refine zx_lift (pc' := 36) (fun _ => zt_getR zfr_X12_94 zfd_57_45 dX12_fill_33 rfl) ?_
    refine zx_lift (pc' := 37) (fun _ => zq_iload_n rfl rfl dX12_fill_36 rfl) ?_
    refine zx_iaload (pc' := 38) zsh_84 dX12_fill_37 rfl ?_
    exact zx_iret rfl dX12_fill_38
  · refine zx_lift (pc' := 13) (fun _ => zq_aload_n rfl rfl dX12_fill_12 rfl) ?_
    refine zx_lift (pc' := 14) (fun _ => zq_iload_n rfl rfl dX12_fill_13 rfl) ?_
    refine zx_lift (pc' := 15) (fun _ => zq_aload_n rfl rfl dX12_fill_14 rfl) ?_
    refine zx_lift (pc' := 18) (fun _ => zt_getR zfr_X12_98 zfd_57_46 dX12_fill_15 rfl) ?_
    refine zx_lift (pc' := 20) (fun _ => zq_bipush (v := 40) dX12_fill_18 rfl rfl) ?_
    refine zx_lift (pc' := 21) (fun _ => zq_iload_n rfl rfl dX12_fill_20 rfl) ?_
    refine zx_lift (pc' := 22) (fun _ => zq_imul dX12_fill_21 rfl) ?_
    refine zx_lift (pc' := 23) (fun _ => zq_iload_n rfl rfl dX12_fill_22 rfl) ?_
    refine zx_lift (pc' := 24) (fun _ => zq_iadd dX12_fill_23 rfl) ?_
    refine zx_iaload (pc' := 25) zsh_85 dX12_fill_24 rfl ?_
    refine zx_iastore (pc' := 26) zsh_91 dX12_fill_25 rfl (fun s1 => ?_)
    refine zx_iinc (pc' := 29) (ls' := fun x2 => [.ref 57, .int f1, .ref 91, .int x2]) rfl rfl (by decide) rfl (fun _ => rfl) dX12_fill_26 rfl (fun x2 => ?_)
    refine zx_lift (pc' := 2) (fun _ => zq_goto dX12_fill_29 rfl) ?_
    exact hself (x2, s1)
theorem yX12_fill_a91_2 (N : Nat)  (f1 : Int32)  (n : Nat) : ∀ v : Int32 × zq_S, zq_X yX12_fill RX12 cX12_fill 4 (some .int) ⟨0, 0, 0, 0⟩ zv_i 2 [.ref 57, .int f1, .ref 91, .int v.1] [] v.2 (zq_loop (bX12_fill_a91_2 N f1 ) n v) := by
  induction n with
  | zero => exact fun v u hu => by cases hu
  | succ n ih =>
    intro v
    rw [zq_loop_s]
    exact xX12_fill_a91_2 N f1  (zq_loop (bX12_fill_a91_2 N f1 ) n) ih v
def mX12_fill_a91 (N : Nat)  (p1 : Int32) (s : zq_S) : Option (Int32 × zq_S) :=
  zq_loop (bX12_fill_a91_2 N p1 ) N ((0 : Int32), s)
set_option maxRecDepth 20000 in
set_option maxHeartbeats 2000000 in
theorem xX12_fill_a91 (N : Nat)  (p1 : Int32) (s : zq_S) : zq_X yX12_fill RX12 cX12_fill 4 (some .int) ⟨0, 0, 0, 0⟩ zv_i 0 [.ref 57, .int p1, .ref 91, .null] [] s (mX12_fill_a91 N p1 s) := by
  unfold mX12_fill_a91
  refine zx_lift (pc' := 1) (fun _ => zq_iconst (v := 0) dX12_fill_0 rfl rfl) ?_
  refine zx_lift (pc' := 2) (fun _ => zq_istore_n (ls' := [.ref 57, .int p1, .ref 91, .int (0 : Int32)]) rfl (by decide) rfl rfl dX12_fill_1 rfl) ?_
  refine yX12_fill_a91_2 N p1  N ((0 : Int32), s)
theorem cX12_fill_a91_mc (N : Nat)  (p1 : Int32) (s : zq_S) (v : Int32 × zq_S) (h : mX12_fill_a91 N p1 s = some v) : zq_MC yX12_fill cX12_fill 4 (some .int) ⟨0, 0, 0, 0⟩ 0 0 [.ref 57, .int p1, .ref 91] (zq_en s) (zv_i v.1, zq_en v.2) := zq_MC_x [.ref 57, .int p1, .ref 91, .null] (by decide +kernel) rfl rfl (Nat.le_of_ble_eq_true rfl) (xX12_fill_a91 N p1 s) h
