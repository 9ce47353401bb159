def jX12_writeText_j182 (N : Nat)  (f1 : Int32)  (self : Int32 × Int32 × Int32 × zq_S → Option (Unit × zq_S)) (w2 : Int32) (w3 : Int32) (w4 : Int32) (s : zq_S) : Option (Unit × zq_S) :=
  zq_let (w2 + (1 : Int32)) (fun x4 =>
  self (x4, w3, w4, s))
set_option maxRecDepth 20000 in
set_option maxHeartbeats 2000000 in
theorem xX12_writeText_j182_j (N : Nat)  (f1 : Int32)  (self : Int32 × Int32 × Int32 × zq_S → Option (Unit × zq_S)) (hself : ∀ v, zq_X yX12_writeText RX12 cX12_writeText 5 none ⟨2, 0, 0, 46⟩ zv_v 24 [.ref 57, .int f1, .int v.1, .int v.2.1, .int v.2.2.1] [] v.2.2.2 (self v)) (w2 : Int32) (w3 : Int32) (w4 : Int32) (s : zq_S) : zq_X yX12_writeText RX12 cX12_writeText 5 none ⟨2, 0, 0, 46⟩ zv_v 182 [.ref 57, .int f1, .int w2, .int w3, .int w4] [] s (jX12_writeText_j182 N f1 self w2 w3 w4 s) := by
  unfold jX12_writeText_j182
  refine zx_iinc (pc' := 185) (ls' := fun x4 => [.ref 57, .int f1, .int x4, .int w3, .int w4]) rfl rfl (by decide) rfl (fun _ => rfl) dX12_writeText_182 rfl (fun x4 => ?_)
  refine zx_lift (pc' := 24) (fun _ => zq_goto dX12_writeText_185 rfl) ?_
  exact hself (x4, w3, w4, s)
def jX12_writeText_j211 (N : Nat)  (f1 : Int32)  (self : Int32 × Int32 × Int32 × zq_S → Option (Unit × zq_S)) (w3 : Int32) (w4 : Int32) (t0 : Int32) (s : zq_S) : Option (Unit × zq_S) :=
  self (t0, w3, w4, s)
set_option maxRecDepth 20000 in
set_option maxHeartbeats 2000000 in
theorem xX12_writeText_j211_j (N : Nat)  (f1 : Int32)  (self : Int32 × Int32 × Int32 × zq_S → Option (Unit × zq_S)) (hself : ∀ v, zq_X yX12_writeText RX12 cX12_writeText 5 none ⟨2, 0, 0, 46⟩ zv_v 24 [.ref 57, .int f1, .int v.1, .int v.2.1, .int v.2.2.1] [] v.2.2.2 (self v)) (w3 : Int32) (w4 : Int32) (t0 : Int32) (s : zq_S) : zq_X yX12_writeText RX12 cX12_writeText 5 none ⟨2, 0, 0, 46⟩ zv_v 211 [.ref 57, .int f1, .null, .int w3, .int w4] [.int t0] s (jX12_writeText_j211 N f1 self w3 w4 t0 s) := by
  unfold jX12_writeText_j211
  refine zx_lift (pc' := 212) (fun _ => zq_istore_n (ls' := [.ref 57, .int f1, .int t0, .int w3, .int w4]) rfl (by decide) rfl rfl dX12_writeText_211 rfl) ?_
  refine zx_lift (pc' := 24) (fun _ => zq_goto dX12_writeText_212 rfl) ?_
  exact hself (t0, w3, w4, s)
def jX12_writeText_j162 (N : Nat)  (f1 : Int32)  (self : Int32 × Int32 × Int32 × zq_S → Option (Unit × zq_S)) (w2 : Int32) (w3 : Int32) (w4 : Int32) (s : zq_S) : Option (Unit × zq_S) :=
  zq_ck w2 400 (
  if (zga s 58 w2) = (4 : Int32) then
  jX12_writeText_j182 N f1 self w2 w3 w4 s
  else
  zq_ck w2 400 (
  if (zga s 58 w2) = (5 : Int32) then
  jX12_writeText_j182 N f1 self w2 w3 w4 s
  else
  zq_b2 (mX12_isStanding N f1 w2 s) (fun r5 s6 =>
  if r5 = (0 : Int32) then
  zq_ck w2 400 (
  jX12_writeText_j211 N f1 self w3 w4 ((zga s6 61 w2) + (1 : Int32)) s6)
  else
  jX12_writeText_j211 N f1 self w3 w4 (w2 + (1 : Int32)) s6)))
set_option maxRecDepth 20000 in
set_option maxHeartbeats 2000000 in
theorem xX12_writeText_j162_j (N : Nat)  (f1 : Int32)  (self : Int32 × Int32 × Int32 × zq_S → Option (Unit × zq_S)) (hself : ∀ v, zq_X yX12_writeText RX12 cX12_writeText 5 none ⟨2, 0, 0, 46⟩ zv_v 24 [.ref 57, .int f1, .int v.1, .int v.2.1, .int v.2.2.1] [] v.2.2.2 (self v)) (w2 : Int32) (w3 : Int32) (w4 : Int32) (s : zq_S) : zq_X yX12_writeText RX12 cX12_writeText 5 none ⟨2, 0, 0, 46⟩ zv_v 162 [.ref 57, .int f1, .int w2, .int w3, .int w4] [] s (jX12_writeText_j162 N f1 self w2 w3 w4 s) := by
  unfold jX12_writeText_j162
  refine zx_lift (pc' := 163) (fun _ => zq_aload_n rfl rfl dX12_writeText_162 rfl) ?_
  refine zx_lift (pc' := 166) (fun _ => zt_getR zfr_X12_7 zfd_57_1 dX12_writeText_163 rfl) ?_
  refine zx_lift (pc' := 167) (fun _ => zq_iload_n rfl rfl dX12_writeText_166 rfl) ?_
  refine zx_iaload (pc' := 168) zsh_58 dX12_writeText_167 rfl ?_
  refine zx_lift (pc' := 169) (fun _ => zq_iconst (v := 4) dX12_writeText_168 rfl rfl) ?_
  refine zx_icmp_eq (pc' := 172) (tgt := 182) dX12_writeText_169 rfl rfl (fun hc => ?_) (fun hc => ?_)
  · exact xX12_writeText_j182_j N f1 self hself w2 w3 w4 s
  · refine zx_lift (pc' := 173) (fun _ => zq_aload_n rfl rfl dX12_writeText_172 rfl) ?_
    refine zx_lift (pc' := 176) (fun _ => zt_getR zfr_X12_7 zfd_57_1 dX12_writeText_173 rfl) ?_
    refine zx_lift (pc' := 177) (fun _ => zq_iload_n rfl rfl dX12_writeText_176 rfl) ?_
    refine zx_iaload (pc' := 178) zsh_58 dX12_writeText_177 rfl ?_
    refine zx_lift (pc' := 179) (fun _ => zq_iconst (v := 5) dX12_writeText_178 rfl rfl) ?_
    refine zx_icmp_ne (pc' := 182) (tgt := 188) dX12_writeText_179 rfl rfl (fun hc => ?_) (fun hc => ?_)
    · refine zx_lift (pc' := 189) (fun _ => zq_aload_n rfl rfl dX12_writeText_188 rfl) ?_
      refine zx_lift (pc' := 190) (fun _ => zq_iload_n rfl rfl dX12_writeText_189 rfl) ?_
      refine zx_lift (pc' := 191) (fun _ => zq_iload_n rfl rfl dX12_writeText_190 rfl) ?_
      refine zx_cVi (pc' := 194) zcv_X12_334 (cX12_isStanding_mc N f1 w2 s) zob_57 rfl (by decide) (Nat.le_of_ble_eq_true rfl) dX12_writeText_191 rfl rfl (fun r5 s6 => ?_)
      refine zx_if_eq (pc' := 197) (tgt := 203) dX12_writeText_194 rfl rfl (fun hc => ?_) (fun hc => ?_)
      · refine zx_lift (pc' := 204) (fun _ => zq_aload_n rfl rfl dX12_writeText_203 rfl) ?_
        refine zx_lift (pc' := 207) (fun _ => zt_getR zfr_X12_19 zfd_57_4 dX12_writeText_204 rfl) ?_
        refine zx_lift (pc' := 208) (fun _ => zq_iload_n rfl rfl dX12_writeText_207 rfl) ?_
        refine zx_iaload (pc' := 209) zsh_61 dX12_writeText_208 rfl ?_
        refine zx_lift (pc' := 210) (fun _ => zq_iconst (v := 1) dX12_writeText_209 rfl rfl) ?_
        refine zx_lift (pc' := 211) (fun _ => zq_iadd dX12_writeText_210 rfl) ?_
        refine zx_less [.ref 57, .int f1, .null, .int w3, .int w4] (zq_cr (zq_cr (zq_cz (zq_cr (zq_cr zq_cn))))) ?_
        exact xX12_writeText_j211_j N f1 self hself w3 w4 ((zga s6 61 w2) + (1 : Int32)) s6
      · refine zx_lift (pc' := 198) (fun _ => zq_iload_n rfl rfl dX12_writeText_197 rfl) ?_
        refine zx_lift (pc' := 199) (fun _ => zq_iconst (v := 1) dX12_writeText_198 rfl rfl) ?_
        refine zx_lift (pc' := 200) (fun _ => zq_iadd dX12_writeText_199 rfl) ?_
        refine zx_lift (pc' := 211) (fun _ => zq_goto dX12_writeText_200 rfl) ?_
        refine zx_less [.ref 57, .int f1, .null, .int w3, .int w4] (zq_cr (zq_cr (zq_cz (zq_cr (zq_cr zq_cn))))) ?_
        exact xX12_writeText_j211_j N f1 self hself w3 w4 (w2 + (1 : Int32)) s6
    · exact xX12_writeText_j182_j N f1 self hself w2 w3 w4 s
def jX12_writeText_j34 (N : Nat)  (f1 : Int32)  (self : Int32 × Int32 × Int32 × zq_S → Option (Unit × zq_S)) (w2 : Int32) (w3 : Int32) (w4 : Int32) (s : zq_S) : Option (Unit × zq_S) :=
  if w2 = w3 then
  zq_let (zgf s 57 0) (fun x18 =>
  self (w4, x18, (-1 : Int32), s))
  else
  zq_ck w2 400 (
  if (zga s 58 w2) = (0 : Int32) then
  zq_ck w2 400 (
  zq_b2 (mX12_addWord N f1 (zga s 59 w2) s) (fun r15 s16 =>
  zq_let (w2 + (1 : Int32)) (fun x17 =>
  self (x17, w3, w4, s16))))
  else
  zq_ck w2 400 (
  if (zga s 58 w2) = (6 : Int32) then
  zq_b2 (mX12_addRow N f1 w2 s) (fun r12 s13 =>
  zq_ck w2 400 (
  zq_let ((zga s13 61 w2) + (1 : Int32)) (fun x14 =>
  self (x14, w3, w4, s13))))
  else
  zq_ck w2 400 (
  if (zga s 58 w2) = (5 : Int32) then
  zq_ck w2 400 (
  zq_b2 (mX12_has N f1 (zga s 59 w2) s) (fun r7 s8 =>
  if r7 = (0 : Int32) then
  jX12_writeText_j162 N f1 self w2 w3 w4 s8
  else
  zq_let (w2 + (1 : Int32)) (fun x9 =>
  zq_ck w2 400 (
  zq_ck (zga s8 59 w2) 10 (
  zq_let ((zga s8 68 (zga s8 59 w2)) + (1 : Int32)) (fun x10 =>
  zq_ck (x10 - (1 : Int32)) 400 (
  zq_let (zga s8 61 (x10 - (1 : Int32))) (fun x11 =>
  self (x10, x11, x9, s8)))))))))
  else
  jX12_writeText_j162 N f1 self w2 w3 w4 s)))
set_option maxRecDepth 20000 in
set_option maxHeartbeats 2000000 in
theorem xX12_writeText_j34_j (N : Nat)  (f1 : Int32)  (self : Int32 × Int32 × Int32 × zq_S → Option (Unit × zq_S)) (hself : ∀ v, zq_X yX12_writeText RX12 cX12_writeText 5 none ⟨2, 0, 0, 46⟩ zv_v 24 [.ref 57, .int f1, .int v.1, .int v.2.1, .int v.2.2.1] [] v.2.2.2 (self v)) (w2 : Int32) (w3 : Int32) (w4 : Int32) (s : zq_S) : zq_X yX12_writeText RX12 cX12_writeText 5 none ⟨2, 0, 0, 46⟩ zv_v 34 [.ref 57, .int f1, .int w2, .int w3, .int w4] [] s (jX12_writeText_j34 N f1 self w2 w3 w4 s) := by
  unfold jX12_writeText_j34
  refine zx_lift (pc' := 35) (fun _ => zq_iload_n rfl rfl dX12_writeText_34 rfl) ?_
  refine zx_lift (pc' := 36) (fun _ => zq_iload_n rfl rfl dX12_writeText_35 rfl) ?_
  refine zx_icmp_ne (pc' := 39) (tgt := 53) dX12_writeText_36 rfl rfl (fun hc => ?_) (fun hc => ?_)
  · refine zx_lift (pc' := 54) (fun _ => zq_aload_n rfl rfl dX12_writeText_53 rfl) ?_
    refine zx_lift (pc' := 57) (fun _ => zt_getR zfr_X12_7 zfd_57_1 dX12_writeText_54 rfl) ?_
    refine zx_lift (pc' := 58) (fun _ => zq_iload_n rfl rfl dX12_writeText_57 rfl) ?_
    refine zx_iaload (pc' := 59) zsh_58 dX12_writeText_58 rfl ?_
    refine zx_if_ne (pc' := 62) (tgt := 79) dX12_writeText_59 rfl rfl (fun hc => ?_) (fun hc => ?_)
    · refine zx_lift (pc' := 80) (fun _ => zq_aload_n rfl rfl dX12_writeText_79 rfl) ?_
      refine zx_lift (pc' := 83) (fun _ => zt_getR zfr_X12_7 zfd_57_1 dX12_writeText_80 rfl) ?_
      refine zx_lift (pc' := 84) (fun _ => zq_iload_n rfl rfl dX12_writeText_83 rfl) ?_
      refine zx_iaload (pc' := 85) zsh_58 dX12_writeText_84 rfl ?_
      refine zx_lift (pc' := 87) (fun _ => zq_bipush (v := 6) dX12_writeText_85 rfl rfl) ?_
      refine zx_icmp_ne (pc' := 90) (tgt := 108) dX12_writeText_87 rfl rfl (fun hc => ?_) (fun hc => ?_)
      · refine zx_lift (pc' := 109) (fun _ => zq_aload_n rfl rfl dX12_writeText_108 rfl) ?_
        refine zx_lift (pc' := 112) (fun _ => zt_getR zfr_X12_7 zfd_57_1 dX12_writeText_109 rfl) ?_
        refine zx_lift (pc' := 113) (fun _ => zq_iload_n rfl rfl dX12_writeText_112 rfl) ?_
        refine zx_iaload (pc' := 114) zsh_58 dX12_writeText_113 rfl ?_
        refine zx_lift (pc' := 115) (fun _ => zq_iconst (v := 5) dX12_writeText_114 rfl rfl) ?_
        refine zx_icmp_ne (pc' := 118) (tgt := 162) dX12_writeText_115 rfl rfl (fun hc => ?_) (fun hc => ?_)
        · exact xX12_writeText_j162_j N f1 self hself w2 w3 w4 s
        · refine zx_lift (pc' := 119) (fun _ => zq_iload_n rfl rfl dX12_writeText_118 rfl) ?_
          refine zx_lift (pc' := 120) (fun _ => zq_aload_n rfl rfl dX12_writeText_119 rfl) ?_
          refine zx_lift (pc' := 123) (fun _ => zt_getR zfr_X12_13 zfd_57_2 dX12_writeText_120 rfl) ?_
          refine zx_lift (pc' := 124) (fun _ => zq_iload_n rfl rfl dX12_writeText_123 rfl) ?_
          refine zx_iaload (pc' := 125) zsh_59 dX12_writeText_124 rfl ?_
          refine zx_cSi (pc' := 128) zcs_X12_189 (cX12_has_mc N f1 (zga s 59 w2) s) rfl (by decide) (Nat.le_of_ble_eq_true rfl) dX12_writeText_125 rfl rfl (fun r7 s8 => ?_)
          refine zx_if_eq (pc' := 131) (tgt := 162) dX12_writeText_128 rfl rfl (fun hc => ?_) (fun hc => ?_)
          · exact xX12_writeText_j162_j N f1 self hself w2 w3 w4 s8
          · refine zx_lift (pc' := 132) (fun _ => zq_iload_n rfl rfl dX12_writeText_131 rfl) ?_
            refine zx_lift (pc' := 133) (fun _ => zq_iconst (v := 1) dX12_writeText_132 rfl rfl) ?_
            refine zx_lift (pc' := 134) (fun _ => zq_iadd dX12_writeText_133 rfl) ?_
            refine zx_istore (pc' := 136) (ls' := fun x9 => [.ref 57, .int f1, .int w2, .int w3, .int x9]) (by decide) rfl (fun _ => rfl) dX12_writeText_134 rfl (fun x9 => ?_)
            refine zx_lift (pc' := 137) (fun _ => zq_aload_n rfl rfl dX12_writeText_136 rfl) ?_
            refine zx_lift (pc' := 140) (fun _ => zt_getR zfr_X12_40 zfd_57_13 dX12_writeText_137 rfl) ?_
            refine zx_lift (pc' := 141) (fun _ => zq_aload_n rfl rfl dX12_writeText_140 rfl) ?_
            refine zx_lift (pc' := 144) (fun _ => zt_getR zfr_X12_13 zfd_57_2 dX12_writeText_141 rfl) ?_
            refine zx_lift (pc' := 145) (fun _ => zq_iload_n rfl rfl dX12_writeText_144 rfl) ?_
            refine zx_iaload (pc' := 146) zsh_59 dX12_writeText_145 rfl ?_
            refine zx_iaload (pc' := 147) zsh_68 dX12_writeText_146 rfl ?_
            refine zx_lift (pc' := 148) (fun _ => zq_iconst (v := 1) dX12_writeText_147 rfl rfl) ?_
            refine zx_lift (pc' := 149) (fun _ => zq_iadd dX12_writeText_148 rfl) ?_
            refine zx_istore_n (pc' := 150) (ls' := fun x10 => [.ref 57, .int f1, .int x10, .int w3, .int x9]) rfl (by decide) rfl (fun _ => rfl) dX12_writeText_149 rfl (fun x10 => ?_)
            refine zx_lift (pc' := 151) (fun _ => zq_aload_n rfl rfl dX12_writeText_150 rfl) ?_
            refine zx_lift (pc' := 154) (fun _ => zt_getR zfr_X12_19 zfd_57_4 dX12_writeText_151 rfl) ?_
            refine zx_lift (pc' := 155) (fun _ => zq_iload_n rfl rfl dX12_writeText_154 rfl) ?_
            refine zx_lift (pc' := 156) (fun _ => zq_iconst (v := 1) dX12_writeText_155 rfl rfl) ?_
            refine zx_lift (pc' := 157) (fun _ => zq_isub dX12_writeText_156 rfl) ?_
            refine zx_iaload (pc' := 158) zsh_61 dX12_writeText_157 rfl ?_
            refine zx_istore_n (pc' := 159) (ls' := fun x11 => [.ref 57, .int f1, .int x10, .int x11, .int x9]) rfl (by decide) rfl (fun _ => rfl) dX12_writeText_158 rfl (fun x11 => ?_)
            refine zx_lift (pc' := 24) (fun _ => zq_goto dX12_writeText_159 rfl) ?_
            exact hself (x10, x11, x9, s8)
      · refine zx_lift (pc' := 91) (fun _ => zq_aload_n rfl rfl dX12_writeText_90 rfl) ?_
        refine zx_lift (pc' := 92) (fun _ => zq_iload_n rfl rfl dX12_writeText_91 rfl) ?_
        refine zx_lift (pc' := 93) (fun _ => zq_iload_n rfl rfl dX12_writeText_92 rfl) ?_
        refine zx_cVv (pc' := 96) zcv_X12_331 (cX12_addRow_mc N f1 w2 s) zob_57 rfl (by decide) (Nat.le_of_ble_eq_true rfl) dX12_writeText_93 rfl rfl (fun r12 s13 => ?_)
        refine zx_lift (pc' := 97) (fun _ => zq_aload_n rfl rfl dX12_writeText_96 rfl) ?_
        refine zx_lift (pc' := 100) (fun _ => zt_getR zfr_X12_19 zfd_57_4 dX12_writeText_97 rfl) ?_
        refine zx_lift (pc' := 101) (fun _ => zq_iload_n rfl rfl dX12_writeText_100 rfl) ?_
        refine zx_iaload (pc' := 102) zsh_61 dX12_writeText_101 rfl ?_
        refine zx_lift (pc' := 103) (fun _ => zq_iconst (v := 1) dX12_writeText_102 rfl rfl) ?_
        refine zx_lift (pc' := 104) (fun _ => zq_iadd dX12_writeText_103 rfl) ?_
        refine zx_istore_n (pc' := 105) (ls' := fun x14 => [.ref 57, .int f1, .int x14, .int w3, .int w4]) rfl (by decide) rfl (fun _ => rfl) dX12_writeText_104 rfl (fun x14 => ?_)
        refine zx_lift (pc' := 24) (fun _ => zq_goto dX12_writeText_105 rfl) ?_
        exact hself (x14, w3, w4, s13)
    · refine zx_lift (pc' := 63) (fun _ => zq_aload_n rfl rfl dX12_writeText_62 rfl) ?_
      refine zx_lift (pc' := 64) (fun _ => zq_iload_n rfl rfl dX12_writeText_63 rfl) ?_
      refine zx_lift (pc' := 65) (fun _ => zq_aload_n rfl rfl dX12_writeText_64 rfl) ?_
      refine zx_lift (pc' := 68) (fun _ => zt_getR zfr_X12_13 zfd_57_2 dX12_writeText_65 rfl) ?_
      refine zx_lift (pc' := 69) (fun _ => zq_iload_n rfl rfl dX12_writeText_68 rfl) ?_
      refine zx_iaload (pc' := 70) zsh_59 dX12_writeText_69 rfl ?_
      refine zx_cVv (pc' := 73) zcv_X12_327 (cX12_addWord_mc N f1 (zga s 59 w2) s) zob_57 rfl (by decide) (Nat.le_of_ble_eq_true rfl) dX12_writeText_70 rfl rfl (fun r15 s16 => ?_)
      refine zx_iinc (pc' := 76) (ls' := fun x17 => [.ref 57, .int f1, .int x17, .int w3, .int w4]) rfl rfl (by decide) rfl (fun _ => rfl) dX12_writeText_73 rfl (fun x17 => ?_)
      refine zx_lift (pc' := 24) (fun _ => zq_goto dX12_writeText_76 rfl) ?_
      exact hself (x17, w3, w4, s16)
  · refine zx_lift (pc' := 41) (fun _ => zq_iload rfl dX12_writeText_39 rfl) ?_
    refine zx_lift (pc' := 42) (fun _ => zq_istore_n (ls' := [.ref 57, .int f1, .int w4, .int w3, .int w4]) rfl (by decide) rfl rfl dX12_writeText_41 rfl) ?_
    refine zx_lift (pc' := 43) (fun _ => zq_aload_n rfl rfl dX12_writeText_42 rfl) ?_
    refine zx_lift (pc' := 46) (fun _ => zt_getI zfr_X12_243 zfd_57_0 dX12_writeText_43 rfl) ?_
    refine zx_istore_n (pc' := 47) (ls' := fun x18 => [.ref 57, .int f1, .int w4, .int x18, .int w4]) rfl (by decide) rfl (fun _ => rfl) dX12_writeText_46 rfl (fun x18 => ?_)
    refine zx_lift (pc' := 48) (fun _ => zq_iconst (v := (-1)) dX12_writeText_47 rfl rfl) ?_
    refine zx_lift (pc' := 50) (fun _ => zq_istore (ls' := [.ref 57, .int f1, .int w4, .int x18, .int (-1 : Int32)]) (by decide) rfl rfl dX12_writeText_48 rfl) ?_
    refine zx_lift (pc' := 24) (fun _ => zq_goto dX12_writeText_50 rfl) ?_
    exact hself (w4, x18, (-1 : Int32), s)
def bX12_writeText_24 (N : Nat)  (f1 : Int32)  (self : Int32 × Int32 × Int32 × zq_S → Option (Unit × zq_S)) (v : Int32 × Int32 × Int32 × zq_S) : Option (Unit × zq_S) :=
  if v.1 < v.2.1 then
  jX12_writeText_j34 N f1 self v.1 v.2.1 v.2.2.1 v.2.2.2
  else
  if v.2.2.1 < (0 : Int32) then
  some ((), v.2.2.2)
  else
  jX12_writeText_j34 N f1 self v.1 v.2.1 v.2.2.1 v.2.2.2
set_option maxRecDepth 20000 in
set_option maxHeartbeats 2000000 in
theorem xX12_writeText_24 (N : Nat)  (f1 : Int32)  (self : Int32 × Int32 × Int32 × zq_S → Option (Unit × zq_S)) (hself : ∀ v, zq_X yX12_writeText RX12 cX12_writeText 5 none ⟨2, 0, 0, 46⟩ zv_v 24 [.ref 57, .int f1, .int v.1, .int v.2.1, .int v.2.2.1] [] v.2.2.2 (self v)) (v : Int32 × Int32 × Int32 × zq_S) : zq_X yX12_writeText RX12 cX12_writeText 5 none ⟨2, 0, 0, 46⟩ zv_v 24 [.ref 57, .int f1, .int v.1, .int v.2.1, .int v.2.2.1] [] v.2.2.2 (bX12_writeText_24 N f1 self v) := by
  unfold bX12_writeText_24
  refine zx_lift (pc' := 25) (fun _ => zq_iload_n rfl rfl dX12_writeText_24 rfl) ?_
  refine zx_lift (pc' := 26) (fun _ => zq_iload_n rfl rfl dX12_writeText_25 rfl) ?_
  refine zx_icmp_lt (pc' := 29) (tgt := 34) dX12_writeText_26 rfl rfl (fun hc => ?_) (fun hc => ?_)
  · exact xX12_writeText_j34_j N f1 self hself v.1 v.2.1 v.2.2.1 v.2.2.2
  · refine zx_lift (pc' := 31) (fun _ => zq_iload rfl dX12_writeText_29 rfl) ?_
    refine zx_if_lt (pc' := 34) (tgt := 215) dX12_writeText_31 rfl rfl (fun hc => ?_) (fun hc => ?_)
    · exact zx_vret rfl dX12_writeText_215
    · exact xX12_writeText_j34_j N f1 self hself v.1 v.2.1 v.2.2.1 v.2.2.2
theorem yX12_writeText_24 (N : Nat)  (f1 : Int32)  (n : Nat) : ∀ v : Int32 × Int32 × Int32 × zq_S, zq_X yX12_writeText RX12 cX12_writeText 5 none ⟨2, 0, 0, 46⟩ zv_v 24 [.ref 57, .int f1, .int v.1, .int v.2.1, .int v.2.2.1] [] v.2.2.2 (zq_loop (bX12_writeText_24 N f1 ) n v) := by
  induction n with
  | zero => exact fun v u hu => by cases hu
  | succ n ih =>
    intro v
    rw [zq_loop_s]
    exact xX12_writeText_24 N f1  (zq_loop (bX12_writeText_24 N f1 ) n) ih v
def mX12_writeText (N : Nat)  (p1 : Int32) (s : zq_S) : Option (Unit × zq_S) :=
  zq_ck p1 1024 (
  zq_let (zpa s 84 p1 (0 : Int32)) (fun s1 =>
  zq_ck p1 1024 (
  zq_let (zpl s1 86 p1 (0 : Int64)) (fun s2 =>
  zq_let (zgf s2 57 0) (fun x3 =>
  zq_loop (bX12_writeText_24 N p1 ) N ((0 : Int32), x3, (-1 : Int32), s2))))))
set_option maxRecDepth 20000 in
set_option maxHeartbeats 2000000 in
theorem xX12_writeText (N : Nat)  (p1 : Int32) (s : zq_S) : zq_X yX12_writeText RX12 cX12_writeText 5 none ⟨2, 0, 0, 46⟩ zv_v 0 [.ref 57, .int p1, .null, .null, .null] [] s (mX12_writeText N p1 s) := by
  unfold mX12_writeText
  refine zx_lift (pc' := 1) (fun _ => zq_aload_n rfl rfl dX12_writeText_0 rfl) ?_
  refine zx_lift (pc' := 4) (fun _ => zt_getR zfr_X12_94 zfd_57_45 dX12_writeText_1 rfl) ?_
  refine zx_lift (pc' := 5) (fun _ => zq_iload_n rfl rfl dX12_writeText_4 rfl) ?_
  refine zx_lift (pc' := 6) (fun _ => zq_iconst (v := 0) dX12_writeText_5 rfl rfl) ?_
  refine zx_iastore (pc' := 7) zsh_84 dX12_writeText_6 rfl (fun s1 => ?_)
  refine zx_lift (pc' := 8) (fun _ => zq_aload_n rfl rfl dX12_writeText_7 rfl) ?_
  refine zx_lift (pc' := 11) (fun _ => zt_getR zfr_X12_101 zfd_57_47 dX12_writeText_8 rfl) ?_
  refine zx_lift (pc' := 12) (fun _ => zq_iload_n rfl rfl dX12_writeText_11 rfl) ?_
  refine zx_lift (pc' := 13) (fun _ => zq_lconst (v := 0) dX12_writeText_12 rfl rfl) ?_
  refine zx_lastore (pc' := 14) zsh_86 dX12_writeText_13 rfl (fun s2 => ?_)
  refine zx_lift (pc' := 15) (fun _ => zq_iconst (v := 0) dX12_writeText_14 rfl rfl) ?_
  refine zx_lift (pc' := 16) (fun _ => zq_istore_n (ls' := [.ref 57, .int p1, .int (0 : Int32), .null, .null]) rfl (by decide) rfl rfl dX12_writeText_15 rfl) ?_
  refine zx_lift (pc' := 17) (fun _ => zq_aload_n rfl rfl dX12_writeText_16 rfl) ?_
  refine zx_lift (pc' := 20) (fun _ => zt_getI zfr_X12_243 zfd_57_0 dX12_writeText_17 rfl) ?_
  refine zx_istore_n (pc' := 21) (ls' := fun x3 => [.ref 57, .int p1, .int (0 : Int32), .int x3, .null]) rfl (by decide) rfl (fun _ => rfl) dX12_writeText_20 rfl (fun x3 => ?_)
  refine zx_lift (pc' := 22) (fun _ => zq_iconst (v := (-1)) dX12_writeText_21 rfl rfl) ?_
  refine zx_lift (pc' := 24) (fun _ => zq_istore (ls' := [.ref 57, .int p1, .int (0 : Int32), .int x3, .int (-1 : Int32)]) (by decide) rfl rfl dX12_writeText_22 rfl) ?_
  refine yX12_writeText_24 N p1  N ((0 : Int32), x3, (-1 : Int32), s2)
theorem cX12_writeText_mc (N : Nat)  (p1 : Int32) (s : zq_S) (v : Unit × zq_S) (h : mX12_writeText N p1 s = some v) : zq_MC yX12_writeText cX12_writeText 5 none ⟨2, 0, 0, 46⟩ 0 0 [.ref 57, .int p1] (zq_en s) (zv_v v.1, zq_en v.2) := zq_MC_x [.ref 57, .int p1, .null, .null, .null] (by decide +kernel) rfl rfl (Nat.le_of_ble_eq_true rfl) (xX12_writeText N p1 s) h
def bX12_findTexts_2 (N : Nat)   (k28 : zq_S → Option (Unit × zq_S)) (self : Int32 × zq_S → Option (Unit × zq_S)) (v : Int32 × zq_S) : Option (Unit × zq_S) :=
  zq_b2 (mX12_all N v.2) (fun r1 s2 =>
  if r1 < v.1 then
  k28 s2
  else
  if (zgf s2 57 44) = (0 : Int32) then
  zq_b2 (mX12_writeText N v.1 s2) (fun r3 s4 =>
  zq_let (v.1 + (1 : Int32)) (fun x5 =>
  self (x5, s4)))
  else
  k28 s2)
set_option maxRecDepth 20000 in
set_option maxHeartbeats 2000000 in
theorem xX12_findTexts_2 (N : Nat)   (k28 : zq_S → Option (Unit × zq_S)) (hk28 : ∀ e, zq_X yX12_findTexts RX12 cX12_findTexts 2 none ⟨3, 0, 0, 70⟩ zv_v 28 [.ref 57, .null] [] e (k28 e)) (self : Int32 × zq_S → Option (Unit × zq_S)) (hself : ∀ v, zq_X yX12_findTexts RX12 cX12_findTexts 2 none ⟨3, 0, 0, 70⟩ zv_v 2 [.ref 57, .int v.1] [] v.2 (self v)) (v : Int32 × zq_S) : zq_X yX12_findTexts RX12 cX12_findTexts 2 none ⟨3, 0, 0, 70⟩ zv_v 2 [.ref 57, .int v.1] [] v.2 (bX12_findTexts_2 N k28 self v) := by
  unfold bX12_findTexts_2
  refine zx_lift (pc' := 3) (fun _ => zq_iload_n rfl rfl dX12_findTexts_2 rfl) ?_
  refine zx_lift (pc' := 4) (fun _ => zq_aload_n rfl rfl dX12_findTexts_3 rfl) ?_
  refine zx_cVi (pc' := 7) zcv_X12_148 (cX12_all_mc N v.2) zob_57 rfl (by decide) (Nat.le_of_ble_eq_true rfl) dX12_findTexts_4 rfl rfl (fun r1 s2 => ?_)
  refine zx_icmp_gt (pc' := 10) (tgt := 28) dX12_findTexts_7 rfl rfl (fun hc => ?_) (fun hc => ?_)
  · refine zx_less [.ref 57, .null] (zq_cr (zq_cz zq_cn)) ?_
    exact hk28 s2
  · refine zx_lift (pc' := 11) (fun _ => zq_aload_n rfl rfl dX12_findTexts_10 rfl) ?_
    refine zx_lift (pc' := 14) (fun _ => zt_getI zfr_X12_252 zfd_57_44 dX12_findTexts_11 rfl) ?_
    refine zx_if_ne (pc' := 17) (tgt := 28) dX12_findTexts_14 rfl rfl (fun hc => ?_) (fun hc => ?_)
    · refine zx_less [.ref 57, .null] (zq_cr (zq_cz zq_cn)) ?_
      exact hk28 s2
    · refine zx_lift (pc' := 18) (fun _ => zq_aload_n rfl rfl dX12_findTexts_17 rfl) ?_
      refine zx_lift (pc' := 19) (fun _ => zq_iload_n rfl rfl dX12_findTexts_18 rfl) ?_
      refine zx_cVv (pc' := 22) zcv_X12_337 (cX12_writeText_mc N v.1 s2) zob_57 rfl (by decide) (Nat.le_of_ble_eq_true rfl) dX12_findTexts_19 rfl rfl (fun r3 s4 => ?_)
      refine zx_iinc (pc' := 25) (ls' := fun x5 => [.ref 57, .int x5]) rfl rfl (by decide) rfl (fun _ => rfl) dX12_findTexts_22 rfl (fun x5 => ?_)
      refine zx_lift (pc' := 2) (fun _ => zq_goto dX12_findTexts_25 rfl) ?_
      exact hself (x5, s4)
theorem yX12_findTexts_2 (N : Nat)   (k28 : zq_S → Option (Unit × zq_S)) (hk28 : ∀ e, zq_X yX12_findTexts RX12 cX12_findTexts 2 none ⟨3, 0, 0, 70⟩ zv_v 28 [.ref 57, .null] [] e (k28 e)) (n : Nat) : ∀ v : Int32 × zq_S, zq_X yX12_findTexts RX12 cX12_findTexts 2 none ⟨3, 0, 0, 70⟩ zv_v 2 [.ref 57, .int v.1] [] v.2 (zq_loop (bX12_findTexts_2 N k28) n v) := by
  induction n with
  | zero => exact fun v u hu => by cases hu
  | succ n ih =>
    intro v
    rw [zq_loop_s]
    exact xX12_findTexts_2 N k28 hk28 (zq_loop (bX12_findTexts_2 N k28) n) ih v
def jX12_findTexts_j28 (N : Nat)    (s : zq_S) : Option (Unit × zq_S) :=
  zq_let (zpf s 57 44 (1 : Int32)) (fun s7 =>
  zq_b2 (mX12_find N s7) (fun r8 s9 =>
  some ((), s9)))
set_option maxRecDepth 20000 in
set_option maxHeartbeats 2000000 in
theorem xX12_findTexts_j28_j (N : Nat)    (s : zq_S) : zq_X yX12_findTexts RX12 cX12_findTexts 2 none ⟨3, 0, 0, 70⟩ zv_v 28 [.ref 57, .null] [] s (jX12_findTexts_j28 N s) := by
  unfold jX12_findTexts_j28
  refine zx_lift (pc' := 29) (fun _ => zq_aload_n rfl rfl dX12_findTexts_28 rfl) ?_
  refine zx_lift (pc' := 30) (fun _ => zq_iconst (v := 1) dX12_findTexts_29 rfl rfl) ?_
  refine zx_putI (pc' := 33) zfr_X12_252 (fun _ => ⟨by decide, rfl⟩) zfd_57_44 dX12_findTexts_30 rfl (fun s7 => ?_)
  refine zx_lift (pc' := 34) (fun _ => zq_aload_n rfl rfl dX12_findTexts_33 rfl) ?_
  refine zx_cVv (pc' := 37) zcv_X12_307 (cX12_find_mc N s7) zob_57 rfl (by decide) (Nat.le_of_ble_eq_true rfl) dX12_findTexts_34 rfl rfl (fun r8 s9 => ?_)
  exact zx_vret rfl dX12_findTexts_37
def mX12_findTexts (N : Nat)   (s : zq_S) : Option (Unit × zq_S) :=
  zq_loop (bX12_findTexts_2 N (fun e6 =>
  jX12_findTexts_j28 N e6)) N ((0 : Int32), s)
set_option maxRecDepth 20000 in
set_option maxHeartbeats 2000000 in
theorem xX12_findTexts (N : Nat)   (s : zq_S) : zq_X yX12_findTexts RX12 cX12_findTexts 2 none ⟨3, 0, 0, 70⟩ zv_v 0 [.ref 57, .null] [] s (mX12_findTexts N s) := by
  unfold mX12_findTexts
  refine zx_lift (pc' := 1) (fun _ => zq_iconst (v := 0) dX12_findTexts_0 rfl rfl) ?_
  refine zx_lift (pc' := 2) (fun _ => zq_istore_n (ls' := [.ref 57, .int (0 : Int32)]) rfl (by decide) rfl rfl dX12_findTexts_1 rfl) ?_
  refine yX12_findTexts_2 N _ (fun e6 => ?_) N ((0 : Int32), s)
  exact xX12_findTexts_j28_j N e6
theorem cX12_findTexts_mc (N : Nat)   (s : zq_S) (v : Unit × zq_S) (h : mX12_findTexts N s = some v) : zq_MC yX12_findTexts cX12_findTexts 2 none ⟨3, 0, 0, 70⟩ 0 0 [.ref 57] (zq_en s) (zv_v v.1, zq_en v.2) := zq_MC_x [.ref 57, .null] (by decide +kernel) rfl rfl (Nat.le_of_ble_eq_true rfl) (xX12_findTexts N s) h
def bX12_fill_a88_2 (N : Nat)  (f1 : Int32)  (self : Int32 × zq_S → Option (Int32 × zq_S)) (v : Int32 × zq_S) : Option (Int32 × zq_S) :=
  zq_ck f1 1024 (
  if (zga v.2 84 f1) ≤ v.1 then
  zq_ck f1 1024 (
  some ((zga v.2 84 f1), v.2))
  else
  zq_ck (((40 : Int32) * f1) + v.1) 40960 (
  zq_ck v.1 40 (
  zq_let (zpa v.2 88 v.1 (zga v.2 85 (((40 : Int32) * f1) + v.1))) (fun s1 =>
  zq_let (v.1 + (1 : Int32)) (fun x2 =>
  self (x2, s1))))))
set_option maxRecDepth 20000 in
set_option maxHeartbeats 2000000 in
theorem xX12_fill_a88_2 (N : Nat)  (f1 : Int32)  (self : Int32 × zq_S → Option (Int32 × zq_S)) (hself : ∀ v, zq_X yX12_fill RX12 cX12_fill 4 (some .int) ⟨0, 0, 0, 0⟩ zv_i 2 [.ref 57, .int f1, .ref 88, .int v.1] [] v.2 (self v)) (v : Int32 × zq_S) : zq_X yX12_fill RX12 cX12_fill 4 (some .int) ⟨0, 0, 0, 0⟩ zv_i 2 [.ref 57, .int f1, .ref 88, .int v.1] [] v.2 (bX12_fill_a88_2 N f1 self v) := by
  unfold bX12_fill_a88_2
  refine zx_lift (pc' := 3) (fun _ => zq_iload_n rfl rfl dX12_fill_2 rfl) ?_
  refine zx_lift (pc' := 4) (fun _ => zq_aload_n rfl rfl dX12_fill_3 rfl) ?_
  refine zx_lift (pc' := 7) (fun _ => zt_getR zfr_X12_94 zfd_57_45 dX12_fill_4 rfl) ?_
  refine zx_lift (pc' := 8) (fun _ => zq_iload_n rfl rfl dX12_fill_7 rfl) ?_
  refine zx_iaload (pc' := 9) zsh_84 dX12_fill_8 rfl ?_
  refine zx_icmp_ge (pc' := 12) (tgt := 32) dX12_fill_9 rfl rfl (fun hc => ?_) (fun hc => ?_)
  · refine zx_lift (pc' := 33) (fun _ => zq_aload_n rfl rfl dX12_fill_32 rfl) ?_
    refine zx_lift (pc' := 36) (fun _ => zt_getR zfr_X12_94 zfd_57_45 dX12_fill_33 rfl) ?_
    refine zx_lift (pc' := 37) (fun _ => zq_iload_n rfl rfl dX12_fill_36 rfl) ?_
    refine zx_iaload (pc' := 38) zsh_84 dX12_fill_37 rfl ?_
    exact zx_iret rfl dX12_fill_38
  · refine zx_lift (pc' := 13) (fun _ => zq_aload_n rfl rfl dX12_fill_12 rfl) ?_
    refine zx_lift (pc' := 14) (fun _ => zq_iload_n rfl rfl dX12_fill_13 rfl) ?_
    refine zx_lift (pc' := 15) (fun _ => zq_aload_n rfl rfl dX12_fill_14 rfl) ?_
    refine zx_lift (pc' := 18) (fun _ => zt_getR zfr_X12_98 zfd_57_46 dX12_fill_15 rfl) ?_
    refine zx_lift (pc' := 20) (fun _ => zq_bipush (v := 40) dX12_fill_18 rfl rfl) ?_
    refine zx_lift (pc' := 21) (fun _ => zq_iload_n rfl rfl dX12_fill_20 rfl) ?_
    refine zx_lift (pc' := 22) (fun _ => zq_imul dX12_fill_21 rfl) ?_
    refine zx_lift (pc' := 23) (fun _ => zq_iload_n rfl rfl dX12_fill_22 rfl) ?_
    refine zx_lift (pc' := 24) (fun _ => zq_iadd dX12_fill_23 rfl) ?_
    refine zx_iaload (pc' := 25) zsh_85 dX12_fill_24 rfl ?_
    refine zx_iastore (pc' := 26) zsh_88 dX12_fill_25 rfl (fun s1 => ?_)
    refine zx_iinc (pc' := 29) (ls' := fun x2 => [.ref 57, .int f1, .ref 88, .int x2]) rfl rfl (by decide) rfl (fun _ => rfl) dX12_fill_26 rfl (fun x2 => ?_)
    refine zx_lift (pc' := 2) (fun _ => zq_goto dX12_fill_29 rfl) ?_
    exact hself (x2, s1)
theorem yX12_fill_a88_2 (N : Nat)  (f1 : Int32)  (n : Nat) : ∀ v : Int32 × zq_S, zq_X yX12_fill RX12 cX12_fill 4 (some .int) ⟨0, 0, 0, 0⟩ zv_i 2 [.ref 57, .int f1, .ref 88, .int v.1] [] v.2 (zq_loop (bX12_fill_a88_2 N f1 ) n v) := by
  induction n with
  | zero => exact fun v u hu => by cases hu
  | succ n ih =>
    intro v
    rw [zq_loop_s]
    exact xX12_fill_a88_2 N f1  (zq_loop (bX12_fill_a88_2 N f1 ) n) ih v
def mX12_fill_a88 (N : Nat)  (p1 : Int32) (s : zq_S) : Option (Int32 × zq_S) :=
  zq_loop (bX12_fill_a88_2 N p1 ) N ((0 : Int32), s)
set_option maxRecDepth 20000 in
set_option maxHeartbeats 2000000 in
theorem xX12_fill_a88 (N : Nat)  (p1 : Int32) (s : zq_S) : zq_X yX12_fill RX12 cX12_fill 4 (some .int) ⟨0, 0, 0, 0⟩ zv_i 0 [.ref 57, .int p1, .ref 88, .null] [] s (mX12_fill_a88 N p1 s) := by
  unfold mX12_fill_a88
  refine zx_lift (pc' := 1) (fun _ => zq_iconst (v := 0) dX12_fill_0 rfl rfl) ?_
  refine zx_lift (pc' := 2) (fun _ => zq_istore_n (ls' := [.ref 57, .int p1, .ref 88, .int (0 : Int32)]) rfl (by decide) rfl rfl dX12_fill_1 rfl) ?_
  refine yX12_fill_a88_2 N p1  N ((0 : Int32), s)
theorem cX12_fill_a88_mc (N : Nat)  (p1 : Int32) (s : zq_S) (v : Int32 × zq_S) (h : mX12_fill_a88 N p1 s = some v) : zq_MC yX12_fill cX12_fill 4 (some .int) ⟨0, 0, 0, 0⟩ 0 0 [.ref 57, .int p1, .ref 88] (zq_en s) (zv_i v.1, zq_en v.2) := zq_MC_x [.ref 57, .int p1, .ref 88, .null] (by decide +kernel) rfl rfl (Nat.le_of_ble_eq_true rfl) (xX12_fill_a88 N p1 s) h
def bX12_fill_a89_2 (N : Nat)  (f1 : Int32)  (self : Int32 × zq_S → Option (Int32 × zq_S)) (v : Int32 × zq_S) : Option (Int32 × zq_S) :=
  zq_ck f1 1024 (
  if (zga v.2 84 f1) ≤ v.1 then
  zq_ck f1 1024 (
  some ((zga v.2 84 f1), v.2))
  else
  zq_ck (((40 : Int32) * f1) + v.1) 40960 (
  zq_ck v.1 40 (
  zq_let (zpa v.2 89 v.1 (zga v.2 85 (((40 : Int32) * f1) + v.1))) (fun s1 =>
  zq_let (v.1 + (1 : Int32)) (fun x2 =>
  self (x2, s1))))))
set_option maxRecDepth 20000 in
set_option maxHeartbeats 2000000 in
theorem xX12_fill_a89_2 (N : Nat)  (f1 : Int32)  (self : Int32 × zq_S → Option (Int32 × zq_S)) (hself : ∀ v, zq_X yX12_fill RX12 cX12_fill 4 (some .int) ⟨0, 0, 0, 0⟩ zv_i 2 [.ref 57, .int f1, .ref 89, .int v.1] [] v.2 (self v)) (v : Int32 × zq_S) : zq_X yX12_fill RX12 cX12_fill 4 (some .int) ⟨0, 0, 0, 0⟩ zv_i 2 [.ref 57, .int f1, .ref 89, .int v.1] [] v.2 (bX12_fill_a89_2 N f1 self v) := by
  unfold bX12_fill_a89_2
  refine zx_lift (pc' := 3) (fun _ => zq_iload_n rfl rfl dX12_fill_2 rfl) ?_
  refine zx_lift (pc' := 4) (fun _ => zq_aload_n rfl rfl dX12_fill_3 rfl) ?_
  refine zx_lift (pc' := 7) (fun _ => zt_getR zfr_X12_94 zfd_57_45 dX12_fill_4 rfl) ?_
  refine zx_lift (pc' := 8) (fun _ => zq_iload_n rfl rfl dX12_fill_7 rfl) ?_
  refine zx_iaload (pc' := 9) zsh_84 dX12_fill_8 rfl ?_
  refine zx_icmp_ge (pc' := 12) (tgt := 32) dX12_fill_9 rfl rfl (fun hc => ?_) (fun hc => ?_)
  · refine zx_lift (pc' := 33) (fun _ => zq_aload_n rfl rfl dX12_fill_32 rfl) ?_
    refine zx_lift (pc' := 36) (fun _ => zt_getR zfr_X12_94 zfd_57_45 dX12_fill_33 rfl) ?_
    refine zx_lift (pc' := 37) (fun _ => zq_iload_n rfl rfl dX12_fill_36 rfl) ?_
    refine zx_iaload (pc' := 38) zsh_84 dX12_fill_37 rfl ?_
    exact zx_iret rfl dX12_fill_38
  · refine zx_lift (pc' := 13) (fun _ => zq_aload_n rfl rfl dX12_fill_12 rfl) ?_
    refine zx_lift (pc' := 14) (fun _ => zq_iload_n rfl rfl dX12_fill_13 rfl) ?_
    refine zx_lift (pc' := 15) (fun _ => zq_aload_n rfl rfl dX12_fill_14 rfl) ?_
    refine zx_lift (pc' := 18) (fun _ => zt_getR zfr_X12_98 zfd_57_46 dX12_fill_15 rfl) ?_
    refine zx_lift (pc' := 20) (fun _ => zq_bipush (v := 40) dX12_fill_18 rfl rfl) ?_
    refine zx_lift (pc' := 21) (fun _ => zq_iload_n rfl rfl dX12_fill_20 rfl) ?_
    refine zx_lift (pc' := 22) (fun _ => zq_imul dX12_fill_21 rfl) ?_
    refine zx_lift (pc' := 23) (fun _ => zq_iload_n rfl rfl dX12_fill_22 rfl) ?_
    refine zx_lift (pc' := 24) (fun _ => zq_iadd dX12_fill_23 rfl) ?_
    refine zx_iaload (pc' := 25) zsh_85 dX12_fill_24 rfl ?_
    refine zx_iastore (pc' := 26) zsh_89 dX12_fill_25 rfl (fun s1 => ?_)
    refine zx_iinc (pc' := 29) (ls' := fun x2 => [.ref 57, .int f1, .ref 89, .int x2]) rfl rfl (by decide) rfl (fun _ => rfl) dX12_fill_26 rfl (fun x2 => ?_)
    refine zx_lift (pc' := 2) (fun _ => zq_goto dX12_fill_29 rfl) ?_
    exact hself (x2, s1)
theorem yX12_fill_a89_2 (N : Nat)  (f1 : Int32)  (n : Nat) : ∀ v : Int32 × zq_S, zq_X yX12_fill RX12 cX12_fill 4 (some .int) ⟨0, 0, 0, 0⟩ zv_i 2 [.ref 57, .int f1, .ref 89, .int v.1] [] v.2 (zq_loop (bX12_fill_a89_2 N f1 ) n v) := by
  induction n with
  | zero => exact fun v u hu => by cases hu
  | succ n ih =>
    intro v
    rw [zq_loop_s]
    exact xX12_fill_a89_2 N f1  (zq_loop (bX12_fill_a89_2 N f1 ) n) ih v
def mX12_fill_a89 (N : Nat)  (p1 : Int32) (s : zq_S) : Option (Int32 × zq_S) :=
  zq_loop (bX12_fill_a89_2 N p1 ) N ((0 : Int32), s)
set_option maxRecDepth 20000 in
set_option maxHeartbeats 2000000 in
theorem xX12_fill_a89 (N : Nat)  (p1 : Int32) (s : zq_S) : zq_X yX12_fill RX12 cX12_fill 4 (some .int) ⟨0, 0, 0, 0⟩ zv_i 0 [.ref 57, .int p1, .ref 89, .null] [] s (mX12_fill_a89 N p1 s) := by
  unfold mX12_fill_a89
  refine zx_lift (pc' := 1) (fun _ => zq_iconst (v := 0) dX12_fill_0 rfl rfl) ?_
  refine zx_lift (pc' := 2) (fun _ => zq_istore_n (ls' := [.ref 57, .int p1, .ref 89, .int (0 : Int32)]) rfl (by decide) rfl rfl dX12_fill_1 rfl) ?_
  refine yX12_fill_a89_2 N p1  N ((0 : Int32), s)
theorem cX12_fill_a89_mc (N : Nat)  (p1 : Int32) (s : zq_S) (v : Int32 × zq_S) (h : mX12_fill_a89 N p1 s = some v) : zq_MC yX12_fill cX12_fill 4 (some .int) ⟨0, 0, 0, 0⟩ 0 0 [.ref 57, .int p1, .ref 89] (zq_en s) (zv_i v.1, zq_en v.2) := zq_MC_x [.ref 57, .int p1, .ref 89, .null] (by decide +kernel) rfl rfl (Nat.le_of_ble_eq_true rfl) (xX12_fill_a89 N p1 s) h
def bX12_distance_2 (N : Nat)  (f1 : Int32) (f2 : Int32) (k20 : zq_S → Option (Int32 × zq_S)) (self : Int32 × zq_S → Option (Int32 × zq_S)) (v : Int32 × zq_S) : Option (Int32 × zq_S) :=
  if f2 < v.1 then
  k20 v.2
  else
  zq_ck v.1 41 (
  zq_let (zpa v.2 90 v.1 v.1) (fun s1 =>
  zq_let (v.1 + (1 : Int32)) (fun x2 =>
  self (x2, s1))))
set_option maxRecDepth 20000 in
set_option maxHeartbeats 2000000 in
theorem xX12_distance_2 (N : Nat)  (f1 : Int32) (f2 : Int32) (k20 : zq_S → Option (Int32 × zq_S)) (hk20 : ∀ e, zq_X yX12_distance RX12 cX12_distance 8 (some .int) ⟨0, 0, 0, 0⟩ zv_i 20 [.ref 57, .int f1, .int f2, .null, .null, .null, .null, .null] [] e (k20 e)) (self : Int32 × zq_S → Option (Int32 × zq_S)) (hself : ∀ v, zq_X yX12_distance RX12 cX12_distance 8 (some .int) ⟨0, 0, 0, 0⟩ zv_i 2 [.ref 57, .int f1, .int f2, .int v.1, .null, .null, .null, .null] [] v.2 (self v)) (v : Int32 × zq_S) : zq_X yX12_distance RX12 cX12_distance 8 (some .int) ⟨0, 0, 0, 0⟩ zv_i 2 [.ref 57, .int f1, .int f2, .int v.1, .null, .null, .null, .null] [] v.2 (bX12_distance_2 N f1 f2 k20 self v) := by
  unfold bX12_distance_2
  refine zx_lift (pc' := 3) (fun _ => zq_iload_n rfl rfl dX12_distance_2 rfl) ?_
  refine zx_lift (pc' := 4) (fun _ => zq_iload_n rfl rfl dX12_distance_3 rfl) ?_
  refine zx_icmp_gt (pc' := 7) (tgt := 20) dX12_distance_4 rfl rfl (fun hc => ?_) (fun hc => ?_)
  · refine zx_less [.ref 57, .int f1, .int f2, .null, .null, .null, .null, .null] (zq_cr (zq_cr (zq_cr (zq_cz (zq_cz (zq_cz (zq_cz (zq_cz zq_cn)))))))) ?_
    exact hk20 v.2
  · refine zx_lift (pc' := 8) (fun _ => zq_aload_n rfl rfl dX12_distance_7 rfl) ?_
    refine zx_lift (pc' := 11) (fun _ => zt_getR zfr_X12_113 zfd_57_51 dX12_distance_8 rfl) ?_
    refine zx_lift (pc' := 12) (fun _ => zq_iload_n rfl rfl dX12_distance_11 rfl) ?_
    refine zx_lift (pc' := 13) (fun _ => zq_iload_n rfl rfl dX12_distance_12 rfl) ?_
    refine zx_iastore (pc' := 14) zsh_90 dX12_distance_13 rfl (fun s1 => ?_)
    refine zx_iinc (pc' := 17) (ls' := fun x2 => [.ref 57, .int f1, .int f2, .int x2, .null, .null, .null, .null]) rfl rfl (by decide) rfl (fun _ => rfl) dX12_distance_14 rfl (fun x2 => ?_)
    refine zx_lift (pc' := 2) (fun _ => zq_goto dX12_distance_17 rfl) ?_
    exact hself (x2, s1)
theorem yX12_distance_2 (N : Nat)  (f1 : Int32) (f2 : Int32) (k20 : zq_S → Option (Int32 × zq_S)) (hk20 : ∀ e, zq_X yX12_distance RX12 cX12_distance 8 (some .int) ⟨0, 0, 0, 0⟩ zv_i 20 [.ref 57, .int f1, .int f2, .null, .null, .null, .null, .null] [] e (k20 e)) (n : Nat) : ∀ v : Int32 × zq_S, zq_X yX12_distance RX12 cX12_distance 8 (some .int) ⟨0, 0, 0, 0⟩ zv_i 2 [.ref 57, .int f1, .int f2, .int v.1, .null, .null, .null, .null] [] v.2 (zq_loop (bX12_distance_2 N f1 f2 k20) n v) := by
  induction n with
  | zero => exact fun v u hu => by cases hu
  | succ n ih =>
    intro v
    rw [zq_loop_s]
    exact xX12_distance_2 N f1 f2 k20 hk20 (zq_loop (bX12_distance_2 N f1 f2 k20) n) ih v
def jX12_distance_j142 (N : Nat)  (f1 : Int32) (f2 : Int32) (f3 : Int32) (k163 : zq_S → Option (Int32 × zq_S)) (self : Int32 × Int32 × zq_S → Option (Int32 × zq_S)) (w5 : Int32) (w6 : Int32) (t0 : Int32) (s : zq_S) : Option (Int32 × zq_S) :=
  zq_ck w5 41 (
  zq_let (zpa s 90 w5 t0) (fun s10 =>
  zq_let (w5 + (1 : Int32)) (fun x11 =>
  self (w6, x11, s10))))
set_option maxRecDepth 20000 in
set_option maxHeartbeats 2000000 in
theorem xX12_distance_j142_j (N : Nat)  (f1 : Int32) (f2 : Int32) (f3 : Int32) (k163 : zq_S → Option (Int32 × zq_S)) (hk163 : ∀ e, zq_X yX12_distance RX12 cX12_distance 8 (some .int) ⟨0, 0, 0, 0⟩ zv_i 163 [.ref 57, .int f1, .int f2, .int f3, .null, .null, .null, .null] [] e (k163 e)) (self : Int32 × Int32 × zq_S → Option (Int32 × zq_S)) (hself : ∀ v, zq_X yX12_distance RX12 cX12_distance 8 (some .int) ⟨0, 0, 0, 0⟩ zv_i 45 [.ref 57, .int f1, .int f2, .int f3, .int v.1, .int v.2.1, .null, .null] [] v.2.2 (self v)) (w5 : Int32) (w6 : Int32) (t0 : Int32) (s : zq_S) : zq_X yX12_distance RX12 cX12_distance 8 (some .int) ⟨0, 0, 0, 0⟩ zv_i 142 [.ref 57, .int f1, .int f2, .int f3, .null, .int w5, .int w6, .null] [.int t0] s (jX12_distance_j142 N f1 f2 f3 k163 self w5 w6 t0 s) := by
  unfold jX12_distance_j142
  refine zx_lift (pc' := 144) (fun _ => zq_istore (ls' := [.ref 57, .int f1, .int f2, .int f3, .null, .int w5, .int w6, .int t0]) (by decide) rfl rfl dX12_distance_142 rfl) ?_
  refine zx_lift (pc' := 145) (fun _ => zq_aload_n rfl rfl dX12_distance_144 rfl) ?_
  refine zx_lift (pc' := 148) (fun _ => zt_getR zfr_X12_113 zfd_57_51 dX12_distance_145 rfl) ?_
  refine zx_lift (pc' := 150) (fun _ => zq_iload rfl dX12_distance_148 rfl) ?_
  refine zx_lift (pc' := 152) (fun _ => zq_iload rfl dX12_distance_150 rfl) ?_
  refine zx_iastore (pc' := 153) zsh_90 dX12_distance_152 rfl (fun s10 => ?_)
  refine zx_lift (pc' := 155) (fun _ => zq_iload rfl dX12_distance_153 rfl) ?_
  refine zx_lift (pc' := 157) (fun _ => zq_istore (ls' := [.ref 57, .int f1, .int f2, .int f3, .int w6, .int w5, .int w6, .int t0]) (by decide) rfl rfl dX12_distance_155 rfl) ?_
  refine zx_iinc (pc' := 160) (ls' := fun x11 => [.ref 57, .int f1, .int f2, .int f3, .int w6, .int x11, .int w6, .int t0]) rfl rfl (by decide) rfl (fun _ => rfl) dX12_distance_157 rfl (fun x11 => ?_)
  refine zx_lift (pc' := 45) (fun _ => zq_goto dX12_distance_160 rfl) ?_
  refine zx_less [.ref 57, .int f1, .int f2, .int f3, .int w6, .int x11, .null, .null] (zq_cr (zq_cr (zq_cr (zq_cr (zq_cr (zq_cr (zq_cz (zq_cz zq_cn)))))))) ?_
  exact hself (w6, x11, s10)
def bX12_distance_45 (N : Nat)  (f1 : Int32) (f2 : Int32) (f3 : Int32) (k163 : zq_S → Option (Int32 × zq_S)) (self : Int32 × Int32 × zq_S → Option (Int32 × zq_S)) (v : Int32 × Int32 × zq_S) : Option (Int32 × zq_S) :=
  if f2 < v.2.1 then
  k163 v.2.2
  else
  zq_ck v.2.1 41 (
  zq_let (zga v.2.2 90 v.2.1) (fun x6 =>
  zq_ck (f3 - (1 : Int32)) 40 (
  zq_ck (v.2.1 - (1 : Int32)) 40 (
  zq_let (if (zga v.2.2 88 (f3 - (1 : Int32))) = (zga v.2.2 89 (v.2.1 - (1 : Int32))) then (0 : Int32) else (1 : Int32)) (fun x7 =>
  zq_let (v.1 + x7) (fun x8 =>
  zq_let (if x8 ≤ (x6 + (1 : Int32)) then x8 else (x6 + (1 : Int32))) (fun x9 =>
  zq_ck (v.2.1 - (1 : Int32)) 41 (
  if x9 ≤ ((zga v.2.2 90 (v.2.1 - (1 : Int32))) + (1 : Int32)) then
  jX12_distance_j142 N f1 f2 f3 k163 self v.2.1 x6 x9 v.2.2
  else
  zq_ck (v.2.1 - (1 : Int32)) 41 (
  jX12_distance_j142 N f1 f2 f3 k163 self v.2.1 x6 ((zga v.2.2 90 (v.2.1 - (1 : Int32))) + (1 : Int32)) v.2.2)))))))))
set_option maxRecDepth 20000 in
set_option maxHeartbeats 2000000 in
theorem xX12_distance_45 (N : Nat)  (f1 : Int32) (f2 : Int32) (f3 : Int32) (k163 : zq_S → Option (Int32 × zq_S)) (hk163 : ∀ e, zq_X yX12_distance RX12 cX12_distance 8 (some .int) ⟨0, 0, 0, 0⟩ zv_i 163 [.ref 57, .int f1, .int f2, .int f3, .null, .null, .null, .null] [] e (k163 e)) (self : Int32 × Int32 × zq_S → Option (Int32 × zq_S)) (hself : ∀ v, zq_X yX12_distance RX12 cX12_distance 8 (some .int) ⟨0, 0, 0, 0⟩ zv_i 45 [.ref 57, .int f1, .int f2, .int f3, .int v.1, .int v.2.1, .null, .null] [] v.2.2 (self v)) (v : Int32 × Int32 × zq_S) : zq_X yX12_distance RX12 cX12_distance 8 (some .int) ⟨0, 0, 0, 0⟩ zv_i 45 [.ref 57, .int f1, .int f2, .int f3, .int v.1, .int v.2.1, .null, .null] [] v.2.2 (bX12_distance_45 N f1 f2 f3 k163 self v) := by
  unfold bX12_distance_45
  refine zx_lift (pc' := 47) (fun _ => zq_iload rfl dX12_distance_45 rfl) ?_
  refine zx_lift (pc' := 48) (fun _ => zq_iload_n rfl rfl dX12_distance_47 rfl) ?_
  refine zx_icmp_gt (pc' := 51) (tgt := 163) dX12_distance_48 rfl rfl (fun hc => ?_) (fun hc => ?_)
  · refine zx_less [.ref 57, .int f1, .int f2, .int f3, .null, .null, .null, .null] (zq_cr (zq_cr (zq_cr (zq_cr (zq_cz (zq_cz (zq_cz (zq_cz zq_cn)))))))) ?_
    exact hk163 v.2.2
  · refine zx_lift (pc' := 52) (fun _ => zq_aload_n rfl rfl dX12_distance_51 rfl) ?_
    refine zx_lift (pc' := 55) (fun _ => zt_getR zfr_X12_113 zfd_57_51 dX12_distance_52 rfl) ?_
    refine zx_lift (pc' := 57) (fun _ => zq_iload rfl dX12_distance_55 rfl) ?_
    refine zx_iaload (pc' := 58) zsh_90 dX12_distance_57 rfl ?_
    refine zx_istore (pc' := 60) (ls' := fun x6 => [.ref 57, .int f1, .int f2, .int f3, .int v.1, .int v.2.1, .int x6, .null]) (by decide) rfl (fun _ => rfl) dX12_distance_58 rfl (fun x6 => ?_)
    refine zx_lift (pc' := 62) (fun _ => zq_iload rfl dX12_distance_60 rfl) ?_
    refine zx_lift (pc' := 63) (fun _ => zq_aload_n rfl rfl dX12_distance_62 rfl) ?_
    refine zx_lift (pc' := 66) (fun _ => zt_getR zfr_X12_107 zfd_57_49 dX12_distance_63 rfl) ?_
    refine zx_lift (pc' := 67) (fun _ => zq_iload_n rfl rfl dX12_distance_66 rfl) ?_
    refine zx_lift (pc' := 68) (fun _ => zq_iconst (v := 1) dX12_distance_67 rfl rfl) ?_
    refine zx_lift (pc' := 69) (fun _ => zq_isub dX12_distance_68 rfl) ?_
    refine zx_iaload (pc' := 70) zsh_88 dX12_distance_69 rfl ?_
    refine zx_lift (pc' := 71) (fun _ => zq_aload_n rfl rfl dX12_distance_70 rfl) ?_
    refine zx_lift (pc' := 74) (fun _ => zt_getR zfr_X12_110 zfd_57_50 dX12_distance_71 rfl) ?_
    refine zx_lift (pc' := 76) (fun _ => zq_iload rfl dX12_distance_74 rfl) ?_
    refine zx_lift (pc' := 77) (fun _ => zq_iconst (v := 1) dX12_distance_76 rfl rfl) ?_
    refine zx_lift (pc' := 78) (fun _ => zq_isub dX12_distance_77 rfl) ?_
    refine zx_iaload (pc' := 79) zsh_89 dX12_distance_78 rfl ?_
    refine zx_tern (pcJ := 87) (lsJ := fun x7 => [.ref 57, .int f1, .int f2, .int f3, .null, .int v.2.1, .int x6, .null]) (stJ := fun x7 => [.int x7, .int v.1]) (fun x7 => ?_) (fun f hJ => ?_)
    rotate_left
    · refine zx_licmp_ne (pc' := 82) (tgt := 86) dX12_distance_79 rfl rfl (fun _ => ?_) (fun _ => ?_)
      · refine zx_lift (pc' := 87) (fun _ => zq_iconst (v := 1) dX12_distance_86 rfl rfl) ?_
        exact zx_lessJ (zq_cr (zq_cr (zq_cr (zq_cr (zq_cz (zq_cr (zq_cr (zq_cz zq_cn)))))))) (hJ _)
      · refine zx_lift (pc' := 83) (fun _ => zq_iconst (v := 0) dX12_distance_82 rfl rfl) ?_
        refine zx_lift (pc' := 87) (fun _ => zq_goto dX12_distance_83 rfl) ?_
        exact zx_lessJ (zq_cr (zq_cr (zq_cr (zq_cr (zq_cz (zq_cr (zq_cr (zq_cz zq_cn)))))))) (hJ _)
    refine zx_lift (pc' := 88) (fun _ => zq_iadd dX12_distance_87 rfl) ?_
    refine zx_istore (pc' := 90) (ls' := fun x8 => [.ref 57, .int f1, .int f2, .int f3, .null, .int v.2.1, .int x6, .int x8]) (by decide) rfl (fun _ => rfl) dX12_distance_88 rfl (fun x8 => ?_)
    refine zx_lift (pc' := 92) (fun _ => zq_iload rfl dX12_distance_90 rfl) ?_
    refine zx_lift (pc' := 93) (fun _ => zq_iconst (v := 1) dX12_distance_92 rfl rfl) ?_
    refine zx_lift (pc' := 94) (fun _ => zq_iadd dX12_distance_93 rfl) ?_
    refine zx_lift (pc' := 96) (fun _ => zq_iload rfl dX12_distance_94 rfl) ?_
    refine zx_tern (pcJ := 108) (lsJ := fun x9 => [.ref 57, .int f1, .int f2, .int f3, .null, .int v.2.1, .int x6, .null]) (stJ := fun x9 => [.int x9]) (fun x9 => ?_) (fun f hJ => ?_)
    rotate_left
    · refine zx_licmp_ge (pc' := 99) (tgt := 106) dX12_distance_96 rfl rfl (fun _ => ?_) (fun _ => ?_)
      · refine zx_lift (pc' := 108) (fun _ => zq_iload rfl dX12_distance_106 rfl) ?_
        exact zx_lessJ (zq_cr (zq_cr (zq_cr (zq_cr (zq_cz (zq_cr (zq_cr (zq_cz zq_cn)))))))) (hJ _)
      · refine zx_lift (pc' := 101) (fun _ => zq_iload rfl dX12_distance_99 rfl) ?_
        refine zx_lift (pc' := 102) (fun _ => zq_iconst (v := 1) dX12_distance_101 rfl rfl) ?_
        refine zx_lift (pc' := 103) (fun _ => zq_iadd dX12_distance_102 rfl) ?_
        refine zx_lift (pc' := 108) (fun _ => zq_goto dX12_distance_103 rfl) ?_
        exact zx_lessJ (zq_cr (zq_cr (zq_cr (zq_cr (zq_cz (zq_cr (zq_cr (zq_cz zq_cn)))))))) (hJ _)
    refine zx_lift (pc' := 110) (fun _ => zq_istore (ls' := [.ref 57, .int f1, .int f2, .int f3, .null, .int v.2.1, .int x6, .int x9]) (by decide) rfl rfl dX12_distance_108 rfl) ?_
    refine zx_lift (pc' := 111) (fun _ => zq_aload_n rfl rfl dX12_distance_110 rfl) ?_
    refine zx_lift (pc' := 114) (fun _ => zt_getR zfr_X12_113 zfd_57_51 dX12_distance_111 rfl) ?_
    refine zx_lift (pc' := 116) (fun _ => zq_iload rfl dX12_distance_114 rfl) ?_
    refine zx_lift (pc' := 117) (fun _ => zq_iconst (v := 1) dX12_distance_116 rfl rfl) ?_
    refine zx_lift (pc' := 118) (fun _ => zq_isub dX12_distance_117 rfl) ?_
    refine zx_iaload (pc' := 119) zsh_90 dX12_distance_118 rfl ?_
    refine zx_lift (pc' := 120) (fun _ => zq_iconst (v := 1) dX12_distance_119 rfl rfl) ?_
    refine zx_lift (pc' := 121) (fun _ => zq_iadd dX12_distance_120 rfl) ?_
    refine zx_lift (pc' := 123) (fun _ => zq_iload rfl dX12_distance_121 rfl) ?_
    refine zx_icmp_ge (pc' := 126) (tgt := 140) dX12_distance_123 rfl rfl (fun hc => ?_) (fun hc => ?_)
    · refine zx_lift (pc' := 142) (fun _ => zq_iload rfl dX12_distance_140 rfl) ?_
      refine zx_less [.ref 57, .int f1, .int f2, .int f3, .null, .int v.2.1, .int x6, .null] (zq_cr (zq_cr (zq_cr (zq_cr (zq_cz (zq_cr (zq_cr (zq_cz zq_cn)))))))) ?_
      exact xX12_distance_j142_j N f1 f2 f3 k163 hk163 self hself v.2.1 x6 x9 v.2.2
    · refine zx_lift (pc' := 127) (fun _ => zq_aload_n rfl rfl dX12_distance_126 rfl) ?_
      refine zx_lift (pc' := 130) (fun _ => zt_getR zfr_X12_113 zfd_57_51 dX12_distance_127 rfl) ?_
      refine zx_lift (pc' := 132) (fun _ => zq_iload rfl dX12_distance_130 rfl) ?_
      refine zx_lift (pc' := 133) (fun _ => zq_iconst (v := 1) dX12_distance_132 rfl rfl) ?_
      refine zx_lift (pc' := 134) (fun _ => zq_isub dX12_distance_133 rfl) ?_
      refine zx_iaload (pc' := 135) zsh_90 dX12_distance_134 rfl ?_
      refine zx_lift (pc' := 136) (fun _ => zq_iconst (v := 1) dX12_distance_135 rfl rfl) ?_
      refine zx_lift (pc' := 137) (fun _ => zq_iadd dX12_distance_136 rfl) ?_
      refine zx_lift (pc' := 142) (fun _ => zq_goto dX12_distance_137 rfl) ?_
      refine zx_less [.ref 57, .int f1, .int f2, .int f3, .null, .int v.2.1, .int x6, .null] (zq_cr (zq_cr (zq_cr (zq_cr (zq_cz (zq_cr (zq_cr (zq_cz zq_cn)))))))) ?_
      exact xX12_distance_j142_j N f1 f2 f3 k163 hk163 self hself v.2.1 x6 ((zga v.2.2 90 (v.2.1 - (1 : Int32))) + (1 : Int32)) v.2.2
theorem yX12_distance_45 (N : Nat)  (f1 : Int32) (f2 : Int32) (f3 : Int32) (k163 : zq_S → Option (Int32 × zq_S)) (hk163 : ∀ e, zq_X yX12_distance RX12 cX12_distance 8 (some .int) ⟨0, 0, 0, 0⟩ zv_i 163 [.ref 57, .int f1, .int f2, .int f3, .null, .null, .null, .null] [] e (k163 e)) (n : Nat) : ∀ v : Int32 × Int32 × zq_S, zq_X yX12_distance RX12 cX12_distance 8 (some .int) ⟨0, 0, 0, 0⟩ zv_i 45 [.ref 57, .int f1, .int f2, .int f3, .int v.1, .int v.2.1, .null, .null] [] v.2.2 (zq_loop (bX12_distance_45 N f1 f2 f3 k163) n v) := by
  induction n with
  | zero => exact fun v u hu => by cases hu
  | succ n ih =>
    intro v
    rw [zq_loop_s]
    exact xX12_distance_45 N f1 f2 f3 k163 hk163 (zq_loop (bX12_distance_45 N f1 f2 f3 k163) n) ih v
def bX12_distance_22 (N : Nat)  (f1 : Int32) (f2 : Int32)  (self : Int32 × zq_S → Option (Int32 × zq_S)) (v : Int32 × zq_S) : Option (Int32 × zq_S) :=
  if f1 < v.1 then
  zq_ck f2 41 (
  some ((zga v.2 90 f2), v.2))
  else
  zq_ck (0 : Int32) 41 (
  zq_let (zga v.2 90 (0 : Int32)) (fun x4 =>
  zq_ck (0 : Int32) 41 (
  zq_let (zpa v.2 90 (0 : Int32) v.1) (fun s5 =>
  zq_loop (bX12_distance_45 N f1 f2 v.1 (fun e12 =>
  zq_let (v.1 + (1 : Int32)) (fun x13 =>
  self (x13, e12)))) N (x4, (1 : Int32), s5)))))
set_option maxRecDepth 20000 in
set_option maxHeartbeats 2000000 in
theorem xX12_distance_22 (N : Nat)  (f1 : Int32) (f2 : Int32)  (self : Int32 × zq_S → Option (Int32 × zq_S)) (hself : ∀ v, zq_X yX12_distance RX12 cX12_distance 8 (some .int) ⟨0, 0, 0, 0⟩ zv_i 22 [.ref 57, .int f1, .int f2, .int v.1, .null, .null, .null, .null] [] v.2 (self v)) (v : Int32 × zq_S) : zq_X yX12_distance RX12 cX12_distance 8 (some .int) ⟨0, 0, 0, 0⟩ zv_i 22 [.ref 57, .int f1, .int f2, .int v.1, .null, .null, .null, .null] [] v.2 (bX12_distance_22 N f1 f2 self v) := by
  unfold bX12_distance_22
  refine zx_lift (pc' := 23) (fun _ => zq_iload_n rfl rfl dX12_distance_22 rfl) ?_
  refine zx_lift (pc' := 24) (fun _ => zq_iload_n rfl rfl dX12_distance_23 rfl) ?_
  refine zx_icmp_gt (pc' := 27) (tgt := 169) dX12_distance_24 rfl rfl (fun hc => ?_) (fun hc => ?_)
  · refine zx_lift (pc' := 170) (fun _ => zq_aload_n rfl rfl dX12_distance_169 rfl) ?_
    refine zx_lift (pc' := 173) (fun _ => zt_getR zfr_X12_113 zfd_57_51 dX12_distance_170 rfl) ?_
    refine zx_lift (pc' := 174) (fun _ => zq_iload_n rfl rfl dX12_distance_173 rfl) ?_
    refine zx_iaload (pc' := 175) zsh_90 dX12_distance_174 rfl ?_
    exact zx_iret rfl dX12_distance_175
  · refine zx_lift (pc' := 28) (fun _ => zq_aload_n rfl rfl dX12_distance_27 rfl) ?_
    refine zx_lift (pc' := 31) (fun _ => zt_getR zfr_X12_113 zfd_57_51 dX12_distance_28 rfl) ?_
    refine zx_lift (pc' := 32) (fun _ => zq_iconst (v := 0) dX12_distance_31 rfl rfl) ?_
    refine zx_iaload (pc' := 33) zsh_90 dX12_distance_32 rfl ?_
    refine zx_istore (pc' := 35) (ls' := fun x4 => [.ref 57, .int f1, .int f2, .int v.1, .int x4, .null, .null, .null]) (by decide) rfl (fun _ => rfl) dX12_distance_33 rfl (fun x4 => ?_)
    refine zx_lift (pc' := 36) (fun _ => zq_aload_n rfl rfl dX12_distance_35 rfl) ?_
    refine zx_lift (pc' := 39) (fun _ => zt_getR zfr_X12_113 zfd_57_51 dX12_distance_36 rfl) ?_
    refine zx_lift (pc' := 40) (fun _ => zq_iconst (v := 0) dX12_distance_39 rfl rfl) ?_
    refine zx_lift (pc' := 41) (fun _ => zq_iload_n rfl rfl dX12_distance_40 rfl) ?_
    refine zx_iastore (pc' := 42) zsh_90 dX12_distance_41 rfl (fun s5 => ?_)
    refine zx_lift (pc' := 43) (fun _ => zq_iconst (v := 1) dX12_distance_42 rfl rfl) ?_
    refine zx_lift (pc' := 45) (fun _ => zq_istore (ls' := [.ref 57, .int f1, .int f2, .int v.1, .int x4, .int (1 : Int32), .null, .null]) (by decide) rfl rfl dX12_distance_43 rfl) ?_
    refine yX12_distance_45 N f1 f2 v.1 _ (fun e12 => ?_) N (x4, (1 : Int32), s5)
    refine zx_iinc (pc' := 166) (ls' := fun x13 => [.ref 57, .int f1, .int f2, .int x13, .null, .null, .null, .null]) rfl rfl (by decide) rfl (fun _ => rfl) dX12_distance_163 rfl (fun x13 => ?_)
    refine zx_lift (pc' := 22) (fun _ => zq_goto dX12_distance_166 rfl) ?_
    exact hself (x13, e12)
theorem yX12_distance_22 (N : Nat)  (f1 : Int32) (f2 : Int32)  (n : Nat) : ∀ v : Int32 × zq_S, zq_X yX12_distance RX12 cX12_distance 8 (some .int) ⟨0, 0, 0, 0⟩ zv_i 22 [.ref 57, .int f1, .int f2, .int v.1, .null, .null, .null, .null] [] v.2 (zq_loop (bX12_distance_22 N f1 f2 ) n v) := by
  induction n with
  | zero => exact fun v u hu => by cases hu
  | succ n ih =>
    intro v
    rw [zq_loop_s]
    exact xX12_distance_22 N f1 f2  (zq_loop (bX12_distance_22 N f1 f2 ) n) ih v
def mX12_distance (N : Nat)  (p1 : Int32) (p2 : Int32) (s : zq_S) : Option (Int32 × zq_S) :=
  zq_loop (bX12_distance_2 N p1 p2 (fun e3 =>
  zq_loop (bX12_distance_22 N p1 p2 ) N ((1 : Int32), e3))) N ((0 : Int32), s)
set_option maxRecDepth 20000 in
set_option maxHeartbeats 2000000 in
theorem xX12_distance (N : Nat)  (p1 : Int32) (p2 : Int32) (s : zq_S) : zq_X yX12_distance RX12 cX12_distance 8 (some .int) ⟨0, 0, 0, 0⟩ zv_i 0 [.ref 57, .int p1, .int p2, .null, .null, .null, .null, .null] [] s (mX12_distance N p1 p2 s) := by
  unfold mX12_distance
  refine zx_lift (pc' := 1) (fun _ => zq_iconst (v := 0) dX12_distance_0 rfl rfl) ?_
  refine zx_lift (pc' := 2) (fun _ => zq_istore_n (ls' := [.ref 57, .int p1, .int p2, .int (0 : Int32), .null, .null, .null, .null]) rfl (by decide) rfl rfl dX12_distance_1 rfl) ?_
  refine yX12_distance_2 N p1 p2 _ (fun e3 => ?_) N ((0 : Int32), s)
  refine zx_lift (pc' := 21) (fun _ => zq_iconst (v := 1) dX12_distance_20 rfl rfl) ?_
  refine zx_lift (pc' := 22) (fun _ => zq_istore_n (ls' := [.ref 57, .int p1, .int p2, .int (1 : Int32), .null, .null, .null, .null]) rfl (by decide) rfl rfl dX12_distance_21 rfl) ?_
  refine yX12_distance_22 N p1 p2  N ((1 : Int32), e3)
theorem cX12_distance_mc (N : Nat)  (p1 : Int32) (p2 : Int32) (s : zq_S) (v : Int32 × zq_S) (h : mX12_distance N p1 p2 s = some v) : zq_MC yX12_distance cX12_distance 8 (some .int) ⟨0, 0, 0, 0⟩ 0 0 [.ref 57, .int p1, .int p2] (zq_en s) (zv_i v.1, zq_en v.2) := zq_MC_x [.ref 57, .int p1, .int p2, .null, .null, .null, .null, .null] (by decide +kernel) rfl rfl (Nat.le_of_ble_eq_true rfl) (xX12_distance N p1 p2 s) h
def jX12_apart_j16 (N : Nat)    (s : zq_S) : Option (Int32 × zq_S) :=
  some ((-1001 : Int32), s)
set_option maxRecDepth 20000 in
set_option maxHeartbeats 2000000 in
theorem xX12_apart_j16_j (N : Nat)    (s : zq_S) : zq_X yX12_apart RX12 cX12_apart 3 (some .int) ⟨4, 0, 0, 91⟩ zv_i 16 [.null, .null, .null] [] s (jX12_apart_j16 N s) := by
  unfold jX12_apart_j16
  refine zx_lift (pc' := 19) (fun _ => zq_sipush (v := (-1001)) dX12_apart_16 rfl rfl) ?_
  exact zx_iret rfl dX12_apart_19
def jX12_apart_j70 (N : Nat)   (t0 : Int32) (s : zq_S) : Option (Int32 × zq_S) :=
  some (t0, s)
set_option maxRecDepth 20000 in
set_option maxHeartbeats 2000000 in
theorem xX12_apart_j70_j (N : Nat)   (t0 : Int32) (s : zq_S) : zq_X yX12_apart RX12 cX12_apart 3 (some .int) ⟨4, 0, 0, 91⟩ zv_i 70 [.null, .null, .null] [.int t0] s (jX12_apart_j70 N t0 s) := by
  unfold jX12_apart_j70
  exact zx_iret rfl dX12_apart_70
def jX12_apart_j67 (N : Nat)    (s : zq_S) : Option (Int32 × zq_S) :=
  jX12_apart_j70 N (-1003 : Int32) s
set_option maxRecDepth 20000 in
set_option maxHeartbeats 2000000 in
theorem xX12_apart_j67_j (N : Nat)    (s : zq_S) : zq_X yX12_apart RX12 cX12_apart 3 (some .int) ⟨4, 0, 0, 91⟩ zv_i 67 [.null, .null, .null] [] s (jX12_apart_j67 N s) := by
  unfold jX12_apart_j67
  refine zx_lift (pc' := 70) (fun _ => zq_sipush (v := (-1003)) dX12_apart_67 rfl rfl) ?_
  exact xX12_apart_j70_j N (-1003 : Int32) s
def mX12_apart (N : Nat)  (p1 : Int32) (p2 : Int32) (s : zq_S) : Option (Int32 × zq_S) :=
  zq_b2 (mX12_areMarks N p1 s) (fun r1 s2 =>
  if r1 = (0 : Int32) then
  jX12_apart_j16 N s2
  else
  zq_b2 (mX12_areMarks N p2 s2) (fun r3 s4 =>
  if r3 = (0 : Int32) then
  jX12_apart_j16 N s4
  else
  zq_b2 (mX12_findTexts N s4) (fun r5 s6 =>
  zq_ck p1 1024 (
  if (zga s6 78 p1) = (0 : Int32) then
  jX12_apart_j67 N s6
  else
  zq_ck p2 1024 (
  if (zga s6 78 p2) = (0 : Int32) then
  jX12_apart_j67 N s6
  else
  zq_b2 (mX12_fill_a88 N p1 s6) (fun r7 s8 =>
  zq_b2 (mX12_fill_a89 N p2 s8) (fun r9 s10 =>
  zq_b2 (mX12_distance N r7 r9 s10) (fun r11 s12 =>
  jX12_apart_j70 N r11 s12))))))))
set_option maxRecDepth 20000 in
set_option maxHeartbeats 2000000 in
theorem xX12_apart (N : Nat)  (p1 : Int32) (p2 : Int32) (s : zq_S) : zq_X yX12_apart RX12 cX12_apart 3 (some .int) ⟨4, 0, 0, 91⟩ zv_i 0 [.ref 57, .int p1, .int p2] [] s (mX12_apart N p1 p2 s) := by
  unfold mX12_apart
  refine zx_lift (pc' := 1) (fun _ => zq_aload_n rfl rfl dX12_apart_0 rfl) ?_
  refine zx_lift (pc' := 2) (fun _ => zq_iload_n rfl rfl dX12_apart_1 rfl) ?_
  refine zx_cVi (pc' := 5) zcv_X12_310 (cX12_areMarks_mc N p1 s) zob_57 rfl (by decide) (Nat.le_of_ble_eq_true rfl) dX12_apart_2 rfl rfl (fun r1 s2 => ?_)
  refine zx_if_eq (pc' := 8) (tgt := 16) dX12_apart_5 rfl rfl (fun hc => ?_) (fun hc => ?_)
  · refine zx_less [.null, .null, .null] (zq_cz (zq_cz (zq_cz zq_cn))) ?_
    exact xX12_apart_j16_j N s2
  · refine zx_lift (pc' := 9) (fun _ => zq_aload_n rfl rfl dX12_apart_8 rfl) ?_
    refine zx_lift (pc' := 10) (fun _ => zq_iload_n rfl rfl dX12_apart_9 rfl) ?_
    refine zx_cVi (pc' := 13) zcv_X12_310 (cX12_areMarks_mc N p2 s2) zob_57 rfl (by decide) (Nat.le_of_ble_eq_true rfl) dX12_apart_10 rfl rfl (fun r3 s4 => ?_)
    refine zx_if_ne (pc' := 16) (tgt := 20) dX12_apart_13 rfl rfl (fun hc => ?_) (fun hc => ?_)
    · refine zx_lift (pc' := 21) (fun _ => zq_aload_n rfl rfl dX12_apart_20 rfl) ?_
      refine zx_cVv (pc' := 24) zcv_X12_340 (cX12_findTexts_mc N s4) zob_57 rfl (by decide) (Nat.le_of_ble_eq_true rfl) dX12_apart_21 rfl rfl (fun r5 s6 => ?_)
      refine zx_lift (pc' := 25) (fun _ => zq_aload_n rfl rfl dX12_apart_24 rfl) ?_
      refine zx_lift (pc' := 28) (fun _ => zt_getR zfr_X12_75 zfd_57_38 dX12_apart_25 rfl) ?_
      refine zx_lift (pc' := 29) (fun _ => zq_iload_n rfl rfl dX12_apart_28 rfl) ?_
      refine zx_zaload (pc' := 30) zsh_78 dX12_apart_29 rfl ?_
      refine zx_if_eq (pc' := 33) (tgt := 67) dX12_apart_30 rfl rfl (fun hc => ?_) (fun hc => ?_)
      · refine zx_less [.null, .null, .null] (zq_cz (zq_cz (zq_cz zq_cn))) ?_
        exact xX12_apart_j67_j N s6
      · refine zx_lift (pc' := 34) (fun _ => zq_aload_n rfl rfl dX12_apart_33 rfl) ?_
        refine zx_lift (pc' := 37) (fun _ => zt_getR zfr_X12_75 zfd_57_38 dX12_apart_34 rfl) ?_
        refine zx_lift (pc' := 38) (fun _ => zq_iload_n rfl rfl dX12_apart_37 rfl) ?_
        refine zx_zaload (pc' := 39) zsh_78 dX12_apart_38 rfl ?_
        refine zx_if_eq (pc' := 42) (tgt := 67) dX12_apart_39 rfl rfl (fun hc => ?_) (fun hc => ?_)
        · refine zx_less [.null, .null, .null] (zq_cz (zq_cz (zq_cz zq_cn))) ?_
          exact xX12_apart_j67_j N s6
        · refine zx_lift (pc' := 43) (fun _ => zq_aload_n rfl rfl dX12_apart_42 rfl) ?_
          refine zx_lift (pc' := 44) (fun _ => zq_aload_n rfl rfl dX12_apart_43 rfl) ?_
          refine zx_lift (pc' := 45) (fun _ => zq_iload_n rfl rfl dX12_apart_44 rfl) ?_
          refine zx_lift (pc' := 46) (fun _ => zq_aload_n rfl rfl dX12_apart_45 rfl) ?_
          refine zx_lift (pc' := 49) (fun _ => zt_getR zfr_X12_107 zfd_57_49 dX12_apart_46 rfl) ?_
          refine zx_cVi (pc' := 52) zcv_X12_356 (cX12_fill_a88_mc N p1 s6) zob_57 rfl (by decide) (Nat.le_of_ble_eq_true rfl) dX12_apart_49 rfl rfl (fun r7 s8 => ?_)
          refine zx_lift (pc' := 53) (fun _ => zq_aload_n rfl rfl dX12_apart_52 rfl) ?_
          refine zx_lift (pc' := 54) (fun _ => zq_iload_n rfl rfl dX12_apart_53 rfl) ?_
          refine zx_lift (pc' := 55) (fun _ => zq_aload_n rfl rfl dX12_apart_54 rfl) ?_
          refine zx_lift (pc' := 58) (fun _ => zt_getR zfr_X12_110 zfd_57_50 dX12_apart_55 rfl) ?_
          refine zx_cVi (pc' := 61) zcv_X12_356 (cX12_fill_a89_mc N p2 s8) zob_57 rfl (by decide) (Nat.le_of_ble_eq_true rfl) dX12_apart_58 rfl rfl (fun r9 s10 => ?_)
          refine zx_cVi (pc' := 64) zcv_X12_360 (cX12_distance_mc N r7 r9 s10) zob_57 rfl (by decide) (Nat.le_of_ble_eq_true rfl) dX12_apart_61 rfl rfl (fun r11 s12 => ?_)
          refine zx_lift (pc' := 70) (fun _ => zq_goto dX12_apart_64 rfl) ?_
          refine zx_less [.null, .null, .null] (zq_cz (zq_cz (zq_cz zq_cn))) ?_
          exact xX12_apart_j70_j N r11 s12
    · refine zx_less [.null, .null, .null] (zq_cz (zq_cz (zq_cz zq_cn))) ?_
      exact xX12_apart_j16_j N s4
theorem cX12_apart_mc (N : Nat)  (p1 : Int32) (p2 : Int32) (s : zq_S) (v : Int32 × zq_S) (h : mX12_apart N p1 p2 s = some v) : zq_MC yX12_apart cX12_apart 3 (some .int) ⟨4, 0, 0, 91⟩ 0 0 [.ref 57, .int p1, .int p2] (zq_en s) (zv_i v.1, zq_en v.2) := zq_MC_x [.ref 57, .int p1, .int p2] (by decide +kernel) rfl rfl (Nat.le_of_ble_eq_true rfl) (xX12_apart N p1 p2 s) h
def jX12_bar_j24 (N : Nat)    (s : zq_S) : Option (Int32 × zq_S) :=
  some ((-1002 : Int32), s)
set_option maxRecDepth 20000 in
set_option maxHeartbeats 2000000 in
theorem xX12_bar_j24_j (N : Nat)    (s : zq_S) : zq_X yX12_bar RX12 cX12_bar 5 (some .int) ⟨1, 0, 0, 25⟩ zv_i 24 [.null, .null, .null, .null, .null] [] s (jX12_bar_j24 N s) := by
  unfold jX12_bar_j24
  refine zx_lift (pc' := 27) (fun _ => zq_sipush (v := (-1002)) dX12_bar_24 rfl rfl) ?_
  exact zx_iret rfl dX12_bar_27
def jX12_bar_j63 (N : Nat)   (w1 : Int32) (w2 : Int32) (w3 : Int32) (w4 : Int32) (s : zq_S) : Option (Int32 × zq_S) :=
  zq_ck (((100 : Int32) * w1) + w2) 10000 (
  zq_let (zpaz s 96 (((100 : Int32) * w1) + w2) w3) (fun s6 =>
  zq_let (if w3 = w4 then (0 : Int32) else (if w3 = (0 : Int32) then (-1 : Int32) else (1 : Int32))) (fun x7 =>
  zq_let (zpf s6 57 59 ((zgf s6 57 59) + x7)) (fun s8 =>
  zq_let (if w4 = (0 : Int32) then (0 : Int32) else (1 : Int32)) (fun x9 =>
  some (x9, s8))))))
set_option maxRecDepth 20000 in
set_option maxHeartbeats 2000000 in
theorem xX12_bar_j63_j (N : Nat)   (w1 : Int32) (w2 : Int32) (w3 : Int32) (w4 : Int32) (s : zq_S) : zq_X yX12_bar RX12 cX12_bar 5 (some .int) ⟨1, 0, 0, 25⟩ zv_i 63 [.ref 57, .int w1, .int w2, .int w3, .int w4] [] s (jX12_bar_j63 N w1 w2 w3 w4 s) := by
  unfold jX12_bar_j63
  refine zx_lift (pc' := 64) (fun _ => zq_aload_n rfl rfl dX12_bar_63 rfl) ?_
  refine zx_lift (pc' := 67) (fun _ => zt_getR zfr_X12_131 zfd_57_60 dX12_bar_64 rfl) ?_
  refine zx_lift (pc' := 69) (fun _ => zq_bipush (v := 100) dX12_bar_67 rfl rfl) ?_
  refine zx_lift (pc' := 70) (fun _ => zq_iload_n rfl rfl dX12_bar_69 rfl) ?_
  refine zx_lift (pc' := 71) (fun _ => zq_imul dX12_bar_70 rfl) ?_
  refine zx_lift (pc' := 72) (fun _ => zq_iload_n rfl rfl dX12_bar_71 rfl) ?_
  refine zx_lift (pc' := 73) (fun _ => zq_iadd dX12_bar_72 rfl) ?_
  refine zx_lift (pc' := 74) (fun _ => zq_iload_n rfl rfl dX12_bar_73 rfl) ?_
  refine zx_zastore (pc' := 75) zsh_96 dX12_bar_74 rfl (fun s6 => ?_)
  refine zx_lift (pc' := 76) (fun _ => zq_aload_n rfl rfl dX12_bar_75 rfl) ?_
  refine zx_lift (pc' := 77) (fun _ => zq_dup rfl dX12_bar_76 rfl) ?_
  refine zx_lift (pc' := 80) (fun _ => zt_getI zfr_X12_298 zfd_57_59 dX12_bar_77 rfl) ?_
  refine zx_lift (pc' := 81) (fun _ => zq_iload_n rfl rfl dX12_bar_80 rfl) ?_
  refine zx_lift (pc' := 83) (fun _ => zq_iload rfl dX12_bar_81 rfl) ?_
  refine zx_tern (pcJ := 99) (lsJ := fun x7 => [.null, .null, .null, .null, .int w4]) (stJ := fun x7 => [.int x7, .int (zgf s6 57 59), .ref 57]) (fun x7 => ?_) (fun f hJ => ?_)
  rotate_left
  · refine zx_licmp_ne (pc' := 86) (tgt := 90) dX12_bar_83 rfl rfl (fun _ => ?_) (fun _ => ?_)
    · refine zx_lift (pc' := 91) (fun _ => zq_iload_n rfl rfl dX12_bar_90 rfl) ?_
      refine zx_lif_eq (pc' := 94) (tgt := 98) dX12_bar_91 rfl rfl (fun _ => ?_) (fun _ => ?_)
      · refine zx_lift (pc' := 99) (fun _ => zq_iconst (v := (-1)) dX12_bar_98 rfl rfl) ?_
        exact zx_lessJ (zq_cz (zq_cz (zq_cz (zq_cz (zq_cr zq_cn))))) (hJ _)
      · refine zx_lift (pc' := 95) (fun _ => zq_iconst (v := 1) dX12_bar_94 rfl rfl) ?_
        refine zx_lift (pc' := 99) (fun _ => zq_goto dX12_bar_95 rfl) ?_
        exact zx_lessJ (zq_cz (zq_cz (zq_cz (zq_cz (zq_cr zq_cn))))) (hJ _)
    · refine zx_lift (pc' := 87) (fun _ => zq_iconst (v := 0) dX12_bar_86 rfl rfl) ?_
      refine zx_lift (pc' := 99) (fun _ => zq_goto dX12_bar_87 rfl) ?_
      exact zx_lessJ (zq_cz (zq_cz (zq_cz (zq_cz (zq_cr zq_cn))))) (hJ _)
  refine zx_lift (pc' := 100) (fun _ => zq_iadd dX12_bar_99 rfl) ?_
  refine zx_putI (pc' := 103) zfr_X12_298 (fun _ => ⟨rfl, rfl⟩) zfd_57_59 dX12_bar_100 rfl (fun s8 => ?_)
  refine zx_lift (pc' := 105) (fun _ => zq_iload rfl dX12_bar_103 rfl) ?_
  refine zx_tern (pcJ := 113) (lsJ := fun x9 => [.null, .null, .null, .null, .null]) (stJ := fun x9 => [.int x9]) (fun x9 => ?_) (fun f hJ => ?_)
  rotate_left
  · refine zx_lif_eq (pc' := 108) (tgt := 112) dX12_bar_105 rfl rfl (fun _ => ?_) (fun _ => ?_)
    · refine zx_lift (pc' := 113) (fun _ => zq_iconst (v := 0) dX12_bar_112 rfl rfl) ?_
      exact zx_lessJ (zq_cz (zq_cz (zq_cz (zq_cz (zq_cz zq_cn))))) (hJ _)
    · refine zx_lift (pc' := 109) (fun _ => zq_iconst (v := 1) dX12_bar_108 rfl rfl) ?_
      refine zx_lift (pc' := 113) (fun _ => zq_goto dX12_bar_109 rfl) ?_
      exact zx_lessJ (zq_cz (zq_cz (zq_cz (zq_cz (zq_cz zq_cn))))) (hJ _)
  exact zx_iret rfl dX12_bar_113
def mX12_bar (N : Nat)  (p1 : Int32) (p2 : Int32) (p3 : Int32) (s : zq_S) : Option (Int32 × zq_S) :=
  zq_b2 (mX12_in N (Int32.toInt64 p1) (0 : Int64) (99 : Int64) s) (fun r1 s2 =>
  if r1 = (0 : Int32) then
  jX12_bar_j24 N s2
  else
  zq_b2 (mX12_in N (Int32.toInt64 p2) (0 : Int64) (99 : Int64) s2) (fun r3 s4 =>
  if r3 = (0 : Int32) then
  jX12_bar_j24 N s4
  else
  zq_ck (((100 : Int32) * p1) + p2) 10000 (
  zq_let (zga s4 96 (((100 : Int32) * p1) + p2)) (fun x5 =>
  if p3 = (0 : Int32) then
  jX12_bar_j63 N p1 p2 p3 x5 s4
  else
  if x5 = (0 : Int32) then
  if (zgf s4 57 59) = (20 : Int32) then
  some ((-1004 : Int32), s4)
  else
  jX12_bar_j63 N p1 p2 p3 x5 s4
  else
  jX12_bar_j63 N p1 p2 p3 x5 s4))))
set_option maxRecDepth 20000 in
set_option maxHeartbeats 2000000 in
theorem xX12_bar (N : Nat)  (p1 : Int32) (p2 : Int32) (p3 : Int32) (s : zq_S) : zq_X yX12_bar RX12 cX12_bar 5 (some .int) ⟨1, 0, 0, 25⟩ zv_i 0 [.ref 57, .int p1, .int p2, .int p3, .null] [] s (mX12_bar N p1 p2 p3 s) := by
  unfold mX12_bar
  refine zx_lift (pc' := 1) (fun _ => zq_iload_n rfl rfl dX12_bar_0 rfl) ?_
  refine zx_lift (pc' := 2) (fun _ => zq_i2l dX12_bar_1 rfl) ?_
  refine zx_lift (pc' := 3) (fun _ => zq_lconst (v := 0) dX12_bar_2 rfl rfl) ?_
  refine zx_lift (pc' := 6) (fun _ => zq_ldc2 zk_X12_349 dX12_bar_3 rfl) ?_
  refine zx_cSi (pc' := 9) zcs_X12_144 (cX12_in_mc N (Int32.toInt64 p1) (0 : Int64) (99 : Int64) s) rfl (by decide) (Nat.le_of_ble_eq_true rfl) dX12_bar_6 rfl rfl (fun r1 s2 => ?_)
  refine zx_if_eq (pc' := 12) (tgt := 24) dX12_bar_9 rfl rfl (fun hc => ?_) (fun hc => ?_)
  · refine zx_less [.null, .null, .null, .null, .null] (zq_cz (zq_cz (zq_cz (zq_cz (zq_cz zq_cn))))) ?_
    exact xX12_bar_j24_j N s2
  · refine zx_lift (pc' := 13) (fun _ => zq_iload_n rfl rfl dX12_bar_12 rfl) ?_
    refine zx_lift (pc' := 14) (fun _ => zq_i2l dX12_bar_13 rfl) ?_
    refine zx_lift (pc' := 15) (fun _ => zq_lconst (v := 0) dX12_bar_14 rfl rfl) ?_
    refine zx_lift (pc' := 18) (fun _ => zq_ldc2 zk_X12_349 dX12_bar_15 rfl) ?_
    refine zx_cSi (pc' := 21) zcs_X12_144 (cX12_in_mc N (Int32.toInt64 p2) (0 : Int64) (99 : Int64) s2) rfl (by decide) (Nat.le_of_ble_eq_true rfl) dX12_bar_18 rfl rfl (fun r3 s4 => ?_)
    refine zx_if_ne (pc' := 24) (tgt := 28) dX12_bar_21 rfl rfl (fun hc => ?_) (fun hc => ?_)
    · refine zx_lift (pc' := 29) (fun _ => zq_aload_n rfl rfl dX12_bar_28 rfl) ?_
      refine zx_lift (pc' := 32) (fun _ => zt_getR zfr_X12_131 zfd_57_60 dX12_bar_29 rfl) ?_
      refine zx_lift (pc' := 34) (fun _ => zq_bipush (v := 100) dX12_bar_32 rfl rfl) ?_
      refine zx_lift (pc' := 35) (fun _ => zq_iload_n rfl rfl dX12_bar_34 rfl) ?_
      refine zx_lift (pc' := 36) (fun _ => zq_imul dX12_bar_35 rfl) ?_
      refine zx_lift (pc' := 37) (fun _ => zq_iload_n rfl rfl dX12_bar_36 rfl) ?_
      refine zx_lift (pc' := 38) (fun _ => zq_iadd dX12_bar_37 rfl) ?_
      refine zx_zaload (pc' := 39) zsh_96 dX12_bar_38 rfl ?_
      refine zx_istore (pc' := 41) (ls' := fun x5 => [.ref 57, .int p1, .int p2, .int p3, .int x5]) (by decide) rfl (fun _ => rfl) dX12_bar_39 rfl (fun x5 => ?_)
      refine zx_lift (pc' := 42) (fun _ => zq_iload_n rfl rfl dX12_bar_41 rfl) ?_
      refine zx_if_eq (pc' := 45) (tgt := 63) dX12_bar_42 rfl rfl (fun hc => ?_) (fun hc => ?_)
      · exact xX12_bar_j63_j N p1 p2 p3 x5 s4
      · refine zx_lift (pc' := 47) (fun _ => zq_iload rfl dX12_bar_45 rfl) ?_
        refine zx_if_ne (pc' := 50) (tgt := 63) dX12_bar_47 rfl rfl (fun hc => ?_) (fun hc => ?_)
        · exact xX12_bar_j63_j N p1 p2 p3 x5 s4
        · refine zx_lift (pc' := 51) (fun _ => zq_aload_n rfl rfl dX12_bar_50 rfl) ?_
          refine zx_lift (pc' := 54) (fun _ => zt_getI zfr_X12_298 zfd_57_59 dX12_bar_51 rfl) ?_
          refine zx_lift (pc' := 56) (fun _ => zq_bipush (v := 20) dX12_bar_54 rfl rfl) ?_
          refine zx_icmp_ne (pc' := 59) (tgt := 63) dX12_bar_56 rfl rfl (fun hc => ?_) (fun hc => ?_)
          · exact xX12_bar_j63_j N p1 p2 p3 x5 s4
          · refine zx_lift (pc' := 62) (fun _ => zq_sipush (v := (-1004)) dX12_bar_59 rfl rfl) ?_
            exact zx_iret rfl dX12_bar_62
    · refine zx_less [.null, .null, .null, .null, .null] (zq_cz (zq_cz (zq_cz (zq_cz (zq_cz zq_cn))))) ?_
      exact xX12_bar_j24_j N s4
theorem cX12_bar_mc (N : Nat)  (p1 : Int32) (p2 : Int32) (p3 : Int32) (s : zq_S) (v : Int32 × zq_S) (h : mX12_bar N p1 p2 p3 s = some v) : zq_MC yX12_bar cX12_bar 5 (some .int) ⟨1, 0, 0, 25⟩ 0 0 [.ref 57, .int p1, .int p2, .int p3] (zq_en s) (zv_i v.1, zq_en v.2) := zq_MC_x [.ref 57, .int p1, .int p2, .int p3, .null] (by decide +kernel) rfl rfl (Nat.le_of_ble_eq_true rfl) (xX12_bar N p1 p2 p3 s) h
def mX12_isGoodSet (N : Nat)  (p1 : Int32) (s : zq_S) : Option (Int32 × zq_S) :=
  zq_b2 (mX12_find N s) (fun r1 s2 =>
  zq_ck p1 1024 (
  zq_bz (zga s2 78 p1) (some ((zga s2 78 p1), s2))))
set_option maxRecDepth 20000 in
set_option maxHeartbeats 2000000 in
theorem xX12_isGoodSet (N : Nat)  (p1 : Int32) (s : zq_S) : zq_X yX12_isGoodSet RX12 cX12_isGoodSet 2 (some .boolean) ⟨2, 0, 0, 44⟩ zv_i 0 [.ref 57, .int p1] [] s (mX12_isGoodSet N p1 s) := by
  unfold mX12_isGoodSet
  refine zx_lift (pc' := 1) (fun _ => zq_aload_n rfl rfl dX12_isGoodSet_0 rfl) ?_
  refine zx_cVv (pc' := 4) zcv_X12_307 (cX12_find_mc N s) zob_57 rfl (by decide) (Nat.le_of_ble_eq_true rfl) dX12_isGoodSet_1 rfl rfl (fun r1 s2 => ?_)
  refine zx_lift (pc' := 5) (fun _ => zq_aload_n rfl rfl dX12_isGoodSet_4 rfl) ?_
  refine zx_lift (pc' := 8) (fun _ => zt_getR zfr_X12_75 zfd_57_38 dX12_isGoodSet_5 rfl) ?_
  refine zx_lift (pc' := 9) (fun _ => zq_iload_n rfl rfl dX12_isGoodSet_8 rfl) ?_
  refine zx_zaload (pc' := 10) zsh_78 dX12_isGoodSet_9 rfl ?_
  exact zx_zretg rfl dX12_isGoodSet_10
theorem cX12_isGoodSet_mc (N : Nat)  (p1 : Int32) (s : zq_S) (v : Int32 × zq_S) (h : mX12_isGoodSet N p1 s = some v) : zq_MC yX12_isGoodSet cX12_isGoodSet 2 (some .boolean) ⟨2, 0, 0, 44⟩ 0 0 [.ref 57, .int p1] (zq_en s) (zv_i v.1, zq_en v.2) := zq_MC_x [.ref 57, .int p1] (by decide +kernel) rfl rfl (Nat.le_of_ble_eq_true rfl) (xX12_isGoodSet N p1 s) h
def bX12_breaksOf_8 (N : Nat)  (f1 : Int32)  (self : Int32 × Int32 × zq_S → Option (Int32 × zq_S)) (v : Int32 × Int32 × zq_S) : Option (Int32 × zq_S) :=
  zq_ck f1 1024 (
  if (zga v.2.2 84 f1) ≤ v.2.1 then
  some (v.1, v.2.2)
  else
  zq_ck ((((40 : Int32) * f1) + v.2.1) - (1 : Int32)) 40960 (
  zq_ck (((40 : Int32) * f1) + v.2.1) 40960 (
  zq_ck (((100 : Int32) * (zga v.2.2 85 ((((40 : Int32) * f1) + v.2.1) - (1 : Int32)))) + (zga v.2.2 85 (((40 : Int32) * f1) + v.2.1))) 10000 (
  zq_let (if (zga v.2.2 96 (((100 : Int32) * (zga v.2.2 85 ((((40 : Int32) * f1) + v.2.1) - (1 : Int32)))) + (zga v.2.2 85 (((40 : Int32) * f1) + v.2.1)))) = (0 : Int32) then (0 : Int32) else (1 : Int32)) (fun x3 =>
  zq_let (v.1 + x3) (fun x4 =>
  zq_let (v.2.1 + (1 : Int32)) (fun x5 =>
  self (x4, x5, v.2.2))))))))
set_option maxRecDepth 20000 in
set_option maxHeartbeats 2000000 in
theorem xX12_breaksOf_8 (N : Nat)  (f1 : Int32)  (self : Int32 × Int32 × zq_S → Option (Int32 × zq_S)) (hself : ∀ v, zq_X yX12_breaksOf RX12 cX12_breaksOf 4 (some .int) ⟨4, 0, 0, 91⟩ zv_i 8 [.ref 57, .int f1, .int v.1, .int v.2.1] [] v.2.2 (self v)) (v : Int32 × Int32 × zq_S) : zq_X yX12_breaksOf RX12 cX12_breaksOf 4 (some .int) ⟨4, 0, 0, 91⟩ zv_i 8 [.ref 57, .int f1, .int v.1, .int v.2.1] [] v.2.2 (bX12_breaksOf_8 N f1 self v) := by
  unfold bX12_breaksOf_8
  refine zx_lift (pc' := 9) (fun _ => zq_iload_n rfl rfl dX12_breaksOf_8 rfl) ?_
  refine zx_lift (pc' := 10) (fun _ => zq_aload_n rfl rfl dX12_breaksOf_9 rfl) ?_
  refine zx_lift (pc' := 13) (fun _ => zt_getR zfr_X12_94 zfd_57_45 dX12_breaksOf_10 rfl) ?_
  refine zx_lift (pc' := 14) (fun _ => zq_iload_n rfl rfl dX12_breaksOf_13 rfl) ?_
  refine zx_iaload (pc' := 15) zsh_84 dX12_breaksOf_14 rfl ?_
  refine zx_icmp_ge (pc' := 18) (tgt := 68) dX12_breaksOf_15 rfl rfl (fun hc => ?_) (fun hc => ?_)
  · refine zx_lift (pc' := 69) (fun _ => zq_iload_n rfl rfl dX12_breaksOf_68 rfl) ?_
    exact zx_iret rfl dX12_breaksOf_69
  · refine zx_lift (pc' := 19) (fun _ => zq_iload_n rfl rfl dX12_breaksOf_18 rfl) ?_
    refine zx_lift (pc' := 20) (fun _ => zq_aload_n rfl rfl dX12_breaksOf_19 rfl) ?_
    refine zx_lift (pc' := 23) (fun _ => zt_getR zfr_X12_131 zfd_57_60 dX12_breaksOf_20 rfl) ?_
    refine zx_lift (pc' := 25) (fun _ => zq_bipush (v := 100) dX12_breaksOf_23 rfl rfl) ?_
    refine zx_lift (pc' := 26) (fun _ => zq_aload_n rfl rfl dX12_breaksOf_25 rfl) ?_
    refine zx_lift (pc' := 29) (fun _ => zt_getR zfr_X12_98 zfd_57_46 dX12_breaksOf_26 rfl) ?_
    refine zx_lift (pc' := 31) (fun _ => zq_bipush (v := 40) dX12_breaksOf_29 rfl rfl) ?_
    refine zx_lift (pc' := 32) (fun _ => zq_iload_n rfl rfl dX12_breaksOf_31 rfl) ?_
    refine zx_lift (pc' := 33) (fun _ => zq_imul dX12_breaksOf_32 rfl) ?_
    refine zx_lift (pc' := 34) (fun _ => zq_iload_n rfl rfl dX12_breaksOf_33 rfl) ?_
    refine zx_lift (pc' := 35) (fun _ => zq_iadd dX12_breaksOf_34 rfl) ?_
    refine zx_lift (pc' := 36) (fun _ => zq_iconst (v := 1) dX12_breaksOf_35 rfl rfl) ?_
    refine zx_lift (pc' := 37) (fun _ => zq_isub dX12_breaksOf_36 rfl) ?_
    refine zx_iaload (pc' := 38) zsh_85 dX12_breaksOf_37 rfl ?_
    refine zx_lift (pc' := 39) (fun _ => zq_imul dX12_breaksOf_38 rfl) ?_
    refine zx_lift (pc' := 40) (fun _ => zq_aload_n rfl rfl dX12_breaksOf_39 rfl) ?_
    refine zx_lift (pc' := 43) (fun _ => zt_getR zfr_X12_98 zfd_57_46 dX12_breaksOf_40 rfl) ?_
    refine zx_lift (pc' := 45) (fun _ => zq_bipush (v := 40) dX12_breaksOf_43 rfl rfl) ?_
    refine zx_lift (pc' := 46) (fun _ => zq_iload_n rfl rfl dX12_breaksOf_45 rfl) ?_
    refine zx_lift (pc' := 47) (fun _ => zq_imul dX12_breaksOf_46 rfl) ?_
    refine zx_lift (pc' := 48) (fun _ => zq_iload_n rfl rfl dX12_breaksOf_47 rfl) ?_
    refine zx_lift (pc' := 49) (fun _ => zq_iadd dX12_breaksOf_48 rfl) ?_
    refine zx_iaload (pc' := 50) zsh_85 dX12_breaksOf_49 rfl ?_
    refine zx_lift (pc' := 51) (fun _ => zq_iadd dX12_breaksOf_50 rfl) ?_
    refine zx_zaload (pc' := 52) zsh_96 dX12_breaksOf_51 rfl ?_
    refine zx_tern (pcJ := 60) (lsJ := fun x3 => [.ref 57, .int f1, .null, .int v.2.1]) (stJ := fun x3 => [.int x3, .int v.1]) (fun x3 => ?_) (fun f hJ => ?_)
    rotate_left
    · refine zx_lif_eq (pc' := 55) (tgt := 59) dX12_breaksOf_52 rfl rfl (fun _ => ?_) (fun _ => ?_)
      · refine zx_lift (pc' := 60) (fun _ => zq_iconst (v := 0) dX12_breaksOf_59 rfl rfl) ?_
        exact zx_lessJ (zq_cr (zq_cr (zq_cz (zq_cr zq_cn)))) (hJ _)
      · refine zx_lift (pc' := 56) (fun _ => zq_iconst (v := 1) dX12_breaksOf_55 rfl rfl) ?_
        refine zx_lift (pc' := 60) (fun _ => zq_goto dX12_breaksOf_56 rfl) ?_
        exact zx_lessJ (zq_cr (zq_cr (zq_cz (zq_cr zq_cn)))) (hJ _)
    refine zx_lift (pc' := 61) (fun _ => zq_iadd dX12_breaksOf_60 rfl) ?_
    refine zx_istore_n (pc' := 62) (ls' := fun x4 => [.ref 57, .int f1, .int x4, .int v.2.1]) rfl (by decide) rfl (fun _ => rfl) dX12_breaksOf_61 rfl (fun x4 => ?_)
    refine zx_iinc (pc' := 65) (ls' := fun x5 => [.ref 57, .int f1, .int x4, .int x5]) rfl rfl (by decide) rfl (fun _ => rfl) dX12_breaksOf_62 rfl (fun x5 => ?_)
    refine zx_lift (pc' := 8) (fun _ => zq_goto dX12_breaksOf_65 rfl) ?_
    exact hself (x4, x5, v.2.2)
theorem yX12_breaksOf_8 (N : Nat)  (f1 : Int32)  (n : Nat) : ∀ v : Int32 × Int32 × zq_S, zq_X yX12_breaksOf RX12 cX12_breaksOf 4 (some .int) ⟨4, 0, 0, 91⟩ zv_i 8 [.ref 57, .int f1, .int v.1, .int v.2.1] [] v.2.2 (zq_loop (bX12_breaksOf_8 N f1 ) n v) := by
  induction n with
  | zero => exact fun v u hu => by cases hu
  | succ n ih =>
    intro v
    rw [zq_loop_s]
    exact xX12_breaksOf_8 N f1  (zq_loop (bX12_breaksOf_8 N f1 ) n) ih v
def mX12_breaksOf (N : Nat)  (p1 : Int32) (s : zq_S) : Option (Int32 × zq_S) :=
  zq_b2 (mX12_findTexts N s) (fun r1 s2 =>
  zq_loop (bX12_breaksOf_8 N p1 ) N ((0 : Int32), (1 : Int32), s2))
set_option maxRecDepth 20000 in
set_option maxHeartbeats 2000000 in
theorem xX12_breaksOf (N : Nat)  (p1 : Int32) (s : zq_S) : zq_X yX12_breaksOf RX12 cX12_breaksOf 4 (some .int) ⟨4, 0, 0, 91⟩ zv_i 0 [.ref 57, .int p1, .null, .null] [] s (mX12_breaksOf N p1 s) := by
  unfold mX12_breaksOf
  refine zx_lift (pc' := 1) (fun _ => zq_aload_n rfl rfl dX12_breaksOf_0 rfl) ?_
  refine zx_cVv (pc' := 4) zcv_X12_340 (cX12_findTexts_mc N s) zob_57 rfl (by decide) (Nat.le_of_ble_eq_true rfl) dX12_breaksOf_1 rfl rfl (fun r1 s2 => ?_)
  refine zx_lift (pc' := 5) (fun _ => zq_iconst (v := 0) dX12_breaksOf_4 rfl rfl) ?_
  refine zx_lift (pc' := 6) (fun _ => zq_istore_n (ls' := [.ref 57, .int p1, .int (0 : Int32), .null]) rfl (by decide) rfl rfl dX12_breaksOf_5 rfl) ?_
  refine zx_lift (pc' := 7) (fun _ => zq_iconst (v := 1) dX12_breaksOf_6 rfl rfl) ?_
  refine zx_lift (pc' := 8) (fun _ => zq_istore_n (ls' := [.ref 57, .int p1, .int (0 : Int32), .int (1 : Int32)]) rfl (by decide) rfl rfl dX12_breaksOf_7 rfl) ?_
  refine yX12_breaksOf_8 N p1  N ((0 : Int32), (1 : Int32), s2)
theorem cX12_breaksOf_mc (N : Nat)  (p1 : Int32) (s : zq_S) (v : Int32 × zq_S) (h : mX12_breaksOf N p1 s = some v) : zq_MC yX12_breaksOf cX12_breaksOf 4 (some .int) ⟨4, 0, 0, 91⟩ 0 0 [.ref 57, .int p1] (zq_en s) (zv_i v.1, zq_en v.2) := zq_MC_x [.ref 57, .int p1, .null, .null] (by decide +kernel) rfl rfl (Nat.le_of_ble_eq_true rfl) (xX12_breaksOf N p1 s) h
def jX12_breaks_j31 (N : Nat)   (t0 : Int32) (s : zq_S) : Option (Int32 × zq_S) :=
  some (t0, s)
set_option maxRecDepth 20000 in
set_option maxHeartbeats 2000000 in
theorem xX12_breaks_j31_j (N : Nat)   (t0 : Int32) (s : zq_S) : zq_X yX12_breaks RX12 cX12_breaks 2 (some .int) ⟨5, 0, 0, 114⟩ zv_i 31 [.null, .null] [.int t0] s (jX12_breaks_j31 N t0 s) := by
  unfold jX12_breaks_j31
  exact zx_iret rfl dX12_breaks_31
def mX12_breaks (N : Nat)  (p1 : Int32) (s : zq_S) : Option (Int32 × zq_S) :=
  zq_b2 (mX12_areMarks N p1 s) (fun r1 s2 =>
  if r1 = (0 : Int32) then
  some ((-1001 : Int32), s2)
  else
  zq_b2 (mX12_isGoodSet N p1 s2) (fun r3 s4 =>
  if r3 = (0 : Int32) then
  jX12_breaks_j31 N (-1003 : Int32) s4
  else
  zq_b2 (mX12_breaksOf N p1 s4) (fun r5 s6 =>
  jX12_breaks_j31 N r5 s6)))
set_option maxRecDepth 20000 in
set_option maxHeartbeats 2000000 in
theorem xX12_breaks (N : Nat)  (p1 : Int32) (s : zq_S) : zq_X yX12_breaks RX12 cX12_breaks 2 (some .int) ⟨5, 0, 0, 114⟩ zv_i 0 [.ref 57, .int p1] [] s (mX12_breaks N p1 s) := by
  unfold mX12_breaks
  refine zx_lift (pc' := 1) (fun _ => zq_aload_n rfl rfl dX12_breaks_0 rfl) ?_
  refine zx_lift (pc' := 2) (fun _ => zq_iload_n rfl rfl dX12_breaks_1 rfl) ?_
  refine zx_cVi (pc' := 5) zcv_X12_310 (cX12_areMarks_mc N p1 s) zob_57 rfl (by decide) (Nat.le_of_ble_eq_true rfl) dX12_breaks_2 rfl rfl (fun r1 s2 => ?_)
  refine zx_if_ne (pc' := 8) (tgt := 12) dX12_breaks_5 rfl rfl (fun hc => ?_) (fun hc => ?_)
  · refine zx_lift (pc' := 13) (fun _ => zq_aload_n rfl rfl dX12_breaks_12 rfl) ?_
    refine zx_lift (pc' := 14) (fun _ => zq_iload_n rfl rfl dX12_breaks_13 rfl) ?_
    refine zx_cVi (pc' := 17) zcv_X12_313 (cX12_isGoodSet_mc N p1 s2) zob_57 rfl (by decide) (Nat.le_of_ble_eq_true rfl) dX12_breaks_14 rfl rfl (fun r3 s4 => ?_)
    refine zx_if_eq (pc' := 20) (tgt := 28) dX12_breaks_17 rfl rfl (fun hc => ?_) (fun hc => ?_)
    · refine zx_lift (pc' := 31) (fun _ => zq_sipush (v := (-1003)) dX12_breaks_28 rfl rfl) ?_
      refine zx_less [.null, .null] (zq_cz (zq_cz zq_cn)) ?_
      exact xX12_breaks_j31_j N (-1003 : Int32) s4
    · refine zx_lift (pc' := 21) (fun _ => zq_aload_n rfl rfl dX12_breaks_20 rfl) ?_
      refine zx_lift (pc' := 22) (fun _ => zq_iload_n rfl rfl dX12_breaks_21 rfl) ?_
      refine zx_cVi (pc' := 25) zcv_X12_319 (cX12_breaksOf_mc N p1 s4) zob_57 rfl (by decide) (Nat.le_of_ble_eq_true rfl) dX12_breaks_22 rfl rfl (fun r5 s6 => ?_)
      refine zx_lift (pc' := 31) (fun _ => zq_goto dX12_breaks_25 rfl) ?_
      refine zx_less [.null, .null] (zq_cz (zq_cz zq_cn)) ?_
      exact xX12_breaks_j31_j N r5 s6
  · refine zx_lift (pc' := 11) (fun _ => zq_sipush (v := (-1001)) dX12_breaks_8 rfl rfl) ?_
    exact zx_iret rfl dX12_breaks_11
theorem cX12_breaks_mc (N : Nat)  (p1 : Int32) (s : zq_S) (v : Int32 × zq_S) (h : mX12_breaks N p1 s = some v) : zq_MC yX12_breaks cX12_breaks 2 (some .int) ⟨5, 0, 0, 114⟩ 0 0 [.ref 57, .int p1] (zq_en s) (zv_i v.1, zq_en v.2) := zq_MC_x [.ref 57, .int p1] (by decide +kernel) rfl rfl (Nat.le_of_ble_eq_true rfl) (xX12_breaks N p1 s) h
