def jX12_takeRow_j176 (N : Nat)  (f1 : Int32) (k81 : zq_S → Option (Int32 × zq_S)) (k179 : Int32 × Int32 × zq_S → Option (Int32 × zq_S)) (self : Int32 × Int32 × Int32 × Int32 × zq_S → Option (Int32 × zq_S)) (w2 : Int32) (w3 : Int32) (w4 : Int32) (w5 : Int32) (s : zq_S) : Option (Int32 × zq_S) :=
  self (w2, w3, w4, w5, s)
set_option maxRecDepth 20000 in
set_option maxHeartbeats 2000000 in
theorem xX12_takeRow_j176_j (N : Nat)  (f1 : Int32) (k81 : zq_S → Option (Int32 × zq_S)) (hk81 : ∀ e, zq_X yX12_takeRow RX12 cX12_takeRow 8 (some .int) ⟨3, 0, 0, 68⟩ zv_i 81 [.ref 57, .null, .null, .null, .null, .null, .null, .null] [] e (k81 e)) (k179 : Int32 × Int32 × zq_S → Option (Int32 × zq_S)) (hk179 : ∀ e, zq_X yX12_takeRow RX12 cX12_takeRow 8 (some .int) ⟨3, 0, 0, 68⟩ zv_i 179 [.ref 57, .int f1, .int e.1, .int e.2.1, .null, .null, .null, .null] [] e.2.2 (k179 e)) (self : Int32 × Int32 × Int32 × Int32 × zq_S → Option (Int32 × zq_S)) (hself : ∀ v, zq_X yX12_takeRow RX12 cX12_takeRow 8 (some .int) ⟨3, 0, 0, 68⟩ zv_i 51 [.ref 57, .int f1, .int v.1, .int v.2.1, .int v.2.2.1, .int v.2.2.2.1, .null, .null] [] v.2.2.2.2 (self v)) (w2 : Int32) (w3 : Int32) (w4 : Int32) (w5 : Int32) (s : zq_S) : zq_X yX12_takeRow RX12 cX12_takeRow 8 (some .int) ⟨3, 0, 0, 68⟩ zv_i 176 [.ref 57, .int f1, .int w2, .int w3, .int w4, .int w5, .null, .null] [] s (jX12_takeRow_j176 N f1 k81 k179 self w2 w3 w4 w5 s) := by
  unfold jX12_takeRow_j176
  refine zx_lift (pc' := 51) (fun _ => zq_goto dX12_takeRow_176 rfl) ?_
  exact hself (w2, w3, w4, w5, s)
def jX12_takeRow_j148 (N : Nat)  (f1 : Int32) (k81 : zq_S → Option (Int32 × zq_S)) (k179 : Int32 × Int32 × zq_S → Option (Int32 × zq_S)) (self : Int32 × Int32 × Int32 × Int32 × zq_S → Option (Int32 × zq_S)) (w2 : Int32) (w7 : Int32) (t0 : Int32) (s : zq_S) : Option (Int32 × zq_S) :=
  zq_b2 (mX12_addSign N (7 : Int32) (zgf s 57 19) w7 w2 s) (fun r19 s20 =>
  zq_let (if t0 = (0 : Int32) then (1 : Int32) else (0 : Int32)) (fun x21 =>
  jX12_takeRow_j176 N f1 k81 k179 self w2 t0 x21 (1 : Int32) s20))
set_option maxRecDepth 20000 in
set_option maxHeartbeats 2000000 in
theorem xX12_takeRow_j148_j (N : Nat)  (f1 : Int32) (k81 : zq_S → Option (Int32 × zq_S)) (hk81 : ∀ e, zq_X yX12_takeRow RX12 cX12_takeRow 8 (some .int) ⟨3, 0, 0, 68⟩ zv_i 81 [.ref 57, .null, .null, .null, .null, .null, .null, .null] [] e (k81 e)) (k179 : Int32 × Int32 × zq_S → Option (Int32 × zq_S)) (hk179 : ∀ e, zq_X yX12_takeRow RX12 cX12_takeRow 8 (some .int) ⟨3, 0, 0, 68⟩ zv_i 179 [.ref 57, .int f1, .int e.1, .int e.2.1, .null, .null, .null, .null] [] e.2.2 (k179 e)) (self : Int32 × Int32 × Int32 × Int32 × zq_S → Option (Int32 × zq_S)) (hself : ∀ v, zq_X yX12_takeRow RX12 cX12_takeRow 8 (some .int) ⟨3, 0, 0, 68⟩ zv_i 51 [.ref 57, .int f1, .int v.1, .int v.2.1, .int v.2.2.1, .int v.2.2.2.1, .null, .null] [] v.2.2.2.2 (self v)) (w2 : Int32) (w7 : Int32) (t0 : Int32) (s : zq_S) : zq_X yX12_takeRow RX12 cX12_takeRow 8 (some .int) ⟨3, 0, 0, 68⟩ zv_i 148 [.ref 57, .int f1, .int w2, .null, .null, .null, .null, .int w7] [.int t0] s (jX12_takeRow_j148 N f1 k81 k179 self w2 w7 t0 s) := by
  unfold jX12_takeRow_j148
  refine zx_lift (pc' := 149) (fun _ => zq_istore_n (ls' := [.ref 57, .int f1, .int w2, .int t0, .null, .null, .null, .int w7]) rfl (by decide) rfl rfl dX12_takeRow_148 rfl) ?_
  refine zx_lift (pc' := 150) (fun _ => zq_aload_n rfl rfl dX12_takeRow_149 rfl) ?_
  refine zx_lift (pc' := 152) (fun _ => zq_bipush (v := 7) dX12_takeRow_150 rfl rfl) ?_
  refine zx_lift (pc' := 153) (fun _ => zq_aload_n rfl rfl dX12_takeRow_152 rfl) ?_
  refine zx_lift (pc' := 156) (fun _ => zt_getI zfr_X12_176 zfd_57_19 dX12_takeRow_153 rfl) ?_
  refine zx_lift (pc' := 158) (fun _ => zq_iload rfl dX12_takeRow_156 rfl) ?_
  refine zx_lift (pc' := 159) (fun _ => zq_iload_n rfl rfl dX12_takeRow_158 rfl) ?_
  refine zx_cVv (pc' := 162) zcv_X12_208 (cX12_addSign_mc N (7 : Int32) (zgf s 57 19) w7 w2 s) zob_57 rfl (by decide) (Nat.le_of_ble_eq_true rfl) dX12_takeRow_159 rfl rfl (fun r19 s20 => ?_)
  refine zx_lift (pc' := 163) (fun _ => zq_iload_n rfl rfl dX12_takeRow_162 rfl) ?_
  refine zx_tern (pcJ := 171) (lsJ := fun x21 => [.ref 57, .int f1, .int w2, .int t0, .null, .null, .null, .null]) (stJ := fun x21 => [.int x21]) (fun x21 => ?_) (fun f hJ => ?_)
  rotate_left
  · refine zx_lif_ne (pc' := 166) (tgt := 170) dX12_takeRow_163 rfl rfl (fun _ => ?_) (fun _ => ?_)
    · refine zx_lift (pc' := 171) (fun _ => zq_iconst (v := 0) dX12_takeRow_170 rfl rfl) ?_
      exact zx_lessJ (zq_cr (zq_cr (zq_cr (zq_cr (zq_cz (zq_cz (zq_cz (zq_cz zq_cn)))))))) (hJ _)
    · refine zx_lift (pc' := 167) (fun _ => zq_iconst (v := 1) dX12_takeRow_166 rfl rfl) ?_
      refine zx_lift (pc' := 171) (fun _ => zq_goto dX12_takeRow_167 rfl) ?_
      exact zx_lessJ (zq_cr (zq_cr (zq_cr (zq_cr (zq_cz (zq_cz (zq_cz (zq_cz zq_cn)))))))) (hJ _)
  refine zx_lift (pc' := 173) (fun _ => zq_istore (ls' := [.ref 57, .int f1, .int w2, .int t0, .int x21, .null, .null, .null]) (by decide) rfl rfl dX12_takeRow_171 rfl) ?_
  refine zx_lift (pc' := 174) (fun _ => zq_iconst (v := 1) dX12_takeRow_173 rfl rfl) ?_
  refine zx_lift (pc' := 176) (fun _ => zq_istore (ls' := [.ref 57, .int f1, .int w2, .int t0, .int x21, .int (1 : Int32), .null, .null]) (by decide) rfl rfl dX12_takeRow_174 rfl) ?_
  exact xX12_takeRow_j176_j N f1 k81 hk81 k179 hk179 self hself w2 t0 x21 (1 : Int32) s20
def jX12_takeRow_j91 (N : Nat)  (f1 : Int32) (k81 : zq_S → Option (Int32 × zq_S)) (k179 : Int32 × Int32 × zq_S → Option (Int32 × zq_S)) (self : Int32 × Int32 × Int32 × Int32 × zq_S → Option (Int32 × zq_S)) (w3 : Int32) (w5 : Int32) (w6 : Int32) (s : zq_S) : Option (Int32 × zq_S) :=
  zq_let (zgf s 57 18) (fun x11 =>
  zq_let (zpf s 57 18 ((zgf s 57 18) + (1 : Int32))) (fun s12 =>
  zq_let (if w6 = (47 : Int32) then (1 : Int32) else (0 : Int32)) (fun x13 =>
  if x13 = (0 : Int32) then
  jX12_takeRow_j176 N f1 k81 k179 self x11 w3 x13 w5 s12
  else
  zq_b2 (mX12_takeMark N s12) (fun r14 s15 =>
  zq_let (zgf s15 57 19) (fun x16 =>
  if r14 ≤ (0 : Int32) then
  zq_b2 (mX12_takeWord N s15) (fun r17 s18 =>
  jX12_takeRow_j148 N f1 k81 k179 self x11 x16 r17 s18)
  else
  jX12_takeRow_j148 N f1 k81 k179 self x11 x16 r14 s15)))))
set_option maxRecDepth 20000 in
set_option maxHeartbeats 2000000 in
theorem xX12_takeRow_j91_j (N : Nat)  (f1 : Int32) (k81 : zq_S → Option (Int32 × zq_S)) (hk81 : ∀ e, zq_X yX12_takeRow RX12 cX12_takeRow 8 (some .int) ⟨3, 0, 0, 68⟩ zv_i 81 [.ref 57, .null, .null, .null, .null, .null, .null, .null] [] e (k81 e)) (k179 : Int32 × Int32 × zq_S → Option (Int32 × zq_S)) (hk179 : ∀ e, zq_X yX12_takeRow RX12 cX12_takeRow 8 (some .int) ⟨3, 0, 0, 68⟩ zv_i 179 [.ref 57, .int f1, .int e.1, .int e.2.1, .null, .null, .null, .null] [] e.2.2 (k179 e)) (self : Int32 × Int32 × Int32 × Int32 × zq_S → Option (Int32 × zq_S)) (hself : ∀ v, zq_X yX12_takeRow RX12 cX12_takeRow 8 (some .int) ⟨3, 0, 0, 68⟩ zv_i 51 [.ref 57, .int f1, .int v.1, .int v.2.1, .int v.2.2.1, .int v.2.2.2.1, .null, .null] [] v.2.2.2.2 (self v)) (w3 : Int32) (w5 : Int32) (w6 : Int32) (s : zq_S) : zq_X yX12_takeRow RX12 cX12_takeRow 8 (some .int) ⟨3, 0, 0, 68⟩ zv_i 91 [.ref 57, .int f1, .null, .int w3, .null, .int w5, .int w6, .null] [] s (jX12_takeRow_j91 N f1 k81 k179 self w3 w5 w6 s) := by
  unfold jX12_takeRow_j91
  refine zx_lift (pc' := 92) (fun _ => zq_aload_n rfl rfl dX12_takeRow_91 rfl) ?_
  refine zx_lift (pc' := 95) (fun _ => zt_getI zfr_X12_159 zfd_57_18 dX12_takeRow_92 rfl) ?_
  refine zx_istore_n (pc' := 96) (ls' := fun x11 => [.ref 57, .int f1, .int x11, .int w3, .null, .int w5, .int w6, .null]) rfl (by decide) rfl (fun _ => rfl) dX12_takeRow_95 rfl (fun x11 => ?_)
  refine zx_lift (pc' := 97) (fun _ => zq_aload_n rfl rfl dX12_takeRow_96 rfl) ?_
  refine zx_lift (pc' := 98) (fun _ => zq_dup rfl dX12_takeRow_97 rfl) ?_
  refine zx_lift (pc' := 101) (fun _ => zt_getI zfr_X12_159 zfd_57_18 dX12_takeRow_98 rfl) ?_
  refine zx_lift (pc' := 102) (fun _ => zq_iconst (v := 1) dX12_takeRow_101 rfl rfl) ?_
  refine zx_lift (pc' := 103) (fun _ => zq_iadd dX12_takeRow_102 rfl) ?_
  refine zx_putI (pc' := 106) zfr_X12_159 (fun _ => ⟨rfl, rfl⟩) zfd_57_18 dX12_takeRow_103 rfl (fun s12 => ?_)
  refine zx_lift (pc' := 108) (fun _ => zq_iload rfl dX12_takeRow_106 rfl) ?_
  refine zx_lift (pc' := 110) (fun _ => zq_bipush (v := 47) dX12_takeRow_108 rfl rfl) ?_
  refine zx_tern (pcJ := 118) (lsJ := fun x13 => [.ref 57, .int f1, .int x11, .int w3, .null, .int w5, .null, .null]) (stJ := fun x13 => [.int x13]) (fun x13 => ?_) (fun f hJ => ?_)
  rotate_left
  · refine zx_licmp_ne (pc' := 113) (tgt := 117) dX12_takeRow_110 rfl rfl (fun _ => ?_) (fun _ => ?_)
    · refine zx_lift (pc' := 118) (fun _ => zq_iconst (v := 0) dX12_takeRow_117 rfl rfl) ?_
      exact zx_lessJ (zq_cr (zq_cr (zq_cr (zq_cr (zq_cz (zq_cr (zq_cz (zq_cz zq_cn)))))))) (hJ _)
    · refine zx_lift (pc' := 114) (fun _ => zq_iconst (v := 1) dX12_takeRow_113 rfl rfl) ?_
      refine zx_lift (pc' := 118) (fun _ => zq_goto dX12_takeRow_114 rfl) ?_
      exact zx_lessJ (zq_cr (zq_cr (zq_cr (zq_cr (zq_cz (zq_cr (zq_cz (zq_cz zq_cn)))))))) (hJ _)
  refine zx_lift (pc' := 120) (fun _ => zq_istore (ls' := [.ref 57, .int f1, .int x11, .int w3, .int x13, .int w5, .null, .null]) (by decide) rfl rfl dX12_takeRow_118 rfl) ?_
  refine zx_lift (pc' := 122) (fun _ => zq_iload rfl dX12_takeRow_120 rfl) ?_
  refine zx_if_eq (pc' := 125) (tgt := 176) dX12_takeRow_122 rfl rfl (fun hc => ?_) (fun hc => ?_)
  · exact xX12_takeRow_j176_j N f1 k81 hk81 k179 hk179 self hself x11 w3 x13 w5 s12
  · refine zx_lift (pc' := 126) (fun _ => zq_aload_n rfl rfl dX12_takeRow_125 rfl) ?_
    refine zx_cVi (pc' := 129) zcv_X12_199 (cX12_takeMark_mc N s12) zob_57 rfl (by decide) (Nat.le_of_ble_eq_true rfl) dX12_takeRow_126 rfl rfl (fun r14 s15 => ?_)
    refine zx_lift (pc' := 130) (fun _ => zq_istore_n (ls' := [.ref 57, .int f1, .int x11, .int r14, .int x13, .int w5, .null, .null]) rfl (by decide) rfl rfl dX12_takeRow_129 rfl) ?_
    refine zx_lift (pc' := 131) (fun _ => zq_aload_n rfl rfl dX12_takeRow_130 rfl) ?_
    refine zx_lift (pc' := 134) (fun _ => zt_getI zfr_X12_176 zfd_57_19 dX12_takeRow_131 rfl) ?_
    refine zx_istore (pc' := 136) (ls' := fun x16 => [.ref 57, .int f1, .int x11, .int r14, .int x13, .int w5, .null, .int x16]) (by decide) rfl (fun _ => rfl) dX12_takeRow_134 rfl (fun x16 => ?_)
    refine zx_lift (pc' := 137) (fun _ => zq_iload_n rfl rfl dX12_takeRow_136 rfl) ?_
    refine zx_if_le (pc' := 140) (tgt := 144) dX12_takeRow_137 rfl rfl (fun hc => ?_) (fun hc => ?_)
    · refine zx_lift (pc' := 145) (fun _ => zq_aload_n rfl rfl dX12_takeRow_144 rfl) ?_
      refine zx_cVi (pc' := 148) zcv_X12_219 (cX12_takeWord_mc N s15) zob_57 rfl (by decide) (Nat.le_of_ble_eq_true rfl) dX12_takeRow_145 rfl rfl (fun r17 s18 => ?_)
      refine zx_less [.ref 57, .int f1, .int x11, .null, .null, .null, .null, .int x16] (zq_cr (zq_cr (zq_cr (zq_cz (zq_cz (zq_cz (zq_cz (zq_cr zq_cn)))))))) ?_
      exact xX12_takeRow_j148_j N f1 k81 hk81 k179 hk179 self hself x11 x16 r17 s18
    · refine zx_lift (pc' := 141) (fun _ => zq_iload_n rfl rfl dX12_takeRow_140 rfl) ?_
      refine zx_lift (pc' := 148) (fun _ => zq_goto dX12_takeRow_141 rfl) ?_
      refine zx_less [.ref 57, .int f1, .int x11, .null, .null, .null, .null, .int x16] (zq_cr (zq_cr (zq_cr (zq_cz (zq_cz (zq_cz (zq_cz (zq_cr zq_cn)))))))) ?_
      exact xX12_takeRow_j148_j N f1 k81 hk81 k179 hk179 self hself x11 x16 r14 s15
def bX12_takeRow_51 (N : Nat)  (f1 : Int32) (k81 : zq_S → Option (Int32 × zq_S)) (k179 : Int32 × Int32 × zq_S → Option (Int32 × zq_S)) (self : Int32 × Int32 × Int32 × Int32 × zq_S → Option (Int32 × zq_S)) (v : Int32 × Int32 × Int32 × Int32 × zq_S) : Option (Int32 × zq_S) :=
  if v.2.2.1 = (0 : Int32) then
  k179 (v.1, v.2.1, v.2.2.2.2)
  else
  zq_b2 (mX12_here N v.2.2.2.2) (fun r9 s10 =>
  if r9 = (47 : Int32) then
  jX12_takeRow_j91 N f1 k81 k179 self v.2.1 v.2.2.2.1 r9 s10
  else
  if r9 = (41 : Int32) then
  if v.2.2.2.1 = (0 : Int32) then
  k81 s10
  else
  jX12_takeRow_j91 N f1 k81 k179 self v.2.1 v.2.2.2.1 r9 s10
  else
  k81 s10)
set_option maxRecDepth 20000 in
set_option maxHeartbeats 2000000 in
theorem xX12_takeRow_51 (N : Nat)  (f1 : Int32) (k81 : zq_S → Option (Int32 × zq_S)) (hk81 : ∀ e, zq_X yX12_takeRow RX12 cX12_takeRow 8 (some .int) ⟨3, 0, 0, 68⟩ zv_i 81 [.ref 57, .null, .null, .null, .null, .null, .null, .null] [] e (k81 e)) (k179 : Int32 × Int32 × zq_S → Option (Int32 × zq_S)) (hk179 : ∀ e, zq_X yX12_takeRow RX12 cX12_takeRow 8 (some .int) ⟨3, 0, 0, 68⟩ zv_i 179 [.ref 57, .int f1, .int e.1, .int e.2.1, .null, .null, .null, .null] [] e.2.2 (k179 e)) (self : Int32 × Int32 × Int32 × Int32 × zq_S → Option (Int32 × zq_S)) (hself : ∀ v, zq_X yX12_takeRow RX12 cX12_takeRow 8 (some .int) ⟨3, 0, 0, 68⟩ zv_i 51 [.ref 57, .int f1, .int v.1, .int v.2.1, .int v.2.2.1, .int v.2.2.2.1, .null, .null] [] v.2.2.2.2 (self v)) (v : Int32 × Int32 × Int32 × Int32 × zq_S) : zq_X yX12_takeRow RX12 cX12_takeRow 8 (some .int) ⟨3, 0, 0, 68⟩ zv_i 51 [.ref 57, .int f1, .int v.1, .int v.2.1, .int v.2.2.1, .int v.2.2.2.1, .null, .null] [] v.2.2.2.2 (bX12_takeRow_51 N f1 k81 k179 self v) := by
  unfold bX12_takeRow_51
  refine zx_lift (pc' := 53) (fun _ => zq_iload rfl dX12_takeRow_51 rfl) ?_
  refine zx_if_eq (pc' := 56) (tgt := 179) dX12_takeRow_53 rfl rfl (fun hc => ?_) (fun hc => ?_)
  · refine zx_less [.ref 57, .int f1, .int v.1, .int v.2.1, .null, .null, .null, .null] (zq_cr (zq_cr (zq_cr (zq_cr (zq_cz (zq_cz (zq_cz (zq_cz zq_cn)))))))) ?_
    exact hk179 (v.1, v.2.1, v.2.2.2.2)
  · refine zx_lift (pc' := 57) (fun _ => zq_aload_n rfl rfl dX12_takeRow_56 rfl) ?_
    refine zx_cVi (pc' := 60) zcv_X12_162 (cX12_here_mc N v.2.2.2.2) zob_57 rfl (by decide) (Nat.le_of_ble_eq_true rfl) dX12_takeRow_57 rfl rfl (fun r9 s10 => ?_)
    refine zx_lift (pc' := 62) (fun _ => zq_istore (ls' := [.ref 57, .int f1, .int v.1, .int v.2.1, .int v.2.2.1, .int v.2.2.2.1, .int r9, .null]) (by decide) rfl rfl dX12_takeRow_60 rfl) ?_
    refine zx_lift (pc' := 64) (fun _ => zq_iload rfl dX12_takeRow_62 rfl) ?_
    refine zx_lift (pc' := 66) (fun _ => zq_bipush (v := 47) dX12_takeRow_64 rfl rfl) ?_
    refine zx_icmp_eq (pc' := 69) (tgt := 91) dX12_takeRow_66 rfl rfl (fun hc => ?_) (fun hc => ?_)
    · refine zx_less [.ref 57, .int f1, .null, .int v.2.1, .null, .int v.2.2.2.1, .int r9, .null] (zq_cr (zq_cr (zq_cz (zq_cr (zq_cz (zq_cr (zq_cr (zq_cz zq_cn)))))))) ?_
      exact xX12_takeRow_j91_j N f1 k81 hk81 k179 hk179 self hself v.2.1 v.2.2.2.1 r9 s10
    · refine zx_lift (pc' := 71) (fun _ => zq_iload rfl dX12_takeRow_69 rfl) ?_
      refine zx_lift (pc' := 73) (fun _ => zq_bipush (v := 41) dX12_takeRow_71 rfl rfl) ?_
      refine zx_icmp_ne (pc' := 76) (tgt := 81) dX12_takeRow_73 rfl rfl (fun hc => ?_) (fun hc => ?_)
      · refine zx_less [.ref 57, .null, .null, .null, .null, .null, .null, .null] (zq_cr (zq_cz (zq_cz (zq_cz (zq_cz (zq_cz (zq_cz (zq_cz zq_cn)))))))) ?_
        exact hk81 s10
      · refine zx_lift (pc' := 78) (fun _ => zq_iload rfl dX12_takeRow_76 rfl) ?_
        refine zx_if_ne (pc' := 81) (tgt := 91) dX12_takeRow_78 rfl rfl (fun hc => ?_) (fun hc => ?_)
        · refine zx_less [.ref 57, .int f1, .null, .int v.2.1, .null, .int v.2.2.2.1, .int r9, .null] (zq_cr (zq_cr (zq_cz (zq_cr (zq_cz (zq_cr (zq_cr (zq_cz zq_cn)))))))) ?_
          exact xX12_takeRow_j91_j N f1 k81 hk81 k179 hk179 self hself v.2.1 v.2.2.2.1 r9 s10
        · refine zx_less [.ref 57, .null, .null, .null, .null, .null, .null, .null] (zq_cr (zq_cz (zq_cz (zq_cz (zq_cz (zq_cz (zq_cz (zq_cz zq_cn)))))))) ?_
          exact hk81 s10
theorem yX12_takeRow_51 (N : Nat)  (f1 : Int32) (k81 : zq_S → Option (Int32 × zq_S)) (hk81 : ∀ e, zq_X yX12_takeRow RX12 cX12_takeRow 8 (some .int) ⟨3, 0, 0, 68⟩ zv_i 81 [.ref 57, .null, .null, .null, .null, .null, .null, .null] [] e (k81 e)) (k179 : Int32 × Int32 × zq_S → Option (Int32 × zq_S)) (hk179 : ∀ e, zq_X yX12_takeRow RX12 cX12_takeRow 8 (some .int) ⟨3, 0, 0, 68⟩ zv_i 179 [.ref 57, .int f1, .int e.1, .int e.2.1, .null, .null, .null, .null] [] e.2.2 (k179 e)) (n : Nat) : ∀ v : Int32 × Int32 × Int32 × Int32 × zq_S, zq_X yX12_takeRow RX12 cX12_takeRow 8 (some .int) ⟨3, 0, 0, 68⟩ zv_i 51 [.ref 57, .int f1, .int v.1, .int v.2.1, .int v.2.2.1, .int v.2.2.2.1, .null, .null] [] v.2.2.2.2 (zq_loop (bX12_takeRow_51 N f1 k81 k179) n v) := by
  induction n with
  | zero => exact fun v u hu => by cases hu
  | succ n ih =>
    intro v
    rw [zq_loop_s]
    exact xX12_takeRow_51 N f1 k81 hk81 k179 hk179 (zq_loop (bX12_takeRow_51 N f1 k81 k179) n) ih v
def jX12_takeRow_j81 (N : Nat)    (s : zq_S) : Option (Int32 × zq_S) :=
  zq_b2 (mX12_fails N (1 : Int32) (zgf s 57 18) s) (fun r23 s24 =>
  some (r23, s24))
set_option maxRecDepth 20000 in
set_option maxHeartbeats 2000000 in
theorem xX12_takeRow_j81_j (N : Nat)    (s : zq_S) : zq_X yX12_takeRow RX12 cX12_takeRow 8 (some .int) ⟨3, 0, 0, 68⟩ zv_i 81 [.ref 57, .null, .null, .null, .null, .null, .null, .null] [] s (jX12_takeRow_j81 N s) := by
  unfold jX12_takeRow_j81
  refine zx_lift (pc' := 82) (fun _ => zq_aload_n rfl rfl dX12_takeRow_81 rfl) ?_
  refine zx_lift (pc' := 83) (fun _ => zq_iconst (v := 1) dX12_takeRow_82 rfl rfl) ?_
  refine zx_lift (pc' := 84) (fun _ => zq_aload_n rfl rfl dX12_takeRow_83 rfl) ?_
  refine zx_lift (pc' := 87) (fun _ => zt_getI zfr_X12_159 zfd_57_18 dX12_takeRow_84 rfl) ?_
  refine zx_cVi (pc' := 90) zcv_X12_169 (cX12_fails_mc N (1 : Int32) (zgf s 57 18) s) zob_57 rfl (by decide) (Nat.le_of_ble_eq_true rfl) dX12_takeRow_87 rfl rfl (fun r23 s24 => ?_)
  exact zx_iret rfl dX12_takeRow_90
def mX12_takeRow (N : Nat)   (s : zq_S) : Option (Int32 × zq_S) :=
  zq_let (zgf s 57 21) (fun x1 =>
  zq_let (zgf s 57 18) (fun x2 =>
  zq_let (zpf s 57 18 ((zgf s 57 18) + (1 : Int32))) (fun s3 =>
  zq_b2 (mX12_takeWord N s3) (fun r4 s5 =>
  zq_b2 (mX12_addSign N (6 : Int32) (zgf s5 57 19) (0 : Int32) x2 s5) (fun r6 s7 =>
  zq_let (if r4 = (0 : Int32) then (1 : Int32) else (0 : Int32)) (fun x8 =>
  zq_loop (bX12_takeRow_51 N x1 (fun e22 =>
  jX12_takeRow_j81 N e22) (fun e25 =>
  if e25.2.1 ≤ (0 : Int32) then
  zq_ck x1 400 (
  zq_let (zpa e25.2.2 74 x1 (zgf e25.2.2 57 21)) (fun s26 =>
  zq_b2 (mX12_addSign N (8 : Int32) (0 : Int32) (0 : Int32) e25.1 s26) (fun r27 s28 =>
  zq_let (zpf s28 57 34 (0 : Int32)) (fun s29 =>
  some ((0 : Int32), s29)))))
  else
  some (e25.2.1, e25.2.2))) N (x2, r4, x8, (0 : Int32), s7)))))))
set_option maxRecDepth 20000 in
set_option maxHeartbeats 2000000 in
theorem xX12_takeRow (N : Nat)   (s : zq_S) : zq_X yX12_takeRow RX12 cX12_takeRow 8 (some .int) ⟨3, 0, 0, 68⟩ zv_i 0 [.ref 57, .null, .null, .null, .null, .null, .null, .null] [] s (mX12_takeRow N s) := by
  unfold mX12_takeRow
  refine zx_lift (pc' := 1) (fun _ => zq_aload_n rfl rfl dX12_takeRow_0 rfl) ?_
  refine zx_lift (pc' := 4) (fun _ => zt_getI zfr_X12_179 zfd_57_21 dX12_takeRow_1 rfl) ?_
  refine zx_istore_n (pc' := 5) (ls' := fun x1 => [.ref 57, .int x1, .null, .null, .null, .null, .null, .null]) rfl (by decide) rfl (fun _ => rfl) dX12_takeRow_4 rfl (fun x1 => ?_)
  refine zx_lift (pc' := 6) (fun _ => zq_aload_n rfl rfl dX12_takeRow_5 rfl) ?_
  refine zx_lift (pc' := 9) (fun _ => zt_getI zfr_X12_159 zfd_57_18 dX12_takeRow_6 rfl) ?_
  refine zx_istore_n (pc' := 10) (ls' := fun x2 => [.ref 57, .int x1, .int x2, .null, .null, .null, .null, .null]) rfl (by decide) rfl (fun _ => rfl) dX12_takeRow_9 rfl (fun x2 => ?_)
  refine zx_lift (pc' := 11) (fun _ => zq_aload_n rfl rfl dX12_takeRow_10 rfl) ?_
  refine zx_lift (pc' := 12) (fun _ => zq_dup rfl dX12_takeRow_11 rfl) ?_
  refine zx_lift (pc' := 15) (fun _ => zt_getI zfr_X12_159 zfd_57_18 dX12_takeRow_12 rfl) ?_
  refine zx_lift (pc' := 16) (fun _ => zq_iconst (v := 1) dX12_takeRow_15 rfl rfl) ?_
  refine zx_lift (pc' := 17) (fun _ => zq_iadd dX12_takeRow_16 rfl) ?_
  refine zx_putI (pc' := 20) zfr_X12_159 (fun _ => ⟨rfl, rfl⟩) zfd_57_18 dX12_takeRow_17 rfl (fun s3 => ?_)
  refine zx_lift (pc' := 21) (fun _ => zq_aload_n rfl rfl dX12_takeRow_20 rfl) ?_
  refine zx_cVi (pc' := 24) zcv_X12_219 (cX12_takeWord_mc N s3) zob_57 rfl (by decide) (Nat.le_of_ble_eq_true rfl) dX12_takeRow_21 rfl rfl (fun r4 s5 => ?_)
  refine zx_lift (pc' := 25) (fun _ => zq_istore_n (ls' := [.ref 57, .int x1, .int x2, .int r4, .null, .null, .null, .null]) rfl (by decide) rfl rfl dX12_takeRow_24 rfl) ?_
  refine zx_lift (pc' := 26) (fun _ => zq_aload_n rfl rfl dX12_takeRow_25 rfl) ?_
  refine zx_lift (pc' := 28) (fun _ => zq_bipush (v := 6) dX12_takeRow_26 rfl rfl) ?_
  refine zx_lift (pc' := 29) (fun _ => zq_aload_n rfl rfl dX12_takeRow_28 rfl) ?_
  refine zx_lift (pc' := 32) (fun _ => zt_getI zfr_X12_176 zfd_57_19 dX12_takeRow_29 rfl) ?_
  refine zx_lift (pc' := 33) (fun _ => zq_iconst (v := 0) dX12_takeRow_32 rfl rfl) ?_
  refine zx_lift (pc' := 34) (fun _ => zq_iload_n rfl rfl dX12_takeRow_33 rfl) ?_
  refine zx_cVv (pc' := 37) zcv_X12_208 (cX12_addSign_mc N (6 : Int32) (zgf s5 57 19) (0 : Int32) x2 s5) zob_57 rfl (by decide) (Nat.le_of_ble_eq_true rfl) dX12_takeRow_34 rfl rfl (fun r6 s7 => ?_)
  refine zx_lift (pc' := 38) (fun _ => zq_iload_n rfl rfl dX12_takeRow_37 rfl) ?_
  refine zx_tern (pcJ := 46) (lsJ := fun x8 => [.ref 57, .int x1, .int x2, .int r4, .null, .null, .null, .null]) (stJ := fun x8 => [.int x8]) (fun x8 => ?_) (fun f hJ => ?_)
  rotate_left
  · refine zx_lif_ne (pc' := 41) (tgt := 45) dX12_takeRow_38 rfl rfl (fun _ => ?_) (fun _ => ?_)
    · refine zx_lift (pc' := 46) (fun _ => zq_iconst (v := 0) dX12_takeRow_45 rfl rfl) ?_
      exact zx_lessJ (zq_cr (zq_cr (zq_cr (zq_cr (zq_cz (zq_cz (zq_cz (zq_cz zq_cn)))))))) (hJ _)
    · refine zx_lift (pc' := 42) (fun _ => zq_iconst (v := 1) dX12_takeRow_41 rfl rfl) ?_
      refine zx_lift (pc' := 46) (fun _ => zq_goto dX12_takeRow_42 rfl) ?_
      exact zx_lessJ (zq_cr (zq_cr (zq_cr (zq_cr (zq_cz (zq_cz (zq_cz (zq_cz zq_cn)))))))) (hJ _)
  refine zx_lift (pc' := 48) (fun _ => zq_istore (ls' := [.ref 57, .int x1, .int x2, .int r4, .int x8, .null, .null, .null]) (by decide) rfl rfl dX12_takeRow_46 rfl) ?_
  refine zx_lift (pc' := 49) (fun _ => zq_iconst (v := 0) dX12_takeRow_48 rfl rfl) ?_
  refine zx_lift (pc' := 51) (fun _ => zq_istore (ls' := [.ref 57, .int x1, .int x2, .int r4, .int x8, .int (0 : Int32), .null, .null]) (by decide) rfl rfl dX12_takeRow_49 rfl) ?_
  refine yX12_takeRow_51 N x1 _ (fun e22 => ?_) _ (fun e25 => ?_) N (x2, r4, x8, (0 : Int32), s7)
  · exact xX12_takeRow_j81_j N e22
  · refine zx_lift (pc' := 180) (fun _ => zq_iload_n rfl rfl dX12_takeRow_179 rfl) ?_
    refine zx_if_le (pc' := 183) (tgt := 185) dX12_takeRow_180 rfl rfl (fun hc => ?_) (fun hc => ?_)
    · refine zx_lift (pc' := 186) (fun _ => zq_aload_n rfl rfl dX12_takeRow_185 rfl) ?_
      refine zx_lift (pc' := 189) (fun _ => zt_getR zfr_X12_63 zfd_57_25 dX12_takeRow_186 rfl) ?_
      refine zx_lift (pc' := 190) (fun _ => zq_iload_n rfl rfl dX12_takeRow_189 rfl) ?_
      refine zx_lift (pc' := 191) (fun _ => zq_aload_n rfl rfl dX12_takeRow_190 rfl) ?_
      refine zx_lift (pc' := 194) (fun _ => zt_getI zfr_X12_179 zfd_57_21 dX12_takeRow_191 rfl) ?_
      refine zx_iastore (pc' := 195) zsh_74 dX12_takeRow_194 rfl (fun s26 => ?_)
      refine zx_lift (pc' := 196) (fun _ => zq_aload_n rfl rfl dX12_takeRow_195 rfl) ?_
      refine zx_lift (pc' := 198) (fun _ => zq_bipush (v := 8) dX12_takeRow_196 rfl rfl) ?_
      refine zx_lift (pc' := 199) (fun _ => zq_iconst (v := 0) dX12_takeRow_198 rfl rfl) ?_
      refine zx_lift (pc' := 200) (fun _ => zq_iconst (v := 0) dX12_takeRow_199 rfl rfl) ?_
      refine zx_lift (pc' := 201) (fun _ => zq_iload_n rfl rfl dX12_takeRow_200 rfl) ?_
      refine zx_cVv (pc' := 204) zcv_X12_208 (cX12_addSign_mc N (8 : Int32) (0 : Int32) (0 : Int32) e25.1 s26) zob_57 rfl (by decide) (Nat.le_of_ble_eq_true rfl) dX12_takeRow_201 rfl rfl (fun r27 s28 => ?_)
      refine zx_lift (pc' := 205) (fun _ => zq_aload_n rfl rfl dX12_takeRow_204 rfl) ?_
      refine zx_lift (pc' := 206) (fun _ => zq_iconst (v := 0) dX12_takeRow_205 rfl rfl) ?_
      refine zx_putI (pc' := 209) zfr_X12_212 (fun _ => ⟨by decide, rfl⟩) zfd_57_34 dX12_takeRow_206 rfl (fun s29 => ?_)
      refine zx_lift (pc' := 210) (fun _ => zq_iconst (v := 0) dX12_takeRow_209 rfl rfl) ?_
      exact zx_iret rfl dX12_takeRow_210
    · refine zx_lift (pc' := 184) (fun _ => zq_iload_n rfl rfl dX12_takeRow_183 rfl) ?_
      exact zx_iret rfl dX12_takeRow_184
theorem cX12_takeRow_mc (N : Nat)   (s : zq_S) (v : Int32 × zq_S) (h : mX12_takeRow N s = some v) : zq_MC yX12_takeRow cX12_takeRow 8 (some .int) ⟨3, 0, 0, 68⟩ 0 0 [.ref 57] (zq_en s) (zv_i v.1, zq_en v.2) := zq_MC_x [.ref 57, .null, .null, .null, .null, .null, .null, .null] (by decide +kernel) rfl rfl (Nat.le_of_ble_eq_true rfl) (xX12_takeRow N s) h
def jX12_takeStar_j67 (N : Nat)   (w1 : Int32) (w2 : Int32) (s : zq_S) : Option (Int32 × zq_S) :=
  zq_let (if w2 ≤ (0 : Int32) then ((1 : Int32) <<< ((zgf s 57 19) &&& 31)) else (0 : Int32)) (fun x5 =>
  zq_let (zpf s 57 30 ((zgf s 57 30) ||| x5)) (fun s6 =>
  zq_b2 (mX12_addSign N (5 : Int32) (zgf s6 57 19) (0 : Int32) w1 s6) (fun r7 s8 =>
  zq_let (zpf s8 57 34 (0 : Int32)) (fun s9 =>
  some (w2, s9)))))
set_option maxRecDepth 20000 in
set_option maxHeartbeats 2000000 in
theorem xX12_takeStar_j67_j (N : Nat)   (w1 : Int32) (w2 : Int32) (s : zq_S) : zq_X yX12_takeStar RX12 cX12_takeStar 3 (some .int) ⟨2, 0, 0, 47⟩ zv_i 67 [.ref 57, .int w1, .int w2] [] s (jX12_takeStar_j67 N w1 w2 s) := by
  unfold jX12_takeStar_j67
  refine zx_lift (pc' := 68) (fun _ => zq_aload_n rfl rfl dX12_takeStar_67 rfl) ?_
  refine zx_lift (pc' := 69) (fun _ => zq_dup rfl dX12_takeStar_68 rfl) ?_
  refine zx_lift (pc' := 72) (fun _ => zt_getI zfr_X12_216 zfd_57_30 dX12_takeStar_69 rfl) ?_
  refine zx_lift (pc' := 73) (fun _ => zq_iload_n rfl rfl dX12_takeStar_72 rfl) ?_
  refine zx_tern (pcJ := 86) (lsJ := fun x5 => [.ref 57, .int w1, .int w2]) (stJ := fun x5 => [.int x5, .int (zgf s 57 30), .ref 57]) (fun x5 => ?_) (fun f hJ => ?_)
  rotate_left
  · refine zx_lif_le (pc' := 76) (tgt := 80) dX12_takeStar_73 rfl rfl (fun _ => ?_) (fun _ => ?_)
    · refine zx_lift (pc' := 81) (fun _ => zq_iconst (v := 1) dX12_takeStar_80 rfl rfl) ?_
      refine zx_lift (pc' := 82) (fun _ => zq_aload_n rfl rfl dX12_takeStar_81 rfl) ?_
      refine zx_lift (pc' := 85) (fun _ => zt_getI zfr_X12_176 zfd_57_19 dX12_takeStar_82 rfl) ?_
      refine zx_lift (pc' := 86) (fun _ => zq_ishl dX12_takeStar_85 rfl) ?_
      exact zx_lessJ (zq_cr (zq_cr (zq_cr zq_cn))) (hJ _)
    · refine zx_lift (pc' := 77) (fun _ => zq_iconst (v := 0) dX12_takeStar_76 rfl rfl) ?_
      refine zx_lift (pc' := 86) (fun _ => zq_goto dX12_takeStar_77 rfl) ?_
      exact zx_lessJ (zq_cr (zq_cr (zq_cr zq_cn))) (hJ _)
  refine zx_lift (pc' := 87) (fun _ => zq_ior dX12_takeStar_86 rfl) ?_
  refine zx_putI (pc' := 90) zfr_X12_216 (fun _ => ⟨rfl, rfl⟩) zfd_57_30 dX12_takeStar_87 rfl (fun s6 => ?_)
  refine zx_lift (pc' := 91) (fun _ => zq_aload_n rfl rfl dX12_takeStar_90 rfl) ?_
  refine zx_lift (pc' := 92) (fun _ => zq_iconst (v := 5) dX12_takeStar_91 rfl rfl) ?_
  refine zx_lift (pc' := 93) (fun _ => zq_aload_n rfl rfl dX12_takeStar_92 rfl) ?_
  refine zx_lift (pc' := 96) (fun _ => zt_getI zfr_X12_176 zfd_57_19 dX12_takeStar_93 rfl) ?_
  refine zx_lift (pc' := 97) (fun _ => zq_iconst (v := 0) dX12_takeStar_96 rfl rfl) ?_
  refine zx_lift (pc' := 98) (fun _ => zq_iload_n rfl rfl dX12_takeStar_97 rfl) ?_
  refine zx_cVv (pc' := 101) zcv_X12_208 (cX12_addSign_mc N (5 : Int32) (zgf s6 57 19) (0 : Int32) w1 s6) zob_57 rfl (by decide) (Nat.le_of_ble_eq_true rfl) dX12_takeStar_98 rfl rfl (fun r7 s8 => ?_)
  refine zx_lift (pc' := 102) (fun _ => zq_aload_n rfl rfl dX12_takeStar_101 rfl) ?_
  refine zx_lift (pc' := 103) (fun _ => zq_iconst (v := 0) dX12_takeStar_102 rfl rfl) ?_
  refine zx_putI (pc' := 106) zfr_X12_212 (fun _ => ⟨by decide, rfl⟩) zfd_57_34 dX12_takeStar_103 rfl (fun s9 => ?_)
  refine zx_lift (pc' := 107) (fun _ => zq_iload_n rfl rfl dX12_takeStar_106 rfl) ?_
  exact zx_iret rfl dX12_takeStar_107
def mX12_takeStar (N : Nat)   (s : zq_S) : Option (Int32 × zq_S) :=
  if (zgf s 57 33) ≤ (0 : Int32) then
  zq_let (zgf s 57 18) (fun x1 =>
  zq_let (zpf s 57 18 ((zgf s 57 18) + (1 : Int32))) (fun s2 =>
  zq_b2 (mX12_takeNumber N (9 : Int32) s2) (fun r3 s4 =>
  if r3 = (0 : Int32) then
  zq_b2 (mX12_has N (zgf s4 57 30) (zgf s4 57 19) s4) (fun r10 s11 =>
  if r10 = (0 : Int32) then
  jX12_takeStar_j67 N x1 r3 s11
  else
  zq_b2 (mX12_fails N (3 : Int32) (zgf s11 57 20) s11) (fun r12 s13 =>
  jX12_takeStar_j67 N x1 r12 s13))
  else
  jX12_takeStar_j67 N x1 r3 s4)))
  else
  zq_b2 (mX12_fails N (1 : Int32) (zgf s 57 18) s) (fun r14 s15 =>
  some (r14, s15))
set_option maxRecDepth 20000 in
set_option maxHeartbeats 2000000 in
theorem xX12_takeStar (N : Nat)   (s : zq_S) : zq_X yX12_takeStar RX12 cX12_takeStar 3 (some .int) ⟨2, 0, 0, 47⟩ zv_i 0 [.ref 57, .null, .null] [] s (mX12_takeStar N s) := by
  unfold mX12_takeStar
  refine zx_lift (pc' := 1) (fun _ => zq_aload_n rfl rfl dX12_takeStar_0 rfl) ?_
  refine zx_lift (pc' := 4) (fun _ => zt_getI zfr_X12_202 zfd_57_33 dX12_takeStar_1 rfl) ?_
  refine zx_if_le (pc' := 7) (tgt := 17) dX12_takeStar_4 rfl rfl (fun hc => ?_) (fun hc => ?_)
  · refine zx_lift (pc' := 18) (fun _ => zq_aload_n rfl rfl dX12_takeStar_17 rfl) ?_
    refine zx_lift (pc' := 21) (fun _ => zt_getI zfr_X12_159 zfd_57_18 dX12_takeStar_18 rfl) ?_
    refine zx_istore_n (pc' := 22) (ls' := fun x1 => [.ref 57, .int x1, .null]) rfl (by decide) rfl (fun _ => rfl) dX12_takeStar_21 rfl (fun x1 => ?_)
    refine zx_lift (pc' := 23) (fun _ => zq_aload_n rfl rfl dX12_takeStar_22 rfl) ?_
    refine zx_lift (pc' := 24) (fun _ => zq_dup rfl dX12_takeStar_23 rfl) ?_
    refine zx_lift (pc' := 27) (fun _ => zt_getI zfr_X12_159 zfd_57_18 dX12_takeStar_24 rfl) ?_
    refine zx_lift (pc' := 28) (fun _ => zq_iconst (v := 1) dX12_takeStar_27 rfl rfl) ?_
    refine zx_lift (pc' := 29) (fun _ => zq_iadd dX12_takeStar_28 rfl) ?_
    refine zx_putI (pc' := 32) zfr_X12_159 (fun _ => ⟨rfl, rfl⟩) zfd_57_18 dX12_takeStar_29 rfl (fun s2 => ?_)
    refine zx_lift (pc' := 33) (fun _ => zq_aload_n rfl rfl dX12_takeStar_32 rfl) ?_
    refine zx_lift (pc' := 35) (fun _ => zq_bipush (v := 9) dX12_takeStar_33 rfl rfl) ?_
    refine zx_cVi (pc' := 38) zcv_X12_182 (cX12_takeNumber_mc N (9 : Int32) s2) zob_57 rfl (by decide) (Nat.le_of_ble_eq_true rfl) dX12_takeStar_35 rfl rfl (fun r3 s4 => ?_)
    refine zx_lift (pc' := 39) (fun _ => zq_istore_n (ls' := [.ref 57, .int x1, .int r3]) rfl (by decide) rfl rfl dX12_takeStar_38 rfl) ?_
    refine zx_lift (pc' := 40) (fun _ => zq_iload_n rfl rfl dX12_takeStar_39 rfl) ?_
    refine zx_if_ne (pc' := 43) (tgt := 67) dX12_takeStar_40 rfl rfl (fun hc => ?_) (fun hc => ?_)
    · exact xX12_takeStar_j67_j N x1 r3 s4
    · refine zx_lift (pc' := 44) (fun _ => zq_aload_n rfl rfl dX12_takeStar_43 rfl) ?_
      refine zx_lift (pc' := 47) (fun _ => zt_getI zfr_X12_216 zfd_57_30 dX12_takeStar_44 rfl) ?_
      refine zx_lift (pc' := 48) (fun _ => zq_aload_n rfl rfl dX12_takeStar_47 rfl) ?_
      refine zx_lift (pc' := 51) (fun _ => zt_getI zfr_X12_176 zfd_57_19 dX12_takeStar_48 rfl) ?_
      refine zx_cSi (pc' := 54) zcs_X12_189 (cX12_has_mc N (zgf s4 57 30) (zgf s4 57 19) s4) rfl (by decide) (Nat.le_of_ble_eq_true rfl) dX12_takeStar_51 rfl rfl (fun r10 s11 => ?_)
      refine zx_if_eq (pc' := 57) (tgt := 67) dX12_takeStar_54 rfl rfl (fun hc => ?_) (fun hc => ?_)
      · exact xX12_takeStar_j67_j N x1 r3 s11
      · refine zx_lift (pc' := 58) (fun _ => zq_aload_n rfl rfl dX12_takeStar_57 rfl) ?_
        refine zx_lift (pc' := 59) (fun _ => zq_iconst (v := 3) dX12_takeStar_58 rfl rfl) ?_
        refine zx_lift (pc' := 60) (fun _ => zq_aload_n rfl rfl dX12_takeStar_59 rfl) ?_
        refine zx_lift (pc' := 63) (fun _ => zt_getI zfr_X12_173 zfd_57_20 dX12_takeStar_60 rfl) ?_
        refine zx_cVi (pc' := 66) zcv_X12_169 (cX12_fails_mc N (3 : Int32) (zgf s11 57 20) s11) zob_57 rfl (by decide) (Nat.le_of_ble_eq_true rfl) dX12_takeStar_63 rfl rfl (fun r12 s13 => ?_)
        refine zx_lift (pc' := 67) (fun _ => zq_istore_n (ls' := [.ref 57, .int x1, .int r12]) rfl (by decide) rfl rfl dX12_takeStar_66 rfl) ?_
        exact xX12_takeStar_j67_j N x1 r12 s13
  · refine zx_lift (pc' := 8) (fun _ => zq_aload_n rfl rfl dX12_takeStar_7 rfl) ?_
    refine zx_lift (pc' := 9) (fun _ => zq_iconst (v := 1) dX12_takeStar_8 rfl rfl) ?_
    refine zx_lift (pc' := 10) (fun _ => zq_aload_n rfl rfl dX12_takeStar_9 rfl) ?_
    refine zx_lift (pc' := 13) (fun _ => zt_getI zfr_X12_159 zfd_57_18 dX12_takeStar_10 rfl) ?_
    refine zx_cVi (pc' := 16) zcv_X12_169 (cX12_fails_mc N (1 : Int32) (zgf s 57 18) s) zob_57 rfl (by decide) (Nat.le_of_ble_eq_true rfl) dX12_takeStar_13 rfl rfl (fun r14 s15 => ?_)
    exact zx_iret rfl dX12_takeStar_16
theorem cX12_takeStar_mc (N : Nat)   (s : zq_S) (v : Int32 × zq_S) (h : mX12_takeStar N s = some v) : zq_MC yX12_takeStar cX12_takeStar 3 (some .int) ⟨2, 0, 0, 47⟩ 0 0 [.ref 57] (zq_en s) (zv_i v.1, zq_en v.2) := zq_MC_x [.ref 57, .null, .null] (by decide +kernel) rfl rfl (Nat.le_of_ble_eq_true rfl) (xX12_takeStar N s) h
def jX12_takeItem_j23 (N : Nat)   (w1 : Int32) (s : zq_S) : Option (Int32 × zq_S) :=
  zq_let (if w1 = (123 : Int32) then (1 : Int32) else (if w1 = (91 : Int32) then (2 : Int32) else (3 : Int32))) (fun x3 =>
  zq_b2 (mX12_takeOpen N x3 s) (fun r4 s5 =>
  some (r4, s5)))
set_option maxRecDepth 20000 in
set_option maxHeartbeats 2000000 in
theorem xX12_takeItem_j23_j (N : Nat)   (w1 : Int32) (s : zq_S) : zq_X yX12_takeItem RX12 cX12_takeItem 3 (some .int) ⟨4, 0, 0, 95⟩ zv_i 23 [.ref 57, .int w1, .null] [] s (jX12_takeItem_j23 N w1 s) := by
  unfold jX12_takeItem_j23
  refine zx_lift (pc' := 24) (fun _ => zq_aload_n rfl rfl dX12_takeItem_23 rfl) ?_
  refine zx_lift (pc' := 25) (fun _ => zq_iload_n rfl rfl dX12_takeItem_24 rfl) ?_
  refine zx_lift (pc' := 27) (fun _ => zq_bipush (v := 123) dX12_takeItem_25 rfl rfl) ?_
  refine zx_tern (pcJ := 45) (lsJ := fun x3 => [.null, .null, .null]) (stJ := fun x3 => [.int x3, .ref 57]) (fun x3 => ?_) (fun f hJ => ?_)
  rotate_left
  · refine zx_licmp_ne (pc' := 30) (tgt := 34) dX12_takeItem_27 rfl rfl (fun _ => ?_) (fun _ => ?_)
    · refine zx_lift (pc' := 35) (fun _ => zq_iload_n rfl rfl dX12_takeItem_34 rfl) ?_
      refine zx_lift (pc' := 37) (fun _ => zq_bipush (v := 91) dX12_takeItem_35 rfl rfl) ?_
      refine zx_licmp_ne (pc' := 40) (tgt := 44) dX12_takeItem_37 rfl rfl (fun _ => ?_) (fun _ => ?_)
      · refine zx_lift (pc' := 45) (fun _ => zq_iconst (v := 3) dX12_takeItem_44 rfl rfl) ?_
        exact zx_lessJ (zq_cz (zq_cz (zq_cz zq_cn))) (hJ _)
      · refine zx_lift (pc' := 41) (fun _ => zq_iconst (v := 2) dX12_takeItem_40 rfl rfl) ?_
        refine zx_lift (pc' := 45) (fun _ => zq_goto dX12_takeItem_41 rfl) ?_
        exact zx_lessJ (zq_cz (zq_cz (zq_cz zq_cn))) (hJ _)
    · refine zx_lift (pc' := 31) (fun _ => zq_iconst (v := 1) dX12_takeItem_30 rfl rfl) ?_
      refine zx_lift (pc' := 45) (fun _ => zq_goto dX12_takeItem_31 rfl) ?_
      exact zx_lessJ (zq_cz (zq_cz (zq_cz zq_cn))) (hJ _)
  refine zx_cVi (pc' := 48) zcv_X12_222 (cX12_takeOpen_mc N x3 s) zob_57 rfl (by decide) (Nat.le_of_ble_eq_true rfl) dX12_takeItem_45 rfl rfl (fun r4 s5 => ?_)
  exact zx_iret rfl dX12_takeItem_48
def jX12_takeItem_j67 (N : Nat)   (w1 : Int32) (s : zq_S) : Option (Int32 × zq_S) :=
  zq_let (if w1 = (125 : Int32) then (1 : Int32) else (if w1 = (93 : Int32) then (2 : Int32) else (3 : Int32))) (fun x6 =>
  zq_b2 (mX12_takeClose N x6 s) (fun r7 s8 =>
  some (r7, s8)))
set_option maxRecDepth 20000 in
set_option maxHeartbeats 2000000 in
theorem xX12_takeItem_j67_j (N : Nat)   (w1 : Int32) (s : zq_S) : zq_X yX12_takeItem RX12 cX12_takeItem 3 (some .int) ⟨4, 0, 0, 95⟩ zv_i 67 [.ref 57, .int w1, .null] [] s (jX12_takeItem_j67 N w1 s) := by
  unfold jX12_takeItem_j67
  refine zx_lift (pc' := 68) (fun _ => zq_aload_n rfl rfl dX12_takeItem_67 rfl) ?_
  refine zx_lift (pc' := 69) (fun _ => zq_iload_n rfl rfl dX12_takeItem_68 rfl) ?_
  refine zx_lift (pc' := 71) (fun _ => zq_bipush (v := 125) dX12_takeItem_69 rfl rfl) ?_
  refine zx_tern (pcJ := 89) (lsJ := fun x6 => [.null, .null, .null]) (stJ := fun x6 => [.int x6, .ref 57]) (fun x6 => ?_) (fun f hJ => ?_)
  rotate_left
  · refine zx_licmp_ne (pc' := 74) (tgt := 78) dX12_takeItem_71 rfl rfl (fun _ => ?_) (fun _ => ?_)
    · refine zx_lift (pc' := 79) (fun _ => zq_iload_n rfl rfl dX12_takeItem_78 rfl) ?_
      refine zx_lift (pc' := 81) (fun _ => zq_bipush (v := 93) dX12_takeItem_79 rfl rfl) ?_
      refine zx_licmp_ne (pc' := 84) (tgt := 88) dX12_takeItem_81 rfl rfl (fun _ => ?_) (fun _ => ?_)
      · refine zx_lift (pc' := 89) (fun _ => zq_iconst (v := 3) dX12_takeItem_88 rfl rfl) ?_
        exact zx_lessJ (zq_cz (zq_cz (zq_cz zq_cn))) (hJ _)
      · refine zx_lift (pc' := 85) (fun _ => zq_iconst (v := 2) dX12_takeItem_84 rfl rfl) ?_
        refine zx_lift (pc' := 89) (fun _ => zq_goto dX12_takeItem_85 rfl) ?_
        exact zx_lessJ (zq_cz (zq_cz (zq_cz zq_cn))) (hJ _)
    · refine zx_lift (pc' := 75) (fun _ => zq_iconst (v := 1) dX12_takeItem_74 rfl rfl) ?_
      refine zx_lift (pc' := 89) (fun _ => zq_goto dX12_takeItem_75 rfl) ?_
      exact zx_lessJ (zq_cz (zq_cz (zq_cz zq_cn))) (hJ _)
  refine zx_cVi (pc' := 92) zcv_X12_225 (cX12_takeClose_mc N x6 s) zob_57 rfl (by decide) (Nat.le_of_ble_eq_true rfl) dX12_takeItem_89 rfl rfl (fun r7 s8 => ?_)
  exact zx_iret rfl dX12_takeItem_92
def mX12_takeItem (N : Nat)   (s : zq_S) : Option (Int32 × zq_S) :=
  zq_b2 (mX12_here N s) (fun r1 s2 =>
  if r1 = (123 : Int32) then
  jX12_takeItem_j23 N r1 s2
  else
  if r1 = (91 : Int32) then
  jX12_takeItem_j23 N r1 s2
  else
  if r1 = (60 : Int32) then
  jX12_takeItem_j23 N r1 s2
  else
  if r1 = (125 : Int32) then
  jX12_takeItem_j67 N r1 s2
  else
  if r1 = (93 : Int32) then
  jX12_takeItem_j67 N r1 s2
  else
  if r1 = (62 : Int32) then
  jX12_takeItem_j67 N r1 s2
  else
  if r1 = (42 : Int32) then
  zq_b2 (mX12_takeStar N s2) (fun r16 s17 =>
  some (r16, s17))
  else
  if r1 = (40 : Int32) then
  zq_b2 (mX12_takeRow N s2) (fun r14 s15 =>
  some (r14, s15))
  else
  zq_b2 (mX12_takeWord N s2) (fun r9 s10 =>
  zq_b2 (mX12_addSign N (0 : Int32) (zgf s10 57 19) (0 : Int32) (zgf s10 57 20) s10) (fun r11 s12 =>
  zq_let (zpf s12 57 34 (0 : Int32)) (fun s13 =>
  some (r9, s13)))))
set_option maxRecDepth 20000 in
set_option maxHeartbeats 2000000 in
theorem xX12_takeItem (N : Nat)   (s : zq_S) : zq_X yX12_takeItem RX12 cX12_takeItem 3 (some .int) ⟨4, 0, 0, 95⟩ zv_i 0 [.ref 57, .null, .null] [] s (mX12_takeItem N s) := by
  unfold mX12_takeItem
  refine zx_lift (pc' := 1) (fun _ => zq_aload_n rfl rfl dX12_takeItem_0 rfl) ?_
  refine zx_cVi (pc' := 4) zcv_X12_162 (cX12_here_mc N s) zob_57 rfl (by decide) (Nat.le_of_ble_eq_true rfl) dX12_takeItem_1 rfl rfl (fun r1 s2 => ?_)
  refine zx_lift (pc' := 5) (fun _ => zq_istore_n (ls' := [.ref 57, .int r1, .null]) rfl (by decide) rfl rfl dX12_takeItem_4 rfl) ?_
  refine zx_lift (pc' := 6) (fun _ => zq_iload_n rfl rfl dX12_takeItem_5 rfl) ?_
  refine zx_lift (pc' := 8) (fun _ => zq_bipush (v := 123) dX12_takeItem_6 rfl rfl) ?_
  refine zx_icmp_eq (pc' := 11) (tgt := 23) dX12_takeItem_8 rfl rfl (fun hc => ?_) (fun hc => ?_)
  · exact xX12_takeItem_j23_j N r1 s2
  · refine zx_lift (pc' := 12) (fun _ => zq_iload_n rfl rfl dX12_takeItem_11 rfl) ?_
    refine zx_lift (pc' := 14) (fun _ => zq_bipush (v := 91) dX12_takeItem_12 rfl rfl) ?_
    refine zx_icmp_eq (pc' := 17) (tgt := 23) dX12_takeItem_14 rfl rfl (fun hc => ?_) (fun hc => ?_)
    · exact xX12_takeItem_j23_j N r1 s2
    · refine zx_lift (pc' := 18) (fun _ => zq_iload_n rfl rfl dX12_takeItem_17 rfl) ?_
      refine zx_lift (pc' := 20) (fun _ => zq_bipush (v := 60) dX12_takeItem_18 rfl rfl) ?_
      refine zx_icmp_ne (pc' := 23) (tgt := 49) dX12_takeItem_20 rfl rfl (fun hc => ?_) (fun hc => ?_)
      · refine zx_lift (pc' := 50) (fun _ => zq_iload_n rfl rfl dX12_takeItem_49 rfl) ?_
        refine zx_lift (pc' := 52) (fun _ => zq_bipush (v := 125) dX12_takeItem_50 rfl rfl) ?_
        refine zx_icmp_eq (pc' := 55) (tgt := 67) dX12_takeItem_52 rfl rfl (fun hc => ?_) (fun hc => ?_)
        · exact xX12_takeItem_j67_j N r1 s2
        · refine zx_lift (pc' := 56) (fun _ => zq_iload_n rfl rfl dX12_takeItem_55 rfl) ?_
          refine zx_lift (pc' := 58) (fun _ => zq_bipush (v := 93) dX12_takeItem_56 rfl rfl) ?_
          refine zx_icmp_eq (pc' := 61) (tgt := 67) dX12_takeItem_58 rfl rfl (fun hc => ?_) (fun hc => ?_)
          · exact xX12_takeItem_j67_j N r1 s2
          · refine zx_lift (pc' := 62) (fun _ => zq_iload_n rfl rfl dX12_takeItem_61 rfl) ?_
            refine zx_lift (pc' := 64) (fun _ => zq_bipush (v := 62) dX12_takeItem_62 rfl rfl) ?_
            refine zx_icmp_ne (pc' := 67) (tgt := 93) dX12_takeItem_64 rfl rfl (fun hc => ?_) (fun hc => ?_)
            · refine zx_lift (pc' := 94) (fun _ => zq_iload_n rfl rfl dX12_takeItem_93 rfl) ?_
              refine zx_lift (pc' := 96) (fun _ => zq_bipush (v := 42) dX12_takeItem_94 rfl rfl) ?_
              refine zx_icmp_ne (pc' := 99) (tgt := 104) dX12_takeItem_96 rfl rfl (fun hc => ?_) (fun hc => ?_)
              · refine zx_lift (pc' := 105) (fun _ => zq_iload_n rfl rfl dX12_takeItem_104 rfl) ?_
                refine zx_lift (pc' := 107) (fun _ => zq_bipush (v := 40) dX12_takeItem_105 rfl rfl) ?_
                refine zx_icmp_ne (pc' := 110) (tgt := 115) dX12_takeItem_107 rfl rfl (fun hc => ?_) (fun hc => ?_)
                · refine zx_lift (pc' := 116) (fun _ => zq_aload_n rfl rfl dX12_takeItem_115 rfl) ?_
                  refine zx_cVi (pc' := 119) zcv_X12_219 (cX12_takeWord_mc N s2) zob_57 rfl (by decide) (Nat.le_of_ble_eq_true rfl) dX12_takeItem_116 rfl rfl (fun r9 s10 => ?_)
                  refine zx_lift (pc' := 120) (fun _ => zq_istore_n (ls' := [.ref 57, .int r1, .int r9]) rfl (by decide) rfl rfl dX12_takeItem_119 rfl) ?_
                  refine zx_lift (pc' := 121) (fun _ => zq_aload_n rfl rfl dX12_takeItem_120 rfl) ?_
                  refine zx_lift (pc' := 122) (fun _ => zq_iconst (v := 0) dX12_takeItem_121 rfl rfl) ?_
                  refine zx_lift (pc' := 123) (fun _ => zq_aload_n rfl rfl dX12_takeItem_122 rfl) ?_
                  refine zx_lift (pc' := 126) (fun _ => zt_getI zfr_X12_176 zfd_57_19 dX12_takeItem_123 rfl) ?_
                  refine zx_lift (pc' := 127) (fun _ => zq_iconst (v := 0) dX12_takeItem_126 rfl rfl) ?_
                  refine zx_lift (pc' := 128) (fun _ => zq_aload_n rfl rfl dX12_takeItem_127 rfl) ?_
                  refine zx_lift (pc' := 131) (fun _ => zt_getI zfr_X12_173 zfd_57_20 dX12_takeItem_128 rfl) ?_
                  refine zx_cVv (pc' := 134) zcv_X12_208 (cX12_addSign_mc N (0 : Int32) (zgf s10 57 19) (0 : Int32) (zgf s10 57 20) s10) zob_57 rfl (by decide) (Nat.le_of_ble_eq_true rfl) dX12_takeItem_131 rfl rfl (fun r11 s12 => ?_)
                  refine zx_lift (pc' := 135) (fun _ => zq_aload_n rfl rfl dX12_takeItem_134 rfl) ?_
                  refine zx_lift (pc' := 136) (fun _ => zq_iconst (v := 0) dX12_takeItem_135 rfl rfl) ?_
                  refine zx_putI (pc' := 139) zfr_X12_212 (fun _ => ⟨by decide, rfl⟩) zfd_57_34 dX12_takeItem_136 rfl (fun s13 => ?_)
                  refine zx_lift (pc' := 140) (fun _ => zq_iload_n rfl rfl dX12_takeItem_139 rfl) ?_
                  exact zx_iret rfl dX12_takeItem_140
                · refine zx_lift (pc' := 111) (fun _ => zq_aload_n rfl rfl dX12_takeItem_110 rfl) ?_
                  refine zx_cVi (pc' := 114) zcv_X12_231 (cX12_takeRow_mc N s2) zob_57 rfl (by decide) (Nat.le_of_ble_eq_true rfl) dX12_takeItem_111 rfl rfl (fun r14 s15 => ?_)
                  exact zx_iret rfl dX12_takeItem_114
              · refine zx_lift (pc' := 100) (fun _ => zq_aload_n rfl rfl dX12_takeItem_99 rfl) ?_
                refine zx_cVi (pc' := 103) zcv_X12_228 (cX12_takeStar_mc N s2) zob_57 rfl (by decide) (Nat.le_of_ble_eq_true rfl) dX12_takeItem_100 rfl rfl (fun r16 s17 => ?_)
                exact zx_iret rfl dX12_takeItem_103
            · exact xX12_takeItem_j67_j N r1 s2
      · exact xX12_takeItem_j23_j N r1 s2
theorem cX12_takeItem_mc (N : Nat)   (s : zq_S) (v : Int32 × zq_S) (h : mX12_takeItem N s = some v) : zq_MC yX12_takeItem cX12_takeItem 3 (some .int) ⟨4, 0, 0, 95⟩ 0 0 [.ref 57] (zq_en s) (zv_i v.1, zq_en v.2) := zq_MC_x [.ref 57, .null, .null] (by decide +kernel) rfl rfl (Nat.le_of_ble_eq_true rfl) (xX12_takeItem N s) h
def jX12_checkMarks_j73 (N : Nat)   (k82 : Int32 × zq_S → Option (Int32 × zq_S)) (k101 : zq_S → Option (Int32 × zq_S)) (self : Int32 × zq_S → Option (Int32 × zq_S)) (w1 : Int32) (w2 : Int32) (t0 : Int32) (s : zq_S) : Option (Int32 × zq_S) :=
  if w2 = (0 : Int32) then
  if t0 = (0 : Int32) then
  zq_let (w1 + (1 : Int32)) (fun x1 =>
  self (x1, s))
  else
  k82 (w1, s)
  else
  k82 (w1, s)
set_option maxRecDepth 20000 in
set_option maxHeartbeats 2000000 in
theorem xX12_checkMarks_j73_j (N : Nat)   (k82 : Int32 × zq_S → Option (Int32 × zq_S)) (hk82 : ∀ e, zq_X yX12_checkMarks RX12 cX12_checkMarks 4 (some .int) ⟨1, 0, 0, 22⟩ zv_i 82 [.ref 57, .int e.1, .null, .null] [] e.2 (k82 e)) (k101 : zq_S → Option (Int32 × zq_S)) (hk101 : ∀ e, zq_X yX12_checkMarks RX12 cX12_checkMarks 4 (some .int) ⟨1, 0, 0, 22⟩ zv_i 101 [.ref 57, .null, .null, .null] [] e (k101 e)) (self : Int32 × zq_S → Option (Int32 × zq_S)) (hself : ∀ v, zq_X yX12_checkMarks RX12 cX12_checkMarks 4 (some .int) ⟨1, 0, 0, 22⟩ zv_i 2 [.ref 57, .int v.1, .null, .null] [] v.2 (self v)) (w1 : Int32) (w2 : Int32) (t0 : Int32) (s : zq_S) : zq_X yX12_checkMarks RX12 cX12_checkMarks 4 (some .int) ⟨1, 0, 0, 22⟩ zv_i 73 [.ref 57, .int w1, .int w2, .null] [.int t0] s (jX12_checkMarks_j73 N k82 k101 self w1 w2 t0 s) := by
  unfold jX12_checkMarks_j73
  refine zx_lift (pc' := 74) (fun _ => zq_istore_n (ls' := [.ref 57, .int w1, .int w2, .int t0]) rfl (by decide) rfl rfl dX12_checkMarks_73 rfl) ?_
  refine zx_lift (pc' := 75) (fun _ => zq_iload_n rfl rfl dX12_checkMarks_74 rfl) ?_
  refine zx_if_ne (pc' := 78) (tgt := 82) dX12_checkMarks_75 rfl rfl (fun hc => ?_) (fun hc => ?_)
  · refine zx_less [.ref 57, .int w1, .null, .null] (zq_cr (zq_cr (zq_cz (zq_cz zq_cn)))) ?_
    exact hk82 (w1, s)
  · refine zx_lift (pc' := 79) (fun _ => zq_iload_n rfl rfl dX12_checkMarks_78 rfl) ?_
    refine zx_if_eq (pc' := 82) (tgt := 95) dX12_checkMarks_79 rfl rfl (fun hc => ?_) (fun hc => ?_)
    · refine zx_iinc (pc' := 98) (ls' := fun x1 => [.ref 57, .int x1, .int w2, .int t0]) rfl rfl (by decide) rfl (fun _ => rfl) dX12_checkMarks_95 rfl (fun x1 => ?_)
      refine zx_lift (pc' := 2) (fun _ => zq_goto dX12_checkMarks_98 rfl) ?_
      refine zx_less [.ref 57, .int x1, .null, .null] (zq_cr (zq_cr (zq_cz (zq_cz zq_cn)))) ?_
      exact hself (x1, s)
    · refine zx_less [.ref 57, .int w1, .null, .null] (zq_cr (zq_cr (zq_cz (zq_cz zq_cn)))) ?_
      exact hk82 (w1, s)
def jX12_checkMarks_j72 (N : Nat)   (k82 : Int32 × zq_S → Option (Int32 × zq_S)) (k101 : zq_S → Option (Int32 × zq_S)) (self : Int32 × zq_S → Option (Int32 × zq_S)) (w1 : Int32) (w2 : Int32) (s : zq_S) : Option (Int32 × zq_S) :=
  jX12_checkMarks_j73 N k82 k101 self w1 w2 (0 : Int32) s
set_option maxRecDepth 20000 in
set_option maxHeartbeats 2000000 in
theorem xX12_checkMarks_j72_j (N : Nat)   (k82 : Int32 × zq_S → Option (Int32 × zq_S)) (hk82 : ∀ e, zq_X yX12_checkMarks RX12 cX12_checkMarks 4 (some .int) ⟨1, 0, 0, 22⟩ zv_i 82 [.ref 57, .int e.1, .null, .null] [] e.2 (k82 e)) (k101 : zq_S → Option (Int32 × zq_S)) (hk101 : ∀ e, zq_X yX12_checkMarks RX12 cX12_checkMarks 4 (some .int) ⟨1, 0, 0, 22⟩ zv_i 101 [.ref 57, .null, .null, .null] [] e (k101 e)) (self : Int32 × zq_S → Option (Int32 × zq_S)) (hself : ∀ v, zq_X yX12_checkMarks RX12 cX12_checkMarks 4 (some .int) ⟨1, 0, 0, 22⟩ zv_i 2 [.ref 57, .int v.1, .null, .null] [] v.2 (self v)) (w1 : Int32) (w2 : Int32) (s : zq_S) : zq_X yX12_checkMarks RX12 cX12_checkMarks 4 (some .int) ⟨1, 0, 0, 22⟩ zv_i 72 [.ref 57, .int w1, .int w2, .null] [] s (jX12_checkMarks_j72 N k82 k101 self w1 w2 s) := by
  unfold jX12_checkMarks_j72
  refine zx_lift (pc' := 73) (fun _ => zq_iconst (v := 0) dX12_checkMarks_72 rfl rfl) ?_
  exact xX12_checkMarks_j73_j N k82 hk82 k101 hk101 self hself w1 w2 (0 : Int32) s
def jX12_checkMarks_j41 (N : Nat)   (k82 : Int32 × zq_S → Option (Int32 × zq_S)) (k101 : zq_S → Option (Int32 × zq_S)) (self : Int32 × zq_S → Option (Int32 × zq_S)) (w1 : Int32) (t0 : Int32) (s : zq_S) : Option (Int32 × zq_S) :=
  zq_ck w1 400 (
  if (zga s 71 w1) = (3 : Int32) then
  zq_ck w1 400 (
  zq_b2 (mX12_has N (zgf s 57 30) (zga s 72 w1) s) (fun r2 s3 =>
  if r2 = (0 : Int32) then
  jX12_checkMarks_j73 N k82 k101 self w1 t0 (1 : Int32) s3
  else
  jX12_checkMarks_j72 N k82 k101 self w1 t0 s3))
  else
  jX12_checkMarks_j72 N k82 k101 self w1 t0 s)
set_option maxRecDepth 20000 in
set_option maxHeartbeats 2000000 in
theorem xX12_checkMarks_j41_j (N : Nat)   (k82 : Int32 × zq_S → Option (Int32 × zq_S)) (hk82 : ∀ e, zq_X yX12_checkMarks RX12 cX12_checkMarks 4 (some .int) ⟨1, 0, 0, 22⟩ zv_i 82 [.ref 57, .int e.1, .null, .null] [] e.2 (k82 e)) (k101 : zq_S → Option (Int32 × zq_S)) (hk101 : ∀ e, zq_X yX12_checkMarks RX12 cX12_checkMarks 4 (some .int) ⟨1, 0, 0, 22⟩ zv_i 101 [.ref 57, .null, .null, .null] [] e (k101 e)) (self : Int32 × zq_S → Option (Int32 × zq_S)) (hself : ∀ v, zq_X yX12_checkMarks RX12 cX12_checkMarks 4 (some .int) ⟨1, 0, 0, 22⟩ zv_i 2 [.ref 57, .int v.1, .null, .null] [] v.2 (self v)) (w1 : Int32) (t0 : Int32) (s : zq_S) : zq_X yX12_checkMarks RX12 cX12_checkMarks 4 (some .int) ⟨1, 0, 0, 22⟩ zv_i 41 [.ref 57, .int w1, .null, .null] [.int t0] s (jX12_checkMarks_j41 N k82 k101 self w1 t0 s) := by
  unfold jX12_checkMarks_j41
  refine zx_lift (pc' := 42) (fun _ => zq_istore_n (ls' := [.ref 57, .int w1, .int t0, .null]) rfl (by decide) rfl rfl dX12_checkMarks_41 rfl) ?_
  refine zx_lift (pc' := 43) (fun _ => zq_aload_n rfl rfl dX12_checkMarks_42 rfl) ?_
  refine zx_lift (pc' := 46) (fun _ => zt_getR zfr_X12_54 zfd_57_22 dX12_checkMarks_43 rfl) ?_
  refine zx_lift (pc' := 47) (fun _ => zq_iload_n rfl rfl dX12_checkMarks_46 rfl) ?_
  refine zx_iaload (pc' := 48) zsh_71 dX12_checkMarks_47 rfl ?_
  refine zx_lift (pc' := 49) (fun _ => zq_iconst (v := 3) dX12_checkMarks_48 rfl rfl) ?_
  refine zx_icmp_ne (pc' := 52) (tgt := 72) dX12_checkMarks_49 rfl rfl (fun hc => ?_) (fun hc => ?_)
  · exact xX12_checkMarks_j72_j N k82 hk82 k101 hk101 self hself w1 t0 s
  · refine zx_lift (pc' := 53) (fun _ => zq_aload_n rfl rfl dX12_checkMarks_52 rfl) ?_
    refine zx_lift (pc' := 56) (fun _ => zt_getI zfr_X12_216 zfd_57_30 dX12_checkMarks_53 rfl) ?_
    refine zx_lift (pc' := 57) (fun _ => zq_aload_n rfl rfl dX12_checkMarks_56 rfl) ?_
    refine zx_lift (pc' := 60) (fun _ => zt_getR zfr_X12_57 zfd_57_23 dX12_checkMarks_57 rfl) ?_
    refine zx_lift (pc' := 61) (fun _ => zq_iload_n rfl rfl dX12_checkMarks_60 rfl) ?_
    refine zx_iaload (pc' := 62) zsh_72 dX12_checkMarks_61 rfl ?_
    refine zx_cSi (pc' := 65) zcs_X12_189 (cX12_has_mc N (zgf s 57 30) (zga s 72 w1) s) rfl (by decide) (Nat.le_of_ble_eq_true rfl) dX12_checkMarks_62 rfl rfl (fun r2 s3 => ?_)
    refine zx_if_ne (pc' := 68) (tgt := 72) dX12_checkMarks_65 rfl rfl (fun hc => ?_) (fun hc => ?_)
    · exact xX12_checkMarks_j72_j N k82 hk82 k101 hk101 self hself w1 t0 s3
    · refine zx_lift (pc' := 69) (fun _ => zq_iconst (v := 1) dX12_checkMarks_68 rfl rfl) ?_
      refine zx_lift (pc' := 73) (fun _ => zq_goto dX12_checkMarks_69 rfl) ?_
      exact xX12_checkMarks_j73_j N k82 hk82 k101 hk101 self hself w1 t0 (1 : Int32) s3
def jX12_checkMarks_j40 (N : Nat)   (k82 : Int32 × zq_S → Option (Int32 × zq_S)) (k101 : zq_S → Option (Int32 × zq_S)) (self : Int32 × zq_S → Option (Int32 × zq_S)) (w1 : Int32) (s : zq_S) : Option (Int32 × zq_S) :=
  jX12_checkMarks_j41 N k82 k101 self w1 (0 : Int32) s
set_option maxRecDepth 20000 in
set_option maxHeartbeats 2000000 in
theorem xX12_checkMarks_j40_j (N : Nat)   (k82 : Int32 × zq_S → Option (Int32 × zq_S)) (hk82 : ∀ e, zq_X yX12_checkMarks RX12 cX12_checkMarks 4 (some .int) ⟨1, 0, 0, 22⟩ zv_i 82 [.ref 57, .int e.1, .null, .null] [] e.2 (k82 e)) (k101 : zq_S → Option (Int32 × zq_S)) (hk101 : ∀ e, zq_X yX12_checkMarks RX12 cX12_checkMarks 4 (some .int) ⟨1, 0, 0, 22⟩ zv_i 101 [.ref 57, .null, .null, .null] [] e (k101 e)) (self : Int32 × zq_S → Option (Int32 × zq_S)) (hself : ∀ v, zq_X yX12_checkMarks RX12 cX12_checkMarks 4 (some .int) ⟨1, 0, 0, 22⟩ zv_i 2 [.ref 57, .int v.1, .null, .null] [] v.2 (self v)) (w1 : Int32) (s : zq_S) : zq_X yX12_checkMarks RX12 cX12_checkMarks 4 (some .int) ⟨1, 0, 0, 22⟩ zv_i 40 [.ref 57, .int w1, .null, .null] [] s (jX12_checkMarks_j40 N k82 k101 self w1 s) := by
  unfold jX12_checkMarks_j40
  refine zx_lift (pc' := 41) (fun _ => zq_iconst (v := 0) dX12_checkMarks_40 rfl rfl) ?_
  exact xX12_checkMarks_j41_j N k82 hk82 k101 hk101 self hself w1 (0 : Int32) s
def bX12_checkMarks_2 (N : Nat)   (k82 : Int32 × zq_S → Option (Int32 × zq_S)) (k101 : zq_S → Option (Int32 × zq_S)) (self : Int32 × zq_S → Option (Int32 × zq_S)) (v : Int32 × zq_S) : Option (Int32 × zq_S) :=
  if (zgf v.2 57 21) ≤ v.1 then
  k101 v.2
  else
  zq_ck v.1 400 (
  if (zga v.2 71 v.1) = (5 : Int32) then
  zq_ck v.1 400 (
  zq_b2 (mX12_has N (zgf v.2 57 29) (zga v.2 72 v.1) v.2) (fun r4 s5 =>
  if r4 = (0 : Int32) then
  jX12_checkMarks_j41 N k82 k101 self v.1 (1 : Int32) s5
  else
  jX12_checkMarks_j40 N k82 k101 self v.1 s5))
  else
  jX12_checkMarks_j40 N k82 k101 self v.1 v.2)
set_option maxRecDepth 20000 in
set_option maxHeartbeats 2000000 in
theorem xX12_checkMarks_2 (N : Nat)   (k82 : Int32 × zq_S → Option (Int32 × zq_S)) (hk82 : ∀ e, zq_X yX12_checkMarks RX12 cX12_checkMarks 4 (some .int) ⟨1, 0, 0, 22⟩ zv_i 82 [.ref 57, .int e.1, .null, .null] [] e.2 (k82 e)) (k101 : zq_S → Option (Int32 × zq_S)) (hk101 : ∀ e, zq_X yX12_checkMarks RX12 cX12_checkMarks 4 (some .int) ⟨1, 0, 0, 22⟩ zv_i 101 [.ref 57, .null, .null, .null] [] e (k101 e)) (self : Int32 × zq_S → Option (Int32 × zq_S)) (hself : ∀ v, zq_X yX12_checkMarks RX12 cX12_checkMarks 4 (some .int) ⟨1, 0, 0, 22⟩ zv_i 2 [.ref 57, .int v.1, .null, .null] [] v.2 (self v)) (v : Int32 × zq_S) : zq_X yX12_checkMarks RX12 cX12_checkMarks 4 (some .int) ⟨1, 0, 0, 22⟩ zv_i 2 [.ref 57, .int v.1, .null, .null] [] v.2 (bX12_checkMarks_2 N k82 k101 self v) := by
  unfold bX12_checkMarks_2
  refine zx_lift (pc' := 3) (fun _ => zq_iload_n rfl rfl dX12_checkMarks_2 rfl) ?_
  refine zx_lift (pc' := 4) (fun _ => zq_aload_n rfl rfl dX12_checkMarks_3 rfl) ?_
  refine zx_lift (pc' := 7) (fun _ => zt_getI zfr_X12_179 zfd_57_21 dX12_checkMarks_4 rfl) ?_
  refine zx_icmp_ge (pc' := 10) (tgt := 101) dX12_checkMarks_7 rfl rfl (fun hc => ?_) (fun hc => ?_)
  · refine zx_less [.ref 57, .null, .null, .null] (zq_cr (zq_cz (zq_cz (zq_cz zq_cn)))) ?_
    exact hk101 v.2
  · refine zx_lift (pc' := 11) (fun _ => zq_aload_n rfl rfl dX12_checkMarks_10 rfl) ?_
    refine zx_lift (pc' := 14) (fun _ => zt_getR zfr_X12_54 zfd_57_22 dX12_checkMarks_11 rfl) ?_
    refine zx_lift (pc' := 15) (fun _ => zq_iload_n rfl rfl dX12_checkMarks_14 rfl) ?_
    refine zx_iaload (pc' := 16) zsh_71 dX12_checkMarks_15 rfl ?_
    refine zx_lift (pc' := 17) (fun _ => zq_iconst (v := 5) dX12_checkMarks_16 rfl rfl) ?_
    refine zx_icmp_ne (pc' := 20) (tgt := 40) dX12_checkMarks_17 rfl rfl (fun hc => ?_) (fun hc => ?_)
    · exact xX12_checkMarks_j40_j N k82 hk82 k101 hk101 self hself v.1 v.2
    · refine zx_lift (pc' := 21) (fun _ => zq_aload_n rfl rfl dX12_checkMarks_20 rfl) ?_
      refine zx_lift (pc' := 24) (fun _ => zt_getI zfr_X12_205 zfd_57_29 dX12_checkMarks_21 rfl) ?_
      refine zx_lift (pc' := 25) (fun _ => zq_aload_n rfl rfl dX12_checkMarks_24 rfl) ?_
      refine zx_lift (pc' := 28) (fun _ => zt_getR zfr_X12_57 zfd_57_23 dX12_checkMarks_25 rfl) ?_
      refine zx_lift (pc' := 29) (fun _ => zq_iload_n rfl rfl dX12_checkMarks_28 rfl) ?_
      refine zx_iaload (pc' := 30) zsh_72 dX12_checkMarks_29 rfl ?_
      refine zx_cSi (pc' := 33) zcs_X12_189 (cX12_has_mc N (zgf v.2 57 29) (zga v.2 72 v.1) v.2) rfl (by decide) (Nat.le_of_ble_eq_true rfl) dX12_checkMarks_30 rfl rfl (fun r4 s5 => ?_)
      refine zx_if_ne (pc' := 36) (tgt := 40) dX12_checkMarks_33 rfl rfl (fun hc => ?_) (fun hc => ?_)
      · exact xX12_checkMarks_j40_j N k82 hk82 k101 hk101 self hself v.1 s5
      · refine zx_lift (pc' := 37) (fun _ => zq_iconst (v := 1) dX12_checkMarks_36 rfl rfl) ?_
        refine zx_lift (pc' := 41) (fun _ => zq_goto dX12_checkMarks_37 rfl) ?_
        exact xX12_checkMarks_j41_j N k82 hk82 k101 hk101 self hself v.1 (1 : Int32) s5
theorem yX12_checkMarks_2 (N : Nat)   (k82 : Int32 × zq_S → Option (Int32 × zq_S)) (hk82 : ∀ e, zq_X yX12_checkMarks RX12 cX12_checkMarks 4 (some .int) ⟨1, 0, 0, 22⟩ zv_i 82 [.ref 57, .int e.1, .null, .null] [] e.2 (k82 e)) (k101 : zq_S → Option (Int32 × zq_S)) (hk101 : ∀ e, zq_X yX12_checkMarks RX12 cX12_checkMarks 4 (some .int) ⟨1, 0, 0, 22⟩ zv_i 101 [.ref 57, .null, .null, .null] [] e (k101 e)) (n : Nat) : ∀ v : Int32 × zq_S, zq_X yX12_checkMarks RX12 cX12_checkMarks 4 (some .int) ⟨1, 0, 0, 22⟩ zv_i 2 [.ref 57, .int v.1, .null, .null] [] v.2 (zq_loop (bX12_checkMarks_2 N k82 k101) n v) := by
  induction n with
  | zero => exact fun v u hu => by cases hu
  | succ n ih =>
    intro v
    rw [zq_loop_s]
    exact xX12_checkMarks_2 N k82 hk82 k101 hk101 (zq_loop (bX12_checkMarks_2 N k82 k101) n) ih v
def jX12_checkMarks_j82 (N : Nat)   (w1 : Int32) (s : zq_S) : Option (Int32 × zq_S) :=
  zq_ck w1 400 (
  zq_b2 (mX12_fails N (6 : Int32) (zga s 75 w1) s) (fun r7 s8 =>
  some (r7, s8)))
set_option maxRecDepth 20000 in
set_option maxHeartbeats 2000000 in
theorem xX12_checkMarks_j82_j (N : Nat)   (w1 : Int32) (s : zq_S) : zq_X yX12_checkMarks RX12 cX12_checkMarks 4 (some .int) ⟨1, 0, 0, 22⟩ zv_i 82 [.ref 57, .int w1, .null, .null] [] s (jX12_checkMarks_j82 N w1 s) := by
  unfold jX12_checkMarks_j82
  refine zx_lift (pc' := 83) (fun _ => zq_aload_n rfl rfl dX12_checkMarks_82 rfl) ?_
  refine zx_lift (pc' := 85) (fun _ => zq_bipush (v := 6) dX12_checkMarks_83 rfl rfl) ?_
  refine zx_lift (pc' := 86) (fun _ => zq_aload_n rfl rfl dX12_checkMarks_85 rfl) ?_
  refine zx_lift (pc' := 89) (fun _ => zt_getR zfr_X12_66 zfd_57_26 dX12_checkMarks_86 rfl) ?_
  refine zx_lift (pc' := 90) (fun _ => zq_iload_n rfl rfl dX12_checkMarks_89 rfl) ?_
  refine zx_iaload (pc' := 91) zsh_75 dX12_checkMarks_90 rfl ?_
  refine zx_cVi (pc' := 94) zcv_X12_169 (cX12_fails_mc N (6 : Int32) (zga s 75 w1) s) zob_57 rfl (by decide) (Nat.le_of_ble_eq_true rfl) dX12_checkMarks_91 rfl rfl (fun r7 s8 => ?_)
  exact zx_iret rfl dX12_checkMarks_94
def jX12_checkMarks_j129 (N : Nat)   (t0 : Int32) (s : zq_S) : Option (Int32 × zq_S) :=
  some (t0, s)
set_option maxRecDepth 20000 in
set_option maxHeartbeats 2000000 in
theorem xX12_checkMarks_j129_j (N : Nat)   (t0 : Int32) (s : zq_S) : zq_X yX12_checkMarks RX12 cX12_checkMarks 4 (some .int) ⟨1, 0, 0, 22⟩ zv_i 129 [.null, .null, .null, .null] [.int t0] s (jX12_checkMarks_j129 N t0 s) := by
  unfold jX12_checkMarks_j129
  exact zx_iret rfl dX12_checkMarks_129
def mX12_checkMarks (N : Nat)   (s : zq_S) : Option (Int32 × zq_S) :=
  zq_loop (bX12_checkMarks_2 N (fun e6 =>
  jX12_checkMarks_j82 N e6.1 e6.2) (fun e9 =>
  if ((zgf e9 57 28) &&& ((zgf e9 57 28) + (1 : Int32))) = (0 : Int32) then
  jX12_checkMarks_j129 N (0 : Int32) e9
  else
  zq_b2 (mX12_fails N (7 : Int32) (zgf e9 57 16) e9) (fun r10 s11 =>
  jX12_checkMarks_j129 N r10 s11))) N ((0 : Int32), s)
set_option maxRecDepth 20000 in
set_option maxHeartbeats 2000000 in
theorem xX12_checkMarks (N : Nat)   (s : zq_S) : zq_X yX12_checkMarks RX12 cX12_checkMarks 4 (some .int) ⟨1, 0, 0, 22⟩ zv_i 0 [.ref 57, .null, .null, .null] [] s (mX12_checkMarks N s) := by
  unfold mX12_checkMarks
  refine zx_lift (pc' := 1) (fun _ => zq_iconst (v := 0) dX12_checkMarks_0 rfl rfl) ?_
  refine zx_lift (pc' := 2) (fun _ => zq_istore_n (ls' := [.ref 57, .int (0 : Int32), .null, .null]) rfl (by decide) rfl rfl dX12_checkMarks_1 rfl) ?_
  refine yX12_checkMarks_2 N _ (fun e6 => ?_) _ (fun e9 => ?_) N ((0 : Int32), s)
  · exact xX12_checkMarks_j82_j N e6.1 e6.2
  · refine zx_lift (pc' := 102) (fun _ => zq_aload_n rfl rfl dX12_checkMarks_101 rfl) ?_
    refine zx_lift (pc' := 105) (fun _ => zt_getI zfr_X12_186 zfd_57_28 dX12_checkMarks_102 rfl) ?_
    refine zx_lift (pc' := 106) (fun _ => zq_aload_n rfl rfl dX12_checkMarks_105 rfl) ?_
    refine zx_lift (pc' := 109) (fun _ => zt_getI zfr_X12_186 zfd_57_28 dX12_checkMarks_106 rfl) ?_
    refine zx_lift (pc' := 110) (fun _ => zq_iconst (v := 1) dX12_checkMarks_109 rfl rfl) ?_
    refine zx_lift (pc' := 111) (fun _ => zq_iadd dX12_checkMarks_110 rfl) ?_
    refine zx_lift (pc' := 112) (fun _ => zq_iand dX12_checkMarks_111 rfl) ?_
    refine zx_if_eq (pc' := 115) (tgt := 128) dX12_checkMarks_112 rfl rfl (fun hc => ?_) (fun hc => ?_)
    · refine zx_lift (pc' := 129) (fun _ => zq_iconst (v := 0) dX12_checkMarks_128 rfl rfl) ?_
      refine zx_less [.null, .null, .null, .null] (zq_cz (zq_cz (zq_cz (zq_cz zq_cn)))) ?_
      exact xX12_checkMarks_j129_j N (0 : Int32) e9
    · refine zx_lift (pc' := 116) (fun _ => zq_aload_n rfl rfl dX12_checkMarks_115 rfl) ?_
      refine zx_lift (pc' := 118) (fun _ => zq_bipush (v := 7) dX12_checkMarks_116 rfl rfl) ?_
      refine zx_lift (pc' := 119) (fun _ => zq_aload_n rfl rfl dX12_checkMarks_118 rfl) ?_
      refine zx_lift (pc' := 122) (fun _ => zt_getI zfr_X12_154 zfd_57_16 dX12_checkMarks_119 rfl) ?_
      refine zx_cVi (pc' := 125) zcv_X12_169 (cX12_fails_mc N (7 : Int32) (zgf e9 57 16) e9) zob_57 rfl (by decide) (Nat.le_of_ble_eq_true rfl) dX12_checkMarks_122 rfl rfl (fun r10 s11 => ?_)
      refine zx_lift (pc' := 129) (fun _ => zq_goto dX12_checkMarks_125 rfl) ?_
      refine zx_less [.null, .null, .null, .null] (zq_cz (zq_cz (zq_cz (zq_cz zq_cn)))) ?_
      exact xX12_checkMarks_j129_j N r10 s11
theorem cX12_checkMarks_mc (N : Nat)   (s : zq_S) (v : Int32 × zq_S) (h : mX12_checkMarks N s = some v) : zq_MC yX12_checkMarks cX12_checkMarks 4 (some .int) ⟨1, 0, 0, 22⟩ 0 0 [.ref 57] (zq_en s) (zv_i v.1, zq_en v.2) := zq_MC_x [.ref 57, .null, .null, .null] (by decide +kernel) rfl rfl (Nat.le_of_ble_eq_true rfl) (xX12_checkMarks N s) h
def mX12_setMark (N : Nat)  (p1 : Int32) (p2 : Int32) (p3 : Int32) (p4 : Int32) (s : zq_S) : Option (Unit × zq_S) :=
  zq_ck p1 10 (
  zq_let (zpa s 62 p1 p2) (fun s1 =>
  zq_ck p1 10 (
  zq_ck p1 10 (
  zq_let (zpa s1 64 p1 ((zga s1 64 p1) ||| p3)) (fun s2 =>
  zq_ck p1 10 (
  zq_let (zpa s2 67 p1 p4) (fun s3 =>
  some ((), s3))))))))
set_option maxRecDepth 20000 in
set_option maxHeartbeats 2000000 in
theorem xX12_setMark (N : Nat)  (p1 : Int32) (p2 : Int32) (p3 : Int32) (p4 : Int32) (s : zq_S) : zq_X yX12_setMark RX12 cX12_setMark 5 none ⟨0, 0, 0, 0⟩ zv_v 0 [.ref 57, .int p1, .int p2, .int p3, .int p4] [] s (mX12_setMark N p1 p2 p3 p4 s) := by
  unfold mX12_setMark
  refine zx_lift (pc' := 1) (fun _ => zq_aload_n rfl rfl dX12_setMark_0 rfl) ?_
  refine zx_lift (pc' := 4) (fun _ => zt_getR zfr_X12_22 zfd_57_7 dX12_setMark_1 rfl) ?_
  refine zx_lift (pc' := 5) (fun _ => zq_iload_n rfl rfl dX12_setMark_4 rfl) ?_
  refine zx_lift (pc' := 6) (fun _ => zq_iload_n rfl rfl dX12_setMark_5 rfl) ?_
  refine zx_iastore (pc' := 7) zsh_62 dX12_setMark_6 rfl (fun s1 => ?_)
  refine zx_lift (pc' := 8) (fun _ => zq_aload_n rfl rfl dX12_setMark_7 rfl) ?_
  refine zx_lift (pc' := 11) (fun _ => zt_getR zfr_X12_28 zfd_57_9 dX12_setMark_8 rfl) ?_
  refine zx_lift (pc' := 12) (fun _ => zq_iload_n rfl rfl dX12_setMark_11 rfl) ?_
  refine zx_lift (pc' := 13) (fun _ => zq_dup2 rfl rfl dX12_setMark_12 rfl) ?_
  refine zx_iaload (pc' := 14) zsh_64 dX12_setMark_13 rfl ?_
  refine zx_lift (pc' := 15) (fun _ => zq_iload_n rfl rfl dX12_setMark_14 rfl) ?_
  refine zx_lift (pc' := 16) (fun _ => zq_ior dX12_setMark_15 rfl) ?_
  refine zx_iastore (pc' := 17) zsh_64 dX12_setMark_16 rfl (fun s2 => ?_)
  refine zx_lift (pc' := 18) (fun _ => zq_aload_n rfl rfl dX12_setMark_17 rfl) ?_
  refine zx_lift (pc' := 21) (fun _ => zt_getR zfr_X12_37 zfd_57_12 dX12_setMark_18 rfl) ?_
  refine zx_lift (pc' := 22) (fun _ => zq_iload_n rfl rfl dX12_setMark_21 rfl) ?_
  refine zx_lift (pc' := 24) (fun _ => zq_iload rfl dX12_setMark_22 rfl) ?_
  refine zx_iastore (pc' := 25) zsh_67 dX12_setMark_24 rfl (fun s3 => ?_)
  exact zx_vret rfl dX12_setMark_25
theorem cX12_setMark_mc (N : Nat)  (p1 : Int32) (p2 : Int32) (p3 : Int32) (p4 : Int32) (s : zq_S) (v : Unit × zq_S) (h : mX12_setMark N p1 p2 p3 p4 s = some v) : zq_MC yX12_setMark cX12_setMark 5 none ⟨0, 0, 0, 0⟩ 0 0 [.ref 57, .int p1, .int p2, .int p3, .int p4] (zq_en s) (zv_v v.1, zq_en v.2) := zq_MC_x [.ref 57, .int p1, .int p2, .int p3, .int p4] (by decide +kernel) rfl rfl (Nat.le_of_ble_eq_true rfl) (xX12_setMark N p1 p2 p3 p4 s) h
def jX12_wordsIn_j51 (N : Nat)  (f2 : Int32)  (self : Int32 × Int32 × zq_S → Option (Int32 × zq_S)) (w4 : Int32) (t0 : Int32) (t1 : Int32) (s : zq_S) : Option (Int32 × zq_S) :=
  zq_let (t1 + t0) (fun x1 =>
  zq_let (w4 + (1 : Int32)) (fun x2 =>
  self (x1, x2, s)))
set_option maxRecDepth 20000 in
set_option maxHeartbeats 2000000 in
theorem xX12_wordsIn_j51_j (N : Nat)  (f2 : Int32)  (self : Int32 × Int32 × zq_S → Option (Int32 × zq_S)) (hself : ∀ v, zq_X yX12_wordsIn RX12 cX12_wordsIn 5 (some .int) ⟨0, 0, 0, 0⟩ zv_i 5 [.ref 57, .null, .int f2, .int v.1, .int v.2.1] [] v.2.2 (self v)) (w4 : Int32) (t0 : Int32) (t1 : Int32) (s : zq_S) : zq_X yX12_wordsIn RX12 cX12_wordsIn 5 (some .int) ⟨0, 0, 0, 0⟩ zv_i 51 [.ref 57, .null, .int f2, .null, .int w4] [.int t0, .int t1] s (jX12_wordsIn_j51 N f2 self w4 t0 t1 s) := by
  unfold jX12_wordsIn_j51
  refine zx_lift (pc' := 52) (fun _ => zq_iadd dX12_wordsIn_51 rfl) ?_
  refine zx_istore_n (pc' := 53) (ls' := fun x1 => [.ref 57, .null, .int f2, .int x1, .int w4]) rfl (by decide) rfl (fun _ => rfl) dX12_wordsIn_52 rfl (fun x1 => ?_)
  refine zx_iinc (pc' := 56) (ls' := fun x2 => [.ref 57, .null, .int f2, .int x1, .int x2]) rfl rfl (by decide) rfl (fun _ => rfl) dX12_wordsIn_53 rfl (fun x2 => ?_)
  refine zx_lift (pc' := 5) (fun _ => zq_goto dX12_wordsIn_56 rfl) ?_
  exact hself (x1, x2, s)
def jX12_wordsIn_j46 (N : Nat)  (f2 : Int32)  (self : Int32 × Int32 × zq_S → Option (Int32 × zq_S)) (w4 : Int32) (t0 : Int32) (s : zq_S) : Option (Int32 × zq_S) :=
  jX12_wordsIn_j51 N f2 self w4 (1 : Int32) t0 s
set_option maxRecDepth 20000 in
set_option maxHeartbeats 2000000 in
theorem xX12_wordsIn_j46_j (N : Nat)  (f2 : Int32)  (self : Int32 × Int32 × zq_S → Option (Int32 × zq_S)) (hself : ∀ v, zq_X yX12_wordsIn RX12 cX12_wordsIn 5 (some .int) ⟨0, 0, 0, 0⟩ zv_i 5 [.ref 57, .null, .int f2, .int v.1, .int v.2.1] [] v.2.2 (self v)) (w4 : Int32) (t0 : Int32) (s : zq_S) : zq_X yX12_wordsIn RX12 cX12_wordsIn 5 (some .int) ⟨0, 0, 0, 0⟩ zv_i 46 [.ref 57, .null, .int f2, .null, .int w4] [.int t0] s (jX12_wordsIn_j46 N f2 self w4 t0 s) := by
  unfold jX12_wordsIn_j46
  refine zx_lift (pc' := 47) (fun _ => zq_iconst (v := 1) dX12_wordsIn_46 rfl rfl) ?_
  refine zx_lift (pc' := 51) (fun _ => zq_goto dX12_wordsIn_47 rfl) ?_
  exact xX12_wordsIn_j51_j N f2 self hself w4 (1 : Int32) t0 s
def bX12_wordsIn_5 (N : Nat)  (f2 : Int32)  (self : Int32 × Int32 × zq_S → Option (Int32 × zq_S)) (v : Int32 × Int32 × zq_S) : Option (Int32 × zq_S) :=
  if f2 ≤ v.2.1 then
  some (v.1, v.2.2)
  else
  zq_ck v.2.1 400 (
  if (zga v.2.2 58 v.2.1) = (0 : Int32) then
  jX12_wordsIn_j46 N f2 self v.2.1 v.1 v.2.2
  else
  zq_ck v.2.1 400 (
  if (zga v.2.2 58 v.2.1) = (6 : Int32) then
  jX12_wordsIn_j46 N f2 self v.2.1 v.1 v.2.2
  else
  zq_ck v.2.1 400 (
  if (zga v.2.2 58 v.2.1) = (7 : Int32) then
  jX12_wordsIn_j46 N f2 self v.2.1 v.1 v.2.2
  else
  jX12_wordsIn_j51 N f2 self v.2.1 (0 : Int32) v.1 v.2.2)))
set_option maxRecDepth 20000 in
set_option maxHeartbeats 2000000 in
theorem xX12_wordsIn_5 (N : Nat)  (f2 : Int32)  (self : Int32 × Int32 × zq_S → Option (Int32 × zq_S)) (hself : ∀ v, zq_X yX12_wordsIn RX12 cX12_wordsIn 5 (some .int) ⟨0, 0, 0, 0⟩ zv_i 5 [.ref 57, .null, .int f2, .int v.1, .int v.2.1] [] v.2.2 (self v)) (v : Int32 × Int32 × zq_S) : zq_X yX12_wordsIn RX12 cX12_wordsIn 5 (some .int) ⟨0, 0, 0, 0⟩ zv_i 5 [.ref 57, .null, .int f2, .int v.1, .int v.2.1] [] v.2.2 (bX12_wordsIn_5 N f2 self v) := by
  unfold bX12_wordsIn_5
  refine zx_lift (pc' := 7) (fun _ => zq_iload rfl dX12_wordsIn_5 rfl) ?_
  refine zx_lift (pc' := 8) (fun _ => zq_iload_n rfl rfl dX12_wordsIn_7 rfl) ?_
  refine zx_icmp_ge (pc' := 11) (tgt := 59) dX12_wordsIn_8 rfl rfl (fun hc => ?_) (fun hc => ?_)
  · refine zx_lift (pc' := 60) (fun _ => zq_iload_n rfl rfl dX12_wordsIn_59 rfl) ?_
    exact zx_iret rfl dX12_wordsIn_60
  · refine zx_lift (pc' := 12) (fun _ => zq_iload_n rfl rfl dX12_wordsIn_11 rfl) ?_
    refine zx_lift (pc' := 13) (fun _ => zq_aload_n rfl rfl dX12_wordsIn_12 rfl) ?_
    refine zx_lift (pc' := 16) (fun _ => zt_getR zfr_X12_7 zfd_57_1 dX12_wordsIn_13 rfl) ?_
    refine zx_lift (pc' := 18) (fun _ => zq_iload rfl dX12_wordsIn_16 rfl) ?_
    refine zx_iaload (pc' := 19) zsh_58 dX12_wordsIn_18 rfl ?_
    refine zx_if_eq (pc' := 22) (tgt := 46) dX12_wordsIn_19 rfl rfl (fun hc => ?_) (fun hc => ?_)
    · refine zx_less [.ref 57, .null, .int f2, .null, .int v.2.1] (zq_cr (zq_cz (zq_cr (zq_cz (zq_cr zq_cn))))) ?_
      exact xX12_wordsIn_j46_j N f2 self hself v.2.1 v.1 v.2.2
    · refine zx_lift (pc' := 23) (fun _ => zq_aload_n rfl rfl dX12_wordsIn_22 rfl) ?_
      refine zx_lift (pc' := 26) (fun _ => zt_getR zfr_X12_7 zfd_57_1 dX12_wordsIn_23 rfl) ?_
      refine zx_lift (pc' := 28) (fun _ => zq_iload rfl dX12_wordsIn_26 rfl) ?_
      refine zx_iaload (pc' := 29) zsh_58 dX12_wordsIn_28 rfl ?_
      refine zx_lift (pc' := 31) (fun _ => zq_bipush (v := 6) dX12_wordsIn_29 rfl rfl) ?_
      refine zx_icmp_eq (pc' := 34) (tgt := 46) dX12_wordsIn_31 rfl rfl (fun hc => ?_) (fun hc => ?_)
      · refine zx_less [.ref 57, .null, .int f2, .null, .int v.2.1] (zq_cr (zq_cz (zq_cr (zq_cz (zq_cr zq_cn))))) ?_
        exact xX12_wordsIn_j46_j N f2 self hself v.2.1 v.1 v.2.2
      · refine zx_lift (pc' := 35) (fun _ => zq_aload_n rfl rfl dX12_wordsIn_34 rfl) ?_
        refine zx_lift (pc' := 38) (fun _ => zt_getR zfr_X12_7 zfd_57_1 dX12_wordsIn_35 rfl) ?_
        refine zx_lift (pc' := 40) (fun _ => zq_iload rfl dX12_wordsIn_38 rfl) ?_
        refine zx_iaload (pc' := 41) zsh_58 dX12_wordsIn_40 rfl ?_
        refine zx_lift (pc' := 43) (fun _ => zq_bipush (v := 7) dX12_wordsIn_41 rfl rfl) ?_
        refine zx_icmp_ne (pc' := 46) (tgt := 50) dX12_wordsIn_43 rfl rfl (fun hc => ?_) (fun hc => ?_)
        · refine zx_lift (pc' := 51) (fun _ => zq_iconst (v := 0) dX12_wordsIn_50 rfl rfl) ?_
          refine zx_less [.ref 57, .null, .int f2, .null, .int v.2.1] (zq_cr (zq_cz (zq_cr (zq_cz (zq_cr zq_cn))))) ?_
          exact xX12_wordsIn_j51_j N f2 self hself v.2.1 (0 : Int32) v.1 v.2.2
        · refine zx_less [.ref 57, .null, .int f2, .null, .int v.2.1] (zq_cr (zq_cz (zq_cr (zq_cz (zq_cr zq_cn))))) ?_
          exact xX12_wordsIn_j46_j N f2 self hself v.2.1 v.1 v.2.2
theorem yX12_wordsIn_5 (N : Nat)  (f2 : Int32)  (n : Nat) : ∀ v : Int32 × Int32 × zq_S, zq_X yX12_wordsIn RX12 cX12_wordsIn 5 (some .int) ⟨0, 0, 0, 0⟩ zv_i 5 [.ref 57, .null, .int f2, .int v.1, .int v.2.1] [] v.2.2 (zq_loop (bX12_wordsIn_5 N f2 ) n v) := by
  induction n with
  | zero => exact fun v u hu => by cases hu
  | succ n ih =>
    intro v
    rw [zq_loop_s]
    exact xX12_wordsIn_5 N f2  (zq_loop (bX12_wordsIn_5 N f2 ) n) ih v
def mX12_wordsIn (N : Nat)  (p1 : Int32) (p2 : Int32) (s : zq_S) : Option (Int32 × zq_S) :=
  zq_loop (bX12_wordsIn_5 N p2 ) N ((0 : Int32), p1, s)
set_option maxRecDepth 20000 in
set_option maxHeartbeats 2000000 in
theorem xX12_wordsIn (N : Nat)  (p1 : Int32) (p2 : Int32) (s : zq_S) : zq_X yX12_wordsIn RX12 cX12_wordsIn 5 (some .int) ⟨0, 0, 0, 0⟩ zv_i 0 [.ref 57, .int p1, .int p2, .null, .null] [] s (mX12_wordsIn N p1 p2 s) := by
  unfold mX12_wordsIn
  refine zx_lift (pc' := 1) (fun _ => zq_iconst (v := 0) dX12_wordsIn_0 rfl rfl) ?_
  refine zx_lift (pc' := 2) (fun _ => zq_istore_n (ls' := [.ref 57, .int p1, .int p2, .int (0 : Int32), .null]) rfl (by decide) rfl rfl dX12_wordsIn_1 rfl) ?_
  refine zx_lift (pc' := 3) (fun _ => zq_iload_n rfl rfl dX12_wordsIn_2 rfl) ?_
  refine zx_lift (pc' := 5) (fun _ => zq_istore (ls' := [.ref 57, .int p1, .int p2, .int (0 : Int32), .int p1]) (by decide) rfl rfl dX12_wordsIn_3 rfl) ?_
  refine zx_less [.ref 57, .null, .int p2, .int (0 : Int32), .int p1] (zq_cr (zq_cz (zq_cr (zq_cr (zq_cr zq_cn))))) ?_
  refine yX12_wordsIn_5 N p2  N ((0 : Int32), p1, s)
theorem cX12_wordsIn_mc (N : Nat)  (p1 : Int32) (p2 : Int32) (s : zq_S) (v : Int32 × zq_S) (h : mX12_wordsIn N p1 p2 s = some v) : zq_MC yX12_wordsIn cX12_wordsIn 5 (some .int) ⟨0, 0, 0, 0⟩ 0 0 [.ref 57, .int p1, .int p2] (zq_en s) (zv_i v.1, zq_en v.2) := zq_MC_x [.ref 57, .int p1, .int p2, .null, .null] (by decide +kernel) rfl rfl (Nat.le_of_ble_eq_true rfl) (xX12_wordsIn N p1 p2 s) h
