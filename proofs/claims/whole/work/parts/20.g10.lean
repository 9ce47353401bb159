def jX12_find_j107 (N : Nat)  (f1 : Int32) (k142 : zq_S → Option (Unit × zq_S)) (self : Int32 × zq_S → Option (Unit × zq_S)) (w2 : Int32) (w3 : Int32) (t0 : Int32) (t1 : Int32) (s : zq_S) : Option (Unit × zq_S) :=
  zq_ck t1 1024 (
  zq_let (zpaz s 78 t1 t0) (fun s8 =>
  zq_ck f1 1024 (
  zq_b2 (mX12_has N f1 w2 s8) (fun r9 s10 =>
  zq_let (if r9 = (0 : Int32) then (if w3 = (0 : Int32) then (0 : Int32) else ((1 : Int32) <<< (w2 &&& 31))) else (0 : Int32)) (fun x11 =>
  zq_ck f1 1024 (
  zq_let (zpa s10 79 f1 ((zga s8 79 f1) ||| x11)) (fun s12 =>
  zq_let (w2 + (1 : Int32)) (fun x13 =>
  self (x13, s12)))))))))
set_option maxRecDepth 20000 in
set_option maxHeartbeats 2000000 in
theorem xX12_find_j107_j (N : Nat)  (f1 : Int32) (k142 : zq_S → Option (Unit × zq_S)) (hk142 : ∀ e, zq_X yX12_find RX12 cX12_find 4 none ⟨1, 0, 0, 21⟩ zv_v 142 [.ref 57, .int f1, .null, .null] [] e (k142 e)) (self : Int32 × zq_S → Option (Unit × zq_S)) (hself : ∀ v, zq_X yX12_find RX12 cX12_find 4 none ⟨1, 0, 0, 21⟩ zv_v 49 [.ref 57, .int f1, .int v.1, .null] [] v.2 (self v)) (w2 : Int32) (w3 : Int32) (t0 : Int32) (t1 : Int32) (s : zq_S) : zq_X yX12_find RX12 cX12_find 4 none ⟨1, 0, 0, 21⟩ zv_v 107 [.ref 57, .int f1, .int w2, .int w3] [.int t0, .int t1, .ref 78] s (jX12_find_j107 N f1 k142 self w2 w3 t0 t1 s) := by
  unfold jX12_find_j107
  refine zx_zastore (pc' := 108) zsh_78 dX12_find_107 rfl (fun s8 => ?_)
  refine zx_lift (pc' := 109) (fun _ => zq_aload_n rfl rfl dX12_find_108 rfl) ?_
  refine zx_lift (pc' := 112) (fun _ => zt_getR zfr_X12_78 zfd_57_39 dX12_find_109 rfl) ?_
  refine zx_lift (pc' := 113) (fun _ => zq_iload_n rfl rfl dX12_find_112 rfl) ?_
  refine zx_lift (pc' := 114) (fun _ => zq_dup2 rfl rfl dX12_find_113 rfl) ?_
  refine zx_iaload (pc' := 115) zsh_79 dX12_find_114 rfl ?_
  refine zx_lift (pc' := 116) (fun _ => zq_iload_n rfl rfl dX12_find_115 rfl) ?_
  refine zx_lift (pc' := 117) (fun _ => zq_iload_n rfl rfl dX12_find_116 rfl) ?_
  refine zx_cSi (pc' := 120) zcs_X12_189 (cX12_has_mc N f1 w2 s8) rfl (by decide) (Nat.le_of_ble_eq_true rfl) dX12_find_117 rfl rfl (fun r9 s10 => ?_)
  refine zx_tern (pcJ := 134) (lsJ := fun x11 => [.ref 57, .int f1, .int w2, .null]) (stJ := fun x11 => [.int x11, .int (zga s8 79 f1), .int f1, .ref 79]) (fun x11 => ?_) (fun f hJ => ?_)
  rotate_left
  · refine zx_lif_ne (pc' := 123) (tgt := 133) dX12_find_120 rfl rfl (fun _ => ?_) (fun _ => ?_)
    · refine zx_lift (pc' := 134) (fun _ => zq_iconst (v := 0) dX12_find_133 rfl rfl) ?_
      exact zx_lessJ (zq_cr (zq_cr (zq_cr (zq_cz zq_cn)))) (hJ _)
    · refine zx_lift (pc' := 124) (fun _ => zq_iload_n rfl rfl dX12_find_123 rfl) ?_
      refine zx_lif_eq (pc' := 127) (tgt := 133) dX12_find_124 rfl rfl (fun _ => ?_) (fun _ => ?_)
      · refine zx_lift (pc' := 134) (fun _ => zq_iconst (v := 0) dX12_find_133 rfl rfl) ?_
        exact zx_lessJ (zq_cr (zq_cr (zq_cr (zq_cz zq_cn)))) (hJ _)
      · refine zx_lift (pc' := 128) (fun _ => zq_iconst (v := 1) dX12_find_127 rfl rfl) ?_
        refine zx_lift (pc' := 129) (fun _ => zq_iload_n rfl rfl dX12_find_128 rfl) ?_
        refine zx_lift (pc' := 130) (fun _ => zq_ishl dX12_find_129 rfl) ?_
        refine zx_lift (pc' := 134) (fun _ => zq_goto dX12_find_130 rfl) ?_
        exact zx_lessJ (zq_cr (zq_cr (zq_cr (zq_cz zq_cn)))) (hJ _)
  refine zx_lift (pc' := 135) (fun _ => zq_ior dX12_find_134 rfl) ?_
  refine zx_iastore (pc' := 136) zsh_79 dX12_find_135 rfl (fun s12 => ?_)
  refine zx_iinc (pc' := 139) (ls' := fun x13 => [.ref 57, .int f1, .int x13, .null]) rfl rfl (by decide) rfl (fun _ => rfl) dX12_find_136 rfl (fun x13 => ?_)
  refine zx_lift (pc' := 49) (fun _ => zq_goto dX12_find_139 rfl) ?_
  exact hself (x13, s12)
def jX12_find_j106 (N : Nat)  (f1 : Int32) (k142 : zq_S → Option (Unit × zq_S)) (self : Int32 × zq_S → Option (Unit × zq_S)) (w2 : Int32) (w3 : Int32) (t0 : Int32) (s : zq_S) : Option (Unit × zq_S) :=
  jX12_find_j107 N f1 k142 self w2 w3 (0 : Int32) t0 s
set_option maxRecDepth 20000 in
set_option maxHeartbeats 2000000 in
theorem xX12_find_j106_j (N : Nat)  (f1 : Int32) (k142 : zq_S → Option (Unit × zq_S)) (hk142 : ∀ e, zq_X yX12_find RX12 cX12_find 4 none ⟨1, 0, 0, 21⟩ zv_v 142 [.ref 57, .int f1, .null, .null] [] e (k142 e)) (self : Int32 × zq_S → Option (Unit × zq_S)) (hself : ∀ v, zq_X yX12_find RX12 cX12_find 4 none ⟨1, 0, 0, 21⟩ zv_v 49 [.ref 57, .int f1, .int v.1, .null] [] v.2 (self v)) (w2 : Int32) (w3 : Int32) (t0 : Int32) (s : zq_S) : zq_X yX12_find RX12 cX12_find 4 none ⟨1, 0, 0, 21⟩ zv_v 106 [.ref 57, .int f1, .int w2, .int w3] [.int t0, .ref 78] s (jX12_find_j106 N f1 k142 self w2 w3 t0 s) := by
  unfold jX12_find_j106
  refine zx_lift (pc' := 107) (fun _ => zq_iconst (v := 0) dX12_find_106 rfl rfl) ?_
  exact xX12_find_j107_j N f1 k142 hk142 self hself w2 w3 (0 : Int32) t0 s
def jX12_find_j102 (N : Nat)  (f1 : Int32) (k142 : zq_S → Option (Unit × zq_S)) (self : Int32 × zq_S → Option (Unit × zq_S)) (w2 : Int32) (w3 : Int32) (t0 : Int32) (s : zq_S) : Option (Unit × zq_S) :=
  jX12_find_j107 N f1 k142 self w2 w3 (1 : Int32) t0 s
set_option maxRecDepth 20000 in
set_option maxHeartbeats 2000000 in
theorem xX12_find_j102_j (N : Nat)  (f1 : Int32) (k142 : zq_S → Option (Unit × zq_S)) (hk142 : ∀ e, zq_X yX12_find RX12 cX12_find 4 none ⟨1, 0, 0, 21⟩ zv_v 142 [.ref 57, .int f1, .null, .null] [] e (k142 e)) (self : Int32 × zq_S → Option (Unit × zq_S)) (hself : ∀ v, zq_X yX12_find RX12 cX12_find 4 none ⟨1, 0, 0, 21⟩ zv_v 49 [.ref 57, .int f1, .int v.1, .null] [] v.2 (self v)) (w2 : Int32) (w3 : Int32) (t0 : Int32) (s : zq_S) : zq_X yX12_find RX12 cX12_find 4 none ⟨1, 0, 0, 21⟩ zv_v 102 [.ref 57, .int f1, .int w2, .int w3] [.int t0, .ref 78] s (jX12_find_j102 N f1 k142 self w2 w3 t0 s) := by
  unfold jX12_find_j102
  refine zx_lift (pc' := 103) (fun _ => zq_iconst (v := 1) dX12_find_102 rfl rfl) ?_
  refine zx_lift (pc' := 107) (fun _ => zq_goto dX12_find_103 rfl) ?_
  exact xX12_find_j107_j N f1 k142 hk142 self hself w2 w3 (1 : Int32) t0 s
def bX12_find_49 (N : Nat)  (f1 : Int32) (k142 : zq_S → Option (Unit × zq_S)) (self : Int32 × zq_S → Option (Unit × zq_S)) (v : Int32 × zq_S) : Option (Unit × zq_S) :=
  if (zgf v.2 57 6) ≤ v.1 then
  k142 v.2
  else
  zq_ck v.1 10 (
  zq_let (if ((zga v.2 65 v.1) &&& (f1 ^^^ (-1 : Int32))) = (0 : Int32) then (1 : Int32) else (0 : Int32)) (fun x7 =>
  zq_ck f1 1024 (
  if (zga v.2 78 f1) = (0 : Int32) then
  jX12_find_j106 N f1 k142 self v.1 x7 f1 v.2
  else
  zq_b2 (mX12_has N f1 v.1 v.2) (fun r14 s15 =>
  if r14 = (0 : Int32) then
  jX12_find_j102 N f1 k142 self v.1 x7 f1 s15
  else
  if x7 = (0 : Int32) then
  jX12_find_j106 N f1 k142 self v.1 x7 f1 s15
  else
  jX12_find_j102 N f1 k142 self v.1 x7 f1 s15))))
set_option maxRecDepth 20000 in
set_option maxHeartbeats 2000000 in
theorem xX12_find_49 (N : Nat)  (f1 : Int32) (k142 : zq_S → Option (Unit × zq_S)) (hk142 : ∀ e, zq_X yX12_find RX12 cX12_find 4 none ⟨1, 0, 0, 21⟩ zv_v 142 [.ref 57, .int f1, .null, .null] [] e (k142 e)) (self : Int32 × zq_S → Option (Unit × zq_S)) (hself : ∀ v, zq_X yX12_find RX12 cX12_find 4 none ⟨1, 0, 0, 21⟩ zv_v 49 [.ref 57, .int f1, .int v.1, .null] [] v.2 (self v)) (v : Int32 × zq_S) : zq_X yX12_find RX12 cX12_find 4 none ⟨1, 0, 0, 21⟩ zv_v 49 [.ref 57, .int f1, .int v.1, .null] [] v.2 (bX12_find_49 N f1 k142 self v) := by
  unfold bX12_find_49
  refine zx_lift (pc' := 50) (fun _ => zq_iload_n rfl rfl dX12_find_49 rfl) ?_
  refine zx_lift (pc' := 51) (fun _ => zq_aload_n rfl rfl dX12_find_50 rfl) ?_
  refine zx_lift (pc' := 54) (fun _ => zt_getI zfr_X12_141 zfd_57_6 dX12_find_51 rfl) ?_
  refine zx_icmp_ge (pc' := 57) (tgt := 142) dX12_find_54 rfl rfl (fun hc => ?_) (fun hc => ?_)
  · refine zx_less [.ref 57, .int f1, .null, .null] (zq_cr (zq_cr (zq_cz (zq_cz zq_cn)))) ?_
    exact hk142 v.2
  · refine zx_lift (pc' := 58) (fun _ => zq_aload_n rfl rfl dX12_find_57 rfl) ?_
    refine zx_lift (pc' := 61) (fun _ => zt_getR zfr_X12_31 zfd_57_10 dX12_find_58 rfl) ?_
    refine zx_lift (pc' := 62) (fun _ => zq_iload_n rfl rfl dX12_find_61 rfl) ?_
    refine zx_iaload (pc' := 63) zsh_65 dX12_find_62 rfl ?_
    refine zx_lift (pc' := 64) (fun _ => zq_iload_n rfl rfl dX12_find_63 rfl) ?_
    refine zx_lift (pc' := 65) (fun _ => zq_iconst (v := (-1)) dX12_find_64 rfl rfl) ?_
    refine zx_lift (pc' := 66) (fun _ => zq_ixor dX12_find_65 rfl) ?_
    refine zx_lift (pc' := 67) (fun _ => zq_iand dX12_find_66 rfl) ?_
    refine zx_tern (pcJ := 75) (lsJ := fun x7 => [.ref 57, .int f1, .int v.1, .null]) (stJ := fun x7 => [.int x7]) (fun x7 => ?_) (fun f hJ => ?_)
    rotate_left
    · refine zx_lif_ne (pc' := 70) (tgt := 74) dX12_find_67 rfl rfl (fun _ => ?_) (fun _ => ?_)
      · refine zx_lift (pc' := 75) (fun _ => zq_iconst (v := 0) dX12_find_74 rfl rfl) ?_
        exact zx_lessJ (zq_cr (zq_cr (zq_cr (zq_cz zq_cn)))) (hJ _)
      · refine zx_lift (pc' := 71) (fun _ => zq_iconst (v := 1) dX12_find_70 rfl rfl) ?_
        refine zx_lift (pc' := 75) (fun _ => zq_goto dX12_find_71 rfl) ?_
        exact zx_lessJ (zq_cr (zq_cr (zq_cr (zq_cz zq_cn)))) (hJ _)
    refine zx_lift (pc' := 76) (fun _ => zq_istore_n (ls' := [.ref 57, .int f1, .int v.1, .int x7]) rfl (by decide) rfl rfl dX12_find_75 rfl) ?_
    refine zx_lift (pc' := 77) (fun _ => zq_aload_n rfl rfl dX12_find_76 rfl) ?_
    refine zx_lift (pc' := 80) (fun _ => zt_getR zfr_X12_75 zfd_57_38 dX12_find_77 rfl) ?_
    refine zx_lift (pc' := 81) (fun _ => zq_iload_n rfl rfl dX12_find_80 rfl) ?_
    refine zx_lift (pc' := 82) (fun _ => zq_aload_n rfl rfl dX12_find_81 rfl) ?_
    refine zx_lift (pc' := 85) (fun _ => zt_getR zfr_X12_75 zfd_57_38 dX12_find_82 rfl) ?_
    refine zx_lift (pc' := 86) (fun _ => zq_iload_n rfl rfl dX12_find_85 rfl) ?_
    refine zx_zaload (pc' := 87) zsh_78 dX12_find_86 rfl ?_
    refine zx_if_eq (pc' := 90) (tgt := 106) dX12_find_87 rfl rfl (fun hc => ?_) (fun hc => ?_)
    · exact xX12_find_j106_j N f1 k142 hk142 self hself v.1 x7 f1 v.2
    · refine zx_lift (pc' := 91) (fun _ => zq_iload_n rfl rfl dX12_find_90 rfl) ?_
      refine zx_lift (pc' := 92) (fun _ => zq_iload_n rfl rfl dX12_find_91 rfl) ?_
      refine zx_cSi (pc' := 95) zcs_X12_189 (cX12_has_mc N f1 v.1 v.2) rfl (by decide) (Nat.le_of_ble_eq_true rfl) dX12_find_92 rfl rfl (fun r14 s15 => ?_)
      refine zx_if_eq (pc' := 98) (tgt := 102) dX12_find_95 rfl rfl (fun hc => ?_) (fun hc => ?_)
      · exact xX12_find_j102_j N f1 k142 hk142 self hself v.1 x7 f1 s15
      · refine zx_lift (pc' := 99) (fun _ => zq_iload_n rfl rfl dX12_find_98 rfl) ?_
        refine zx_if_eq (pc' := 102) (tgt := 106) dX12_find_99 rfl rfl (fun hc => ?_) (fun hc => ?_)
        · exact xX12_find_j106_j N f1 k142 hk142 self hself v.1 x7 f1 s15
        · exact xX12_find_j102_j N f1 k142 hk142 self hself v.1 x7 f1 s15
theorem yX12_find_49 (N : Nat)  (f1 : Int32) (k142 : zq_S → Option (Unit × zq_S)) (hk142 : ∀ e, zq_X yX12_find RX12 cX12_find 4 none ⟨1, 0, 0, 21⟩ zv_v 142 [.ref 57, .int f1, .null, .null] [] e (k142 e)) (n : Nat) : ∀ v : Int32 × zq_S, zq_X yX12_find RX12 cX12_find 4 none ⟨1, 0, 0, 21⟩ zv_v 49 [.ref 57, .int f1, .int v.1, .null] [] v.2 (zq_loop (bX12_find_49 N f1 k142) n v) := by
  induction n with
  | zero => exact fun v u hu => by cases hu
  | succ n ih =>
    intro v
    rw [zq_loop_s]
    exact xX12_find_49 N f1 k142 hk142 (zq_loop (bX12_find_49 N f1 k142) n) ih v
def bX12_find_10 (N : Nat)   (k148 : zq_S → Option (Unit × zq_S)) (self : Int32 × zq_S → Option (Unit × zq_S)) (v : Int32 × zq_S) : Option (Unit × zq_S) :=
  zq_b2 (mX12_all N v.2) (fun r1 s2 =>
  if r1 < v.1 then
  k148 s2
  else
  zq_ck v.1 1024 (
  zq_let (zpaz s2 78 v.1 (1 : Int32)) (fun s3 =>
  zq_ck v.1 1024 (
  zq_let (zpa s3 79 v.1 (0 : Int32)) (fun s4 =>
  zq_let (if v.1 = (0 : Int32) then (1 : Int64) else (0 : Int64)) (fun x5 =>
  zq_ck v.1 1024 (
  zq_let (zpl s4 80 v.1 x5) (fun s6 =>
  zq_loop (bX12_find_49 N v.1 (fun e16 =>
  zq_let (v.1 + (1 : Int32)) (fun x17 =>
  self (x17, e16)))) N ((0 : Int32), s6)))))))))
set_option maxRecDepth 20000 in
set_option maxHeartbeats 2000000 in
theorem xX12_find_10 (N : Nat)   (k148 : zq_S → Option (Unit × zq_S)) (hk148 : ∀ e, zq_X yX12_find RX12 cX12_find 4 none ⟨1, 0, 0, 21⟩ zv_v 148 [.ref 57, .null, .null, .null] [] e (k148 e)) (self : Int32 × zq_S → Option (Unit × zq_S)) (hself : ∀ v, zq_X yX12_find RX12 cX12_find 4 none ⟨1, 0, 0, 21⟩ zv_v 10 [.ref 57, .int v.1, .null, .null] [] v.2 (self v)) (v : Int32 × zq_S) : zq_X yX12_find RX12 cX12_find 4 none ⟨1, 0, 0, 21⟩ zv_v 10 [.ref 57, .int v.1, .null, .null] [] v.2 (bX12_find_10 N k148 self v) := by
  unfold bX12_find_10
  refine zx_lift (pc' := 11) (fun _ => zq_iload_n rfl rfl dX12_find_10 rfl) ?_
  refine zx_lift (pc' := 12) (fun _ => zq_aload_n rfl rfl dX12_find_11 rfl) ?_
  refine zx_cVi (pc' := 15) zcv_X12_148 (cX12_all_mc N v.2) zob_57 rfl (by decide) (Nat.le_of_ble_eq_true rfl) dX12_find_12 rfl rfl (fun r1 s2 => ?_)
  refine zx_icmp_gt (pc' := 18) (tgt := 148) dX12_find_15 rfl rfl (fun hc => ?_) (fun hc => ?_)
  · refine zx_less [.ref 57, .null, .null, .null] (zq_cr (zq_cz (zq_cz (zq_cz zq_cn)))) ?_
    exact hk148 s2
  · refine zx_lift (pc' := 19) (fun _ => zq_aload_n rfl rfl dX12_find_18 rfl) ?_
    refine zx_lift (pc' := 22) (fun _ => zt_getR zfr_X12_75 zfd_57_38 dX12_find_19 rfl) ?_
    refine zx_lift (pc' := 23) (fun _ => zq_iload_n rfl rfl dX12_find_22 rfl) ?_
    refine zx_lift (pc' := 24) (fun _ => zq_iconst (v := 1) dX12_find_23 rfl rfl) ?_
    refine zx_zastore (pc' := 25) zsh_78 dX12_find_24 rfl (fun s3 => ?_)
    refine zx_lift (pc' := 26) (fun _ => zq_aload_n rfl rfl dX12_find_25 rfl) ?_
    refine zx_lift (pc' := 29) (fun _ => zt_getR zfr_X12_78 zfd_57_39 dX12_find_26 rfl) ?_
    refine zx_lift (pc' := 30) (fun _ => zq_iload_n rfl rfl dX12_find_29 rfl) ?_
    refine zx_lift (pc' := 31) (fun _ => zq_iconst (v := 0) dX12_find_30 rfl rfl) ?_
    refine zx_iastore (pc' := 32) zsh_79 dX12_find_31 rfl (fun s4 => ?_)
    refine zx_lift (pc' := 33) (fun _ => zq_aload_n rfl rfl dX12_find_32 rfl) ?_
    refine zx_lift (pc' := 36) (fun _ => zt_getR zfr_X12_81 zfd_57_40 dX12_find_33 rfl) ?_
    refine zx_lift (pc' := 37) (fun _ => zq_iload_n rfl rfl dX12_find_36 rfl) ?_
    refine zx_lift (pc' := 38) (fun _ => zq_iload_n rfl rfl dX12_find_37 rfl) ?_
    refine zx_tern (pcJ := 46) (lsJ := fun x5 => [.ref 57, .int v.1, .null, .null]) (stJ := fun x5 => [.long x5, .int v.1, .ref 80]) (fun x5 => ?_) (fun f hJ => ?_)
    rotate_left
    · refine zx_lif_ne (pc' := 41) (tgt := 45) dX12_find_38 rfl rfl (fun _ => ?_) (fun _ => ?_)
      · refine zx_lift (pc' := 46) (fun _ => zq_lconst (v := 0) dX12_find_45 rfl rfl) ?_
        exact zx_lessJ (zq_cr (zq_cr (zq_cz (zq_cz zq_cn)))) (hJ _)
      · refine zx_lift (pc' := 42) (fun _ => zq_lconst (v := 1) dX12_find_41 rfl rfl) ?_
        refine zx_lift (pc' := 46) (fun _ => zq_goto dX12_find_42 rfl) ?_
        exact zx_lessJ (zq_cr (zq_cr (zq_cz (zq_cz zq_cn)))) (hJ _)
    refine zx_lastore (pc' := 47) zsh_80 dX12_find_46 rfl (fun s6 => ?_)
    refine zx_lift (pc' := 48) (fun _ => zq_iconst (v := 0) dX12_find_47 rfl rfl) ?_
    refine zx_lift (pc' := 49) (fun _ => zq_istore_n (ls' := [.ref 57, .int v.1, .int (0 : Int32), .null]) rfl (by decide) rfl rfl dX12_find_48 rfl) ?_
    refine yX12_find_49 N v.1 _ (fun e16 => ?_) N ((0 : Int32), s6)
    refine zx_iinc (pc' := 145) (ls' := fun x17 => [.ref 57, .int x17, .null, .null]) rfl rfl (by decide) rfl (fun _ => rfl) dX12_find_142 rfl (fun x17 => ?_)
    refine zx_lift (pc' := 10) (fun _ => zq_goto dX12_find_145 rfl) ?_
    exact hself (x17, e16)
theorem yX12_find_10 (N : Nat)   (k148 : zq_S → Option (Unit × zq_S)) (hk148 : ∀ e, zq_X yX12_find RX12 cX12_find 4 none ⟨1, 0, 0, 21⟩ zv_v 148 [.ref 57, .null, .null, .null] [] e (k148 e)) (n : Nat) : ∀ v : Int32 × zq_S, zq_X yX12_find RX12 cX12_find 4 none ⟨1, 0, 0, 21⟩ zv_v 10 [.ref 57, .int v.1, .null, .null] [] v.2 (zq_loop (bX12_find_10 N k148) n v) := by
  induction n with
  | zero => exact fun v u hu => by cases hu
  | succ n ih =>
    intro v
    rw [zq_loop_s]
    exact xX12_find_10 N k148 hk148 (zq_loop (bX12_find_10 N k148) n) ih v
def jX12_find_j209 (N : Nat)  (f1 : Int32) (k215 : zq_S → Option (Unit × zq_S)) (self : Int32 × zq_S → Option (Unit × zq_S)) (w2 : Int32) (s : zq_S) : Option (Unit × zq_S) :=
  zq_let (w2 + (1 : Int32)) (fun x23 =>
  self (x23, s))
set_option maxRecDepth 20000 in
set_option maxHeartbeats 2000000 in
theorem xX12_find_j209_j (N : Nat)  (f1 : Int32) (k215 : zq_S → Option (Unit × zq_S)) (hk215 : ∀ e, zq_X yX12_find RX12 cX12_find 4 none ⟨1, 0, 0, 21⟩ zv_v 215 [.ref 57, .int f1, .null, .null] [] e (k215 e)) (self : Int32 × zq_S → Option (Unit × zq_S)) (hself : ∀ v, zq_X yX12_find RX12 cX12_find 4 none ⟨1, 0, 0, 21⟩ zv_v 160 [.ref 57, .int f1, .int v.1, .null] [] v.2 (self v)) (w2 : Int32) (s : zq_S) : zq_X yX12_find RX12 cX12_find 4 none ⟨1, 0, 0, 21⟩ zv_v 209 [.ref 57, .int f1, .int w2, .null] [] s (jX12_find_j209 N f1 k215 self w2 s) := by
  unfold jX12_find_j209
  refine zx_iinc (pc' := 212) (ls' := fun x23 => [.ref 57, .int f1, .int x23, .null]) rfl rfl (by decide) rfl (fun _ => rfl) dX12_find_209 rfl (fun x23 => ?_)
  refine zx_lift (pc' := 160) (fun _ => zq_goto dX12_find_212 rfl) ?_
  exact hself (x23, s)
def bX12_find_160 (N : Nat)  (f1 : Int32) (k215 : zq_S → Option (Unit × zq_S)) (self : Int32 × zq_S → Option (Unit × zq_S)) (v : Int32 × zq_S) : Option (Unit × zq_S) :=
  if (zgf v.2 57 6) ≤ v.1 then
  k215 v.2
  else
  zq_ck f1 1024 (
  if (zga v.2 78 f1) = (0 : Int32) then
  k215 v.2
  else
  zq_ck f1 1024 (
  zq_b2 (mX12_has N (zga v.2 79 f1) v.1 v.2) (fun r21 s22 =>
  if r21 = (0 : Int32) then
  jX12_find_j209 N f1 k215 self v.1 s22
  else
  zq_ck (f1 ||| ((1 : Int32) <<< (v.1 &&& 31))) 1024 (
  zq_ck f1 1024 (
  zq_ck (f1 ||| ((1 : Int32) <<< (v.1 &&& 31))) 1024 (
  zq_let (zpl s22 80 (f1 ||| ((1 : Int32) <<< (v.1 &&& 31))) ((zgl s22 80 (f1 ||| ((1 : Int32) <<< (v.1 &&& 31)))) + (zgl s22 80 f1))) (fun s24 =>
  jX12_find_j209 N f1 k215 self v.1 s24)))))))
set_option maxRecDepth 20000 in
set_option maxHeartbeats 2000000 in
theorem xX12_find_160 (N : Nat)  (f1 : Int32) (k215 : zq_S → Option (Unit × zq_S)) (hk215 : ∀ e, zq_X yX12_find RX12 cX12_find 4 none ⟨1, 0, 0, 21⟩ zv_v 215 [.ref 57, .int f1, .null, .null] [] e (k215 e)) (self : Int32 × zq_S → Option (Unit × zq_S)) (hself : ∀ v, zq_X yX12_find RX12 cX12_find 4 none ⟨1, 0, 0, 21⟩ zv_v 160 [.ref 57, .int f1, .int v.1, .null] [] v.2 (self v)) (v : Int32 × zq_S) : zq_X yX12_find RX12 cX12_find 4 none ⟨1, 0, 0, 21⟩ zv_v 160 [.ref 57, .int f1, .int v.1, .null] [] v.2 (bX12_find_160 N f1 k215 self v) := by
  unfold bX12_find_160
  refine zx_lift (pc' := 161) (fun _ => zq_iload_n rfl rfl dX12_find_160 rfl) ?_
  refine zx_lift (pc' := 162) (fun _ => zq_aload_n rfl rfl dX12_find_161 rfl) ?_
  refine zx_lift (pc' := 165) (fun _ => zt_getI zfr_X12_141 zfd_57_6 dX12_find_162 rfl) ?_
  refine zx_icmp_ge (pc' := 168) (tgt := 215) dX12_find_165 rfl rfl (fun hc => ?_) (fun hc => ?_)
  · refine zx_less [.ref 57, .int f1, .null, .null] (zq_cr (zq_cr (zq_cz (zq_cz zq_cn)))) ?_
    exact hk215 v.2
  · refine zx_lift (pc' := 169) (fun _ => zq_aload_n rfl rfl dX12_find_168 rfl) ?_
    refine zx_lift (pc' := 172) (fun _ => zt_getR zfr_X12_75 zfd_57_38 dX12_find_169 rfl) ?_
    refine zx_lift (pc' := 173) (fun _ => zq_iload_n rfl rfl dX12_find_172 rfl) ?_
    refine zx_zaload (pc' := 174) zsh_78 dX12_find_173 rfl ?_
    refine zx_if_eq (pc' := 177) (tgt := 215) dX12_find_174 rfl rfl (fun hc => ?_) (fun hc => ?_)
    · refine zx_less [.ref 57, .int f1, .null, .null] (zq_cr (zq_cr (zq_cz (zq_cz zq_cn)))) ?_
      exact hk215 v.2
    · refine zx_lift (pc' := 178) (fun _ => zq_aload_n rfl rfl dX12_find_177 rfl) ?_
      refine zx_lift (pc' := 181) (fun _ => zt_getR zfr_X12_78 zfd_57_39 dX12_find_178 rfl) ?_
      refine zx_lift (pc' := 182) (fun _ => zq_iload_n rfl rfl dX12_find_181 rfl) ?_
      refine zx_iaload (pc' := 183) zsh_79 dX12_find_182 rfl ?_
      refine zx_lift (pc' := 184) (fun _ => zq_iload_n rfl rfl dX12_find_183 rfl) ?_
      refine zx_cSi (pc' := 187) zcs_X12_189 (cX12_has_mc N (zga v.2 79 f1) v.1 v.2) rfl (by decide) (Nat.le_of_ble_eq_true rfl) dX12_find_184 rfl rfl (fun r21 s22 => ?_)
      refine zx_if_eq (pc' := 190) (tgt := 209) dX12_find_187 rfl rfl (fun hc => ?_) (fun hc => ?_)
      · exact xX12_find_j209_j N f1 k215 hk215 self hself v.1 s22
      · refine zx_lift (pc' := 191) (fun _ => zq_aload_n rfl rfl dX12_find_190 rfl) ?_
        refine zx_lift (pc' := 194) (fun _ => zt_getR zfr_X12_81 zfd_57_40 dX12_find_191 rfl) ?_
        refine zx_lift (pc' := 195) (fun _ => zq_iload_n rfl rfl dX12_find_194 rfl) ?_
        refine zx_lift (pc' := 196) (fun _ => zq_iconst (v := 1) dX12_find_195 rfl rfl) ?_
        refine zx_lift (pc' := 197) (fun _ => zq_iload_n rfl rfl dX12_find_196 rfl) ?_
        refine zx_lift (pc' := 198) (fun _ => zq_ishl dX12_find_197 rfl) ?_
        refine zx_lift (pc' := 199) (fun _ => zq_ior dX12_find_198 rfl) ?_
        refine zx_lift (pc' := 200) (fun _ => zq_dup2 rfl rfl dX12_find_199 rfl) ?_
        refine zx_laload (pc' := 201) zsh_80 dX12_find_200 rfl ?_
        refine zx_lift (pc' := 202) (fun _ => zq_aload_n rfl rfl dX12_find_201 rfl) ?_
        refine zx_lift (pc' := 205) (fun _ => zt_getR zfr_X12_81 zfd_57_40 dX12_find_202 rfl) ?_
        refine zx_lift (pc' := 206) (fun _ => zq_iload_n rfl rfl dX12_find_205 rfl) ?_
        refine zx_laload (pc' := 207) zsh_80 dX12_find_206 rfl ?_
        refine zx_lift (pc' := 208) (fun _ => zq_ladd dX12_find_207 rfl) ?_
        refine zx_lastore (pc' := 209) zsh_80 dX12_find_208 rfl (fun s24 => ?_)
        exact xX12_find_j209_j N f1 k215 hk215 self hself v.1 s24
theorem yX12_find_160 (N : Nat)  (f1 : Int32) (k215 : zq_S → Option (Unit × zq_S)) (hk215 : ∀ e, zq_X yX12_find RX12 cX12_find 4 none ⟨1, 0, 0, 21⟩ zv_v 215 [.ref 57, .int f1, .null, .null] [] e (k215 e)) (n : Nat) : ∀ v : Int32 × zq_S, zq_X yX12_find RX12 cX12_find 4 none ⟨1, 0, 0, 21⟩ zv_v 160 [.ref 57, .int f1, .int v.1, .null] [] v.2 (zq_loop (bX12_find_160 N f1 k215) n v) := by
  induction n with
  | zero => exact fun v u hu => by cases hu
  | succ n ih =>
    intro v
    rw [zq_loop_s]
    exact xX12_find_160 N f1 k215 hk215 (zq_loop (bX12_find_160 N f1 k215) n) ih v
def jX12_find_j215 (N : Nat)   (k221 : zq_S → Option (Unit × zq_S)) (self : Int32 × zq_S → Option (Unit × zq_S)) (w1 : Int32) (s : zq_S) : Option (Unit × zq_S) :=
  zq_let (w1 + (1 : Int32)) (fun x26 =>
  self (x26, s))
set_option maxRecDepth 20000 in
set_option maxHeartbeats 2000000 in
theorem xX12_find_j215_j (N : Nat)   (k221 : zq_S → Option (Unit × zq_S)) (hk221 : ∀ e, zq_X yX12_find RX12 cX12_find 4 none ⟨1, 0, 0, 21⟩ zv_v 221 [.ref 57, .null, .null, .null] [] e (k221 e)) (self : Int32 × zq_S → Option (Unit × zq_S)) (hself : ∀ v, zq_X yX12_find RX12 cX12_find 4 none ⟨1, 0, 0, 21⟩ zv_v 150 [.ref 57, .int v.1, .null, .null] [] v.2 (self v)) (w1 : Int32) (s : zq_S) : zq_X yX12_find RX12 cX12_find 4 none ⟨1, 0, 0, 21⟩ zv_v 215 [.ref 57, .int w1, .null, .null] [] s (jX12_find_j215 N k221 self w1 s) := by
  unfold jX12_find_j215
  refine zx_iinc (pc' := 218) (ls' := fun x26 => [.ref 57, .int x26, .null, .null]) rfl rfl (by decide) rfl (fun _ => rfl) dX12_find_215 rfl (fun x26 => ?_)
  refine zx_lift (pc' := 150) (fun _ => zq_goto dX12_find_218 rfl) ?_
  exact hself (x26, s)
def bX12_find_150 (N : Nat)   (k221 : zq_S → Option (Unit × zq_S)) (self : Int32 × zq_S → Option (Unit × zq_S)) (v : Int32 × zq_S) : Option (Unit × zq_S) :=
  zq_b2 (mX12_all N v.2) (fun r19 s20 =>
  if r19 < v.1 then
  k221 s20
  else
  zq_loop (bX12_find_160 N v.1 (fun e25 =>
  jX12_find_j215 N k221 self v.1 e25)) N ((0 : Int32), s20))
set_option maxRecDepth 20000 in
set_option maxHeartbeats 2000000 in
theorem xX12_find_150 (N : Nat)   (k221 : zq_S → Option (Unit × zq_S)) (hk221 : ∀ e, zq_X yX12_find RX12 cX12_find 4 none ⟨1, 0, 0, 21⟩ zv_v 221 [.ref 57, .null, .null, .null] [] e (k221 e)) (self : Int32 × zq_S → Option (Unit × zq_S)) (hself : ∀ v, zq_X yX12_find RX12 cX12_find 4 none ⟨1, 0, 0, 21⟩ zv_v 150 [.ref 57, .int v.1, .null, .null] [] v.2 (self v)) (v : Int32 × zq_S) : zq_X yX12_find RX12 cX12_find 4 none ⟨1, 0, 0, 21⟩ zv_v 150 [.ref 57, .int v.1, .null, .null] [] v.2 (bX12_find_150 N k221 self v) := by
  unfold bX12_find_150
  refine zx_lift (pc' := 151) (fun _ => zq_iload_n rfl rfl dX12_find_150 rfl) ?_
  refine zx_lift (pc' := 152) (fun _ => zq_aload_n rfl rfl dX12_find_151 rfl) ?_
  refine zx_cVi (pc' := 155) zcv_X12_148 (cX12_all_mc N v.2) zob_57 rfl (by decide) (Nat.le_of_ble_eq_true rfl) dX12_find_152 rfl rfl (fun r19 s20 => ?_)
  refine zx_icmp_gt (pc' := 158) (tgt := 221) dX12_find_155 rfl rfl (fun hc => ?_) (fun hc => ?_)
  · refine zx_less [.ref 57, .null, .null, .null] (zq_cr (zq_cz (zq_cz (zq_cz zq_cn)))) ?_
    exact hk221 s20
  · refine zx_lift (pc' := 159) (fun _ => zq_iconst (v := 0) dX12_find_158 rfl rfl) ?_
    refine zx_lift (pc' := 160) (fun _ => zq_istore_n (ls' := [.ref 57, .int v.1, .int (0 : Int32), .null]) rfl (by decide) rfl rfl dX12_find_159 rfl) ?_
    refine yX12_find_160 N v.1 _ (fun e25 => ?_) N ((0 : Int32), s20)
    exact xX12_find_j215_j N k221 hk221 self hself v.1 e25
theorem yX12_find_150 (N : Nat)   (k221 : zq_S → Option (Unit × zq_S)) (hk221 : ∀ e, zq_X yX12_find RX12 cX12_find 4 none ⟨1, 0, 0, 21⟩ zv_v 221 [.ref 57, .null, .null, .null] [] e (k221 e)) (n : Nat) : ∀ v : Int32 × zq_S, zq_X yX12_find RX12 cX12_find 4 none ⟨1, 0, 0, 21⟩ zv_v 150 [.ref 57, .int v.1, .null, .null] [] v.2 (zq_loop (bX12_find_150 N k221) n v) := by
  induction n with
  | zero => exact fun v u hu => by cases hu
  | succ n ih =>
    intro v
    rw [zq_loop_s]
    exact xX12_find_150 N k221 hk221 (zq_loop (bX12_find_150 N k221) n) ih v
def jX12_find_j302 (N : Nat)  (f1 : Int32) (k310 : zq_S → Option (Unit × zq_S)) (self : Int32 × zq_S → Option (Unit × zq_S)) (w2 : Int32) (t0 : Int64) (t1 : Int64) (t2 : Int32) (s : zq_S) : Option (Unit × zq_S) :=
  zq_ck t2 1024 (
  zq_let (zpl s 81 t2 (t1 + t0)) (fun s37 =>
  zq_let (w2 + (1 : Int32)) (fun x38 =>
  self (x38, s37))))
set_option maxRecDepth 20000 in
set_option maxHeartbeats 2000000 in
theorem xX12_find_j302_j (N : Nat)  (f1 : Int32) (k310 : zq_S → Option (Unit × zq_S)) (hk310 : ∀ e, zq_X yX12_find RX12 cX12_find 4 none ⟨1, 0, 0, 21⟩ zv_v 310 [.ref 57, .int f1, .null, .null] [] e (k310 e)) (self : Int32 × zq_S → Option (Unit × zq_S)) (hself : ∀ v, zq_X yX12_find RX12 cX12_find 4 none ⟨1, 0, 0, 21⟩ zv_v 251 [.ref 57, .int f1, .int v.1, .null] [] v.2 (self v)) (w2 : Int32) (t0 : Int64) (t1 : Int64) (t2 : Int32) (s : zq_S) : zq_X yX12_find RX12 cX12_find 4 none ⟨1, 0, 0, 21⟩ zv_v 302 [.ref 57, .int f1, .int w2, .null] [.long t0, .long t1, .int t2, .ref 81] s (jX12_find_j302 N f1 k310 self w2 t0 t1 t2 s) := by
  unfold jX12_find_j302
  refine zx_lift (pc' := 303) (fun _ => zq_ladd dX12_find_302 rfl) ?_
  refine zx_lastore (pc' := 304) zsh_81 dX12_find_303 rfl (fun s37 => ?_)
  refine zx_iinc (pc' := 307) (ls' := fun x38 => [.ref 57, .int f1, .int x38, .null]) rfl rfl (by decide) rfl (fun _ => rfl) dX12_find_304 rfl (fun x38 => ?_)
  refine zx_lift (pc' := 251) (fun _ => zq_goto dX12_find_307 rfl) ?_
  exact hself (x38, s37)
def bX12_find_251 (N : Nat)  (f1 : Int32) (k310 : zq_S → Option (Unit × zq_S)) (self : Int32 × zq_S → Option (Unit × zq_S)) (v : Int32 × zq_S) : Option (Unit × zq_S) :=
  if (zgf v.2 57 6) ≤ v.1 then
  k310 v.2
  else
  zq_ck f1 1024 (
  if (zga v.2 78 f1) = (0 : Int32) then
  k310 v.2
  else
  zq_ck f1 1024 (
  zq_ck f1 1024 (
  zq_b2 (mX12_has N (zga v.2 79 f1) v.1 v.2) (fun r35 s36 =>
  if r35 = (0 : Int32) then
  jX12_find_j302 N f1 k310 self v.1 (0 : Int64) (zgl v.2 81 f1) f1 s36
  else
  zq_ck (f1 ||| ((1 : Int32) <<< (v.1 &&& 31))) 1024 (
  jX12_find_j302 N f1 k310 self v.1 (zgl s36 81 (f1 ||| ((1 : Int32) <<< (v.1 &&& 31)))) (zgl v.2 81 f1) f1 s36)))))
set_option maxRecDepth 20000 in
set_option maxHeartbeats 2000000 in
theorem xX12_find_251 (N : Nat)  (f1 : Int32) (k310 : zq_S → Option (Unit × zq_S)) (hk310 : ∀ e, zq_X yX12_find RX12 cX12_find 4 none ⟨1, 0, 0, 21⟩ zv_v 310 [.ref 57, .int f1, .null, .null] [] e (k310 e)) (self : Int32 × zq_S → Option (Unit × zq_S)) (hself : ∀ v, zq_X yX12_find RX12 cX12_find 4 none ⟨1, 0, 0, 21⟩ zv_v 251 [.ref 57, .int f1, .int v.1, .null] [] v.2 (self v)) (v : Int32 × zq_S) : zq_X yX12_find RX12 cX12_find 4 none ⟨1, 0, 0, 21⟩ zv_v 251 [.ref 57, .int f1, .int v.1, .null] [] v.2 (bX12_find_251 N f1 k310 self v) := by
  unfold bX12_find_251
  refine zx_lift (pc' := 252) (fun _ => zq_iload_n rfl rfl dX12_find_251 rfl) ?_
  refine zx_lift (pc' := 253) (fun _ => zq_aload_n rfl rfl dX12_find_252 rfl) ?_
  refine zx_lift (pc' := 256) (fun _ => zt_getI zfr_X12_141 zfd_57_6 dX12_find_253 rfl) ?_
  refine zx_icmp_ge (pc' := 259) (tgt := 310) dX12_find_256 rfl rfl (fun hc => ?_) (fun hc => ?_)
  · refine zx_less [.ref 57, .int f1, .null, .null] (zq_cr (zq_cr (zq_cz (zq_cz zq_cn)))) ?_
    exact hk310 v.2
  · refine zx_lift (pc' := 260) (fun _ => zq_aload_n rfl rfl dX12_find_259 rfl) ?_
    refine zx_lift (pc' := 263) (fun _ => zt_getR zfr_X12_75 zfd_57_38 dX12_find_260 rfl) ?_
    refine zx_lift (pc' := 264) (fun _ => zq_iload_n rfl rfl dX12_find_263 rfl) ?_
    refine zx_zaload (pc' := 265) zsh_78 dX12_find_264 rfl ?_
    refine zx_if_eq (pc' := 268) (tgt := 310) dX12_find_265 rfl rfl (fun hc => ?_) (fun hc => ?_)
    · refine zx_less [.ref 57, .int f1, .null, .null] (zq_cr (zq_cr (zq_cz (zq_cz zq_cn)))) ?_
      exact hk310 v.2
    · refine zx_lift (pc' := 269) (fun _ => zq_aload_n rfl rfl dX12_find_268 rfl) ?_
      refine zx_lift (pc' := 272) (fun _ => zt_getR zfr_X12_85 zfd_57_41 dX12_find_269 rfl) ?_
      refine zx_lift (pc' := 273) (fun _ => zq_iload_n rfl rfl dX12_find_272 rfl) ?_
      refine zx_lift (pc' := 274) (fun _ => zq_dup2 rfl rfl dX12_find_273 rfl) ?_
      refine zx_laload (pc' := 275) zsh_81 dX12_find_274 rfl ?_
      refine zx_lift (pc' := 276) (fun _ => zq_aload_n rfl rfl dX12_find_275 rfl) ?_
      refine zx_lift (pc' := 279) (fun _ => zt_getR zfr_X12_78 zfd_57_39 dX12_find_276 rfl) ?_
      refine zx_lift (pc' := 280) (fun _ => zq_iload_n rfl rfl dX12_find_279 rfl) ?_
      refine zx_iaload (pc' := 281) zsh_79 dX12_find_280 rfl ?_
      refine zx_lift (pc' := 282) (fun _ => zq_iload_n rfl rfl dX12_find_281 rfl) ?_
      refine zx_cSi (pc' := 285) zcs_X12_189 (cX12_has_mc N (zga v.2 79 f1) v.1 v.2) rfl (by decide) (Nat.le_of_ble_eq_true rfl) dX12_find_282 rfl rfl (fun r35 s36 => ?_)
      refine zx_if_eq (pc' := 288) (tgt := 301) dX12_find_285 rfl rfl (fun hc => ?_) (fun hc => ?_)
      · refine zx_lift (pc' := 302) (fun _ => zq_lconst (v := 0) dX12_find_301 rfl rfl) ?_
        exact xX12_find_j302_j N f1 k310 hk310 self hself v.1 (0 : Int64) (zgl v.2 81 f1) f1 s36
      · refine zx_lift (pc' := 289) (fun _ => zq_aload_n rfl rfl dX12_find_288 rfl) ?_
        refine zx_lift (pc' := 292) (fun _ => zt_getR zfr_X12_85 zfd_57_41 dX12_find_289 rfl) ?_
        refine zx_lift (pc' := 293) (fun _ => zq_iload_n rfl rfl dX12_find_292 rfl) ?_
        refine zx_lift (pc' := 294) (fun _ => zq_iconst (v := 1) dX12_find_293 rfl rfl) ?_
        refine zx_lift (pc' := 295) (fun _ => zq_iload_n rfl rfl dX12_find_294 rfl) ?_
        refine zx_lift (pc' := 296) (fun _ => zq_ishl dX12_find_295 rfl) ?_
        refine zx_lift (pc' := 297) (fun _ => zq_ior dX12_find_296 rfl) ?_
        refine zx_laload (pc' := 298) zsh_81 dX12_find_297 rfl ?_
        refine zx_lift (pc' := 302) (fun _ => zq_goto dX12_find_298 rfl) ?_
        exact xX12_find_j302_j N f1 k310 hk310 self hself v.1 (zgl s36 81 (f1 ||| ((1 : Int32) <<< (v.1 &&& 31)))) (zgl v.2 81 f1) f1 s36
theorem yX12_find_251 (N : Nat)  (f1 : Int32) (k310 : zq_S → Option (Unit × zq_S)) (hk310 : ∀ e, zq_X yX12_find RX12 cX12_find 4 none ⟨1, 0, 0, 21⟩ zv_v 310 [.ref 57, .int f1, .null, .null] [] e (k310 e)) (n : Nat) : ∀ v : Int32 × zq_S, zq_X yX12_find RX12 cX12_find 4 none ⟨1, 0, 0, 21⟩ zv_v 251 [.ref 57, .int f1, .int v.1, .null] [] v.2 (zq_loop (bX12_find_251 N f1 k310) n v) := by
  induction n with
  | zero => exact fun v u hu => by cases hu
  | succ n ih =>
    intro v
    rw [zq_loop_s]
    exact xX12_find_251 N f1 k310 hk310 (zq_loop (bX12_find_251 N f1 k310) n) ih v
def jX12_find_j310 (N : Nat)    (self : Int32 × zq_S → Option (Unit × zq_S)) (w1 : Int32) (s : zq_S) : Option (Unit × zq_S) :=
  zq_let (w1 + (-1 : Int32)) (fun x40 =>
  self (x40, s))
set_option maxRecDepth 20000 in
set_option maxHeartbeats 2000000 in
theorem xX12_find_j310_j (N : Nat)    (self : Int32 × zq_S → Option (Unit × zq_S)) (hself : ∀ v, zq_X yX12_find RX12 cX12_find 4 none ⟨1, 0, 0, 21⟩ zv_v 226 [.ref 57, .int v.1, .null, .null] [] v.2 (self v)) (w1 : Int32) (s : zq_S) : zq_X yX12_find RX12 cX12_find 4 none ⟨1, 0, 0, 21⟩ zv_v 310 [.ref 57, .int w1, .null, .null] [] s (jX12_find_j310 N self w1 s) := by
  unfold jX12_find_j310
  refine zx_iinc (pc' := 313) (ls' := fun x40 => [.ref 57, .int x40, .null, .null]) rfl rfl (by decide) rfl (fun _ => rfl) dX12_find_310 rfl (fun x40 => ?_)
  refine zx_lift (pc' := 226) (fun _ => zq_goto dX12_find_313 rfl) ?_
  exact hself (x40, s)
def bX12_find_226 (N : Nat)    (self : Int32 × zq_S → Option (Unit × zq_S)) (v : Int32 × zq_S) : Option (Unit × zq_S) :=
  if v.1 < (0 : Int32) then
  zq_let (zpf v.2 57 37 (1 : Int32)) (fun s30 =>
  some ((), s30))
  else
  zq_b2 (mX12_all N v.2) (fun r31 s32 =>
  zq_let (if v.1 = r31 then (1 : Int64) else (0 : Int64)) (fun x33 =>
  zq_ck v.1 1024 (
  zq_let (zpl s32 81 v.1 x33) (fun s34 =>
  zq_loop (bX12_find_251 N v.1 (fun e39 =>
  jX12_find_j310 N self v.1 e39)) N ((0 : Int32), s34)))))
set_option maxRecDepth 20000 in
set_option maxHeartbeats 2000000 in
theorem xX12_find_226 (N : Nat)    (self : Int32 × zq_S → Option (Unit × zq_S)) (hself : ∀ v, zq_X yX12_find RX12 cX12_find 4 none ⟨1, 0, 0, 21⟩ zv_v 226 [.ref 57, .int v.1, .null, .null] [] v.2 (self v)) (v : Int32 × zq_S) : zq_X yX12_find RX12 cX12_find 4 none ⟨1, 0, 0, 21⟩ zv_v 226 [.ref 57, .int v.1, .null, .null] [] v.2 (bX12_find_226 N self v) := by
  unfold bX12_find_226
  refine zx_lift (pc' := 227) (fun _ => zq_iload_n rfl rfl dX12_find_226 rfl) ?_
  refine zx_if_lt (pc' := 230) (tgt := 316) dX12_find_227 rfl rfl (fun hc => ?_) (fun hc => ?_)
  · refine zx_lift (pc' := 317) (fun _ => zq_aload_n rfl rfl dX12_find_316 rfl) ?_
    refine zx_lift (pc' := 318) (fun _ => zq_iconst (v := 1) dX12_find_317 rfl rfl) ?_
    refine zx_putI (pc' := 321) zfr_X12_277 (fun _ => ⟨by decide, rfl⟩) zfd_57_37 dX12_find_318 rfl (fun s30 => ?_)
    exact zx_vret rfl dX12_find_321
  · refine zx_lift (pc' := 231) (fun _ => zq_aload_n rfl rfl dX12_find_230 rfl) ?_
    refine zx_lift (pc' := 234) (fun _ => zt_getR zfr_X12_85 zfd_57_41 dX12_find_231 rfl) ?_
    refine zx_lift (pc' := 235) (fun _ => zq_iload_n rfl rfl dX12_find_234 rfl) ?_
    refine zx_lift (pc' := 236) (fun _ => zq_iload_n rfl rfl dX12_find_235 rfl) ?_
    refine zx_lift (pc' := 237) (fun _ => zq_aload_n rfl rfl dX12_find_236 rfl) ?_
    refine zx_cVi (pc' := 240) zcv_X12_148 (cX12_all_mc N v.2) zob_57 rfl (by decide) (Nat.le_of_ble_eq_true rfl) dX12_find_237 rfl rfl (fun r31 s32 => ?_)
    refine zx_tern (pcJ := 248) (lsJ := fun x33 => [.ref 57, .int v.1, .null, .null]) (stJ := fun x33 => [.long x33, .int v.1, .ref 81]) (fun x33 => ?_) (fun f hJ => ?_)
    rotate_left
    · refine zx_licmp_ne (pc' := 243) (tgt := 247) dX12_find_240 rfl rfl (fun _ => ?_) (fun _ => ?_)
      · refine zx_lift (pc' := 248) (fun _ => zq_lconst (v := 0) dX12_find_247 rfl rfl) ?_
        exact zx_lessJ (zq_cr (zq_cr (zq_cz (zq_cz zq_cn)))) (hJ _)
      · refine zx_lift (pc' := 244) (fun _ => zq_lconst (v := 1) dX12_find_243 rfl rfl) ?_
        refine zx_lift (pc' := 248) (fun _ => zq_goto dX12_find_244 rfl) ?_
        exact zx_lessJ (zq_cr (zq_cr (zq_cz (zq_cz zq_cn)))) (hJ _)
    refine zx_lastore (pc' := 249) zsh_81 dX12_find_248 rfl (fun s34 => ?_)
    refine zx_lift (pc' := 250) (fun _ => zq_iconst (v := 0) dX12_find_249 rfl rfl) ?_
    refine zx_lift (pc' := 251) (fun _ => zq_istore_n (ls' := [.ref 57, .int v.1, .int (0 : Int32), .null]) rfl (by decide) rfl rfl dX12_find_250 rfl) ?_
    refine yX12_find_251 N v.1 _ (fun e39 => ?_) N ((0 : Int32), s34)
    exact xX12_find_j310_j N self hself v.1 e39
theorem yX12_find_226 (N : Nat)    (n : Nat) : ∀ v : Int32 × zq_S, zq_X yX12_find RX12 cX12_find 4 none ⟨1, 0, 0, 21⟩ zv_v 226 [.ref 57, .int v.1, .null, .null] [] v.2 (zq_loop (bX12_find_226 N ) n v) := by
  induction n with
  | zero => exact fun v u hu => by cases hu
  | succ n ih =>
    intro v
    rw [zq_loop_s]
    exact xX12_find_226 N  (zq_loop (bX12_find_226 N ) n) ih v
def mX12_find (N : Nat)   (s : zq_S) : Option (Unit × zq_S) :=
  if (zgf s 57 37) = (0 : Int32) then
  zq_loop (bX12_find_10 N (fun e18 =>
  zq_loop (bX12_find_150 N (fun e27 =>
  zq_b2 (mX12_all N e27) (fun r28 s29 =>
  zq_loop (bX12_find_226 N ) N (r28, s29)))) N ((0 : Int32), e18))) N ((0 : Int32), s)
  else
  some ((), s)
set_option maxRecDepth 20000 in
set_option maxHeartbeats 2000000 in
theorem xX12_find (N : Nat)   (s : zq_S) : zq_X yX12_find RX12 cX12_find 4 none ⟨1, 0, 0, 21⟩ zv_v 0 [.ref 57, .null, .null, .null] [] s (mX12_find N s) := by
  unfold mX12_find
  refine zx_lift (pc' := 1) (fun _ => zq_aload_n rfl rfl dX12_find_0 rfl) ?_
  refine zx_lift (pc' := 4) (fun _ => zt_getI zfr_X12_277 zfd_57_37 dX12_find_1 rfl) ?_
  refine zx_if_eq (pc' := 7) (tgt := 8) dX12_find_4 rfl rfl (fun hc => ?_) (fun hc => ?_)
  · refine zx_lift (pc' := 9) (fun _ => zq_iconst (v := 0) dX12_find_8 rfl rfl) ?_
    refine zx_lift (pc' := 10) (fun _ => zq_istore_n (ls' := [.ref 57, .int (0 : Int32), .null, .null]) rfl (by decide) rfl rfl dX12_find_9 rfl) ?_
    refine yX12_find_10 N _ (fun e18 => ?_) N ((0 : Int32), s)
    refine zx_lift (pc' := 149) (fun _ => zq_iconst (v := 0) dX12_find_148 rfl rfl) ?_
    refine zx_lift (pc' := 150) (fun _ => zq_istore_n (ls' := [.ref 57, .int (0 : Int32), .null, .null]) rfl (by decide) rfl rfl dX12_find_149 rfl) ?_
    refine yX12_find_150 N _ (fun e27 => ?_) N ((0 : Int32), e18)
    refine zx_lift (pc' := 222) (fun _ => zq_aload_n rfl rfl dX12_find_221 rfl) ?_
    refine zx_cVi (pc' := 225) zcv_X12_148 (cX12_all_mc N e27) zob_57 rfl (by decide) (Nat.le_of_ble_eq_true rfl) dX12_find_222 rfl rfl (fun r28 s29 => ?_)
    refine zx_lift (pc' := 226) (fun _ => zq_istore_n (ls' := [.ref 57, .int r28, .null, .null]) rfl (by decide) rfl rfl dX12_find_225 rfl) ?_
    refine yX12_find_226 N  N (r28, s29)
  · exact zx_vret rfl dX12_find_7
theorem cX12_find_mc (N : Nat)   (s : zq_S) (v : Unit × zq_S) (h : mX12_find N s = some v) : zq_MC yX12_find cX12_find 4 none ⟨1, 0, 0, 21⟩ 0 0 [.ref 57] (zq_en s) (zv_v v.1, zq_en v.2) := zq_MC_x [.ref 57, .null, .null, .null] (by decide +kernel) rfl rfl (Nat.le_of_ble_eq_true rfl) (xX12_find N s) h
def jX12_ahead_j21 (N : Nat)    (s : zq_S) : Option (Int64 × zq_S) :=
  some ((-1001 : Int64), s)
set_option maxRecDepth 20000 in
set_option maxHeartbeats 2000000 in
theorem xX12_ahead_j21_j (N : Nat)    (s : zq_S) : zq_X yX12_ahead RX12 cX12_ahead 7 (some .long) ⟨2, 0, 0, 46⟩ zv_l 21 [.null, .null, .null, .null, .null, .null, .null] [] s (jX12_ahead_j21 N s) := by
  unfold jX12_ahead_j21
  refine zx_lift (pc' := 24) (fun _ => zq_ldc2 zk_X12_316 dX12_ahead_21 rfl) ?_
  exact zx_lret rfl dX12_ahead_24
def jX12_ahead_j112 (N : Nat)  (f1 : Int32) (f2 : Int32)  (self : Int64 × Int32 × zq_S → Option (Int64 × zq_S)) (w5 : Int32) (t0 : Int64) (t1 : Int64) (s : zq_S) : Option (Int64 × zq_S) :=
  zq_let (t1 + t0) (fun x9 =>
  zq_let (w5 + (1 : Int32)) (fun x10 =>
  self (x9, x10, s)))
set_option maxRecDepth 20000 in
set_option maxHeartbeats 2000000 in
theorem xX12_ahead_j112_j (N : Nat)  (f1 : Int32) (f2 : Int32)  (self : Int64 × Int32 × zq_S → Option (Int64 × zq_S)) (hself : ∀ v, zq_X yX12_ahead RX12 cX12_ahead 7 (some .long) ⟨2, 0, 0, 46⟩ zv_l 34 [.ref 57, .int f1, .int f2, .long v.1, .null, .int v.2.1, .null] [] v.2.2 (self v)) (w5 : Int32) (t0 : Int64) (t1 : Int64) (s : zq_S) : zq_X yX12_ahead RX12 cX12_ahead 7 (some .long) ⟨2, 0, 0, 46⟩ zv_l 112 [.ref 57, .int f1, .int f2, .null, .null, .int w5, .null] [.long t0, .long t1] s (jX12_ahead_j112 N f1 f2 self w5 t0 t1 s) := by
  unfold jX12_ahead_j112
  refine zx_lift (pc' := 113) (fun _ => zq_ladd dX12_ahead_112 rfl) ?_
  refine zx_lstore_n (pc' := 114) (ls' := fun x9 => [.ref 57, .int f1, .int f2, .long x9, .null, .int w5, .null]) rfl (by decide) rfl (fun _ => rfl) dX12_ahead_113 rfl (fun x9 => ?_)
  refine zx_iinc (pc' := 117) (ls' := fun x10 => [.ref 57, .int f1, .int f2, .long x9, .null, .int x10, .null]) rfl rfl (by decide) rfl (fun _ => rfl) dX12_ahead_114 rfl (fun x10 => ?_)
  refine zx_lift (pc' := 34) (fun _ => zq_goto dX12_ahead_117 rfl) ?_
  exact hself (x9, x10, s)
def jX12_ahead_j81 (N : Nat)  (f1 : Int32) (f2 : Int32)  (self : Int64 × Int32 × zq_S → Option (Int64 × zq_S)) (w3 : Int64) (w5 : Int32) (t0 : Int32) (s : zq_S) : Option (Int64 × zq_S) :=
  if t0 = (0 : Int32) then
  jX12_ahead_j112 N f1 f2 self w5 (0 : Int64) w3 s
  else
  zq_ck w5 1024 (
  zq_ck (w5 ||| ((1 : Int32) <<< (f2 &&& 31))) 1024 (
  jX12_ahead_j112 N f1 f2 self w5 ((zgl s 80 w5) * (zgl s 81 (w5 ||| ((1 : Int32) <<< (f2 &&& 31))))) w3 s))
set_option maxRecDepth 20000 in
set_option maxHeartbeats 2000000 in
theorem xX12_ahead_j81_j (N : Nat)  (f1 : Int32) (f2 : Int32)  (self : Int64 × Int32 × zq_S → Option (Int64 × zq_S)) (hself : ∀ v, zq_X yX12_ahead RX12 cX12_ahead 7 (some .long) ⟨2, 0, 0, 46⟩ zv_l 34 [.ref 57, .int f1, .int f2, .long v.1, .null, .int v.2.1, .null] [] v.2.2 (self v)) (w3 : Int64) (w5 : Int32) (t0 : Int32) (s : zq_S) : zq_X yX12_ahead RX12 cX12_ahead 7 (some .long) ⟨2, 0, 0, 46⟩ zv_l 81 [.ref 57, .int f1, .int f2, .long w3, .null, .int w5, .null] [.int t0] s (jX12_ahead_j81 N f1 f2 self w3 w5 t0 s) := by
  unfold jX12_ahead_j81
  refine zx_lift (pc' := 83) (fun _ => zq_istore (ls' := [.ref 57, .int f1, .int f2, .long w3, .null, .int w5, .int t0]) (by decide) rfl rfl dX12_ahead_81 rfl) ?_
  refine zx_lift (pc' := 84) (fun _ => zq_lload_n rfl rfl dX12_ahead_83 rfl) ?_
  refine zx_lift (pc' := 86) (fun _ => zq_iload rfl dX12_ahead_84 rfl) ?_
  refine zx_if_eq (pc' := 89) (tgt := 111) dX12_ahead_86 rfl rfl (fun hc => ?_) (fun hc => ?_)
  · refine zx_lift (pc' := 112) (fun _ => zq_lconst (v := 0) dX12_ahead_111 rfl rfl) ?_
    refine zx_less [.ref 57, .int f1, .int f2, .null, .null, .int w5, .null] (zq_cr (zq_cr (zq_cr (zq_cz (zq_cz (zq_cr (zq_cz zq_cn))))))) ?_
    exact xX12_ahead_j112_j N f1 f2 self hself w5 (0 : Int64) w3 s
  · refine zx_lift (pc' := 90) (fun _ => zq_aload_n rfl rfl dX12_ahead_89 rfl) ?_
    refine zx_lift (pc' := 93) (fun _ => zt_getR zfr_X12_81 zfd_57_40 dX12_ahead_90 rfl) ?_
    refine zx_lift (pc' := 95) (fun _ => zq_iload rfl dX12_ahead_93 rfl) ?_
    refine zx_laload (pc' := 96) zsh_80 dX12_ahead_95 rfl ?_
    refine zx_lift (pc' := 97) (fun _ => zq_aload_n rfl rfl dX12_ahead_96 rfl) ?_
    refine zx_lift (pc' := 100) (fun _ => zt_getR zfr_X12_85 zfd_57_41 dX12_ahead_97 rfl) ?_
    refine zx_lift (pc' := 102) (fun _ => zq_iload rfl dX12_ahead_100 rfl) ?_
    refine zx_lift (pc' := 103) (fun _ => zq_iconst (v := 1) dX12_ahead_102 rfl rfl) ?_
    refine zx_lift (pc' := 104) (fun _ => zq_iload_n rfl rfl dX12_ahead_103 rfl) ?_
    refine zx_lift (pc' := 105) (fun _ => zq_ishl dX12_ahead_104 rfl) ?_
    refine zx_lift (pc' := 106) (fun _ => zq_ior dX12_ahead_105 rfl) ?_
    refine zx_laload (pc' := 107) zsh_81 dX12_ahead_106 rfl ?_
    refine zx_lift (pc' := 108) (fun _ => zq_lmul dX12_ahead_107 rfl) ?_
    refine zx_lift (pc' := 112) (fun _ => zq_goto dX12_ahead_108 rfl) ?_
    refine zx_less [.ref 57, .int f1, .int f2, .null, .null, .int w5, .null] (zq_cr (zq_cr (zq_cr (zq_cz (zq_cz (zq_cr (zq_cz zq_cn))))))) ?_
    exact xX12_ahead_j112_j N f1 f2 self hself w5 ((zgl s 80 w5) * (zgl s 81 (w5 ||| ((1 : Int32) <<< (f2 &&& 31))))) w3 s
def jX12_ahead_j80 (N : Nat)  (f1 : Int32) (f2 : Int32)  (self : Int64 × Int32 × zq_S → Option (Int64 × zq_S)) (w3 : Int64) (w5 : Int32) (s : zq_S) : Option (Int64 × zq_S) :=
  jX12_ahead_j81 N f1 f2 self w3 w5 (0 : Int32) s
set_option maxRecDepth 20000 in
set_option maxHeartbeats 2000000 in
theorem xX12_ahead_j80_j (N : Nat)  (f1 : Int32) (f2 : Int32)  (self : Int64 × Int32 × zq_S → Option (Int64 × zq_S)) (hself : ∀ v, zq_X yX12_ahead RX12 cX12_ahead 7 (some .long) ⟨2, 0, 0, 46⟩ zv_l 34 [.ref 57, .int f1, .int f2, .long v.1, .null, .int v.2.1, .null] [] v.2.2 (self v)) (w3 : Int64) (w5 : Int32) (s : zq_S) : zq_X yX12_ahead RX12 cX12_ahead 7 (some .long) ⟨2, 0, 0, 46⟩ zv_l 80 [.ref 57, .int f1, .int f2, .long w3, .null, .int w5, .null] [] s (jX12_ahead_j80 N f1 f2 self w3 w5 s) := by
  unfold jX12_ahead_j80
  refine zx_lift (pc' := 81) (fun _ => zq_iconst (v := 0) dX12_ahead_80 rfl rfl) ?_
  exact xX12_ahead_j81_j N f1 f2 self hself w3 w5 (0 : Int32) s
def bX12_ahead_34 (N : Nat)  (f1 : Int32) (f2 : Int32)  (self : Int64 × Int32 × zq_S → Option (Int64 × zq_S)) (v : Int64 × Int32 × zq_S) : Option (Int64 × zq_S) :=
  zq_b2 (mX12_all N v.2.2) (fun r7 s8 =>
  if r7 < v.2.1 then
  some (v.1, s8)
  else
  zq_ck v.2.1 1024 (
  if (zga s8 78 v.2.1) = (0 : Int32) then
  jX12_ahead_j80 N f1 f2 self v.1 v.2.1 s8
  else
  zq_b2 (mX12_has N v.2.1 f1 s8) (fun r11 s12 =>
  if r11 = (0 : Int32) then
  jX12_ahead_j80 N f1 f2 self v.1 v.2.1 s12
  else
  zq_ck v.2.1 1024 (
  zq_b2 (mX12_has N (zga s12 79 v.2.1) f2 s12) (fun r13 s14 =>
  if r13 = (0 : Int32) then
  jX12_ahead_j80 N f1 f2 self v.1 v.2.1 s14
  else
  jX12_ahead_j81 N f1 f2 self v.1 v.2.1 (1 : Int32) s14)))))
set_option maxRecDepth 20000 in
set_option maxHeartbeats 2000000 in
theorem xX12_ahead_34 (N : Nat)  (f1 : Int32) (f2 : Int32)  (self : Int64 × Int32 × zq_S → Option (Int64 × zq_S)) (hself : ∀ v, zq_X yX12_ahead RX12 cX12_ahead 7 (some .long) ⟨2, 0, 0, 46⟩ zv_l 34 [.ref 57, .int f1, .int f2, .long v.1, .null, .int v.2.1, .null] [] v.2.2 (self v)) (v : Int64 × Int32 × zq_S) : zq_X yX12_ahead RX12 cX12_ahead 7 (some .long) ⟨2, 0, 0, 46⟩ zv_l 34 [.ref 57, .int f1, .int f2, .long v.1, .null, .int v.2.1, .null] [] v.2.2 (bX12_ahead_34 N f1 f2 self v) := by
  unfold bX12_ahead_34
  refine zx_lift (pc' := 36) (fun _ => zq_iload rfl dX12_ahead_34 rfl) ?_
  refine zx_lift (pc' := 37) (fun _ => zq_aload_n rfl rfl dX12_ahead_36 rfl) ?_
  refine zx_cVi (pc' := 40) zcv_X12_148 (cX12_all_mc N v.2.2) zob_57 rfl (by decide) (Nat.le_of_ble_eq_true rfl) dX12_ahead_37 rfl rfl (fun r7 s8 => ?_)
  refine zx_icmp_gt (pc' := 43) (tgt := 120) dX12_ahead_40 rfl rfl (fun hc => ?_) (fun hc => ?_)
  · refine zx_lift (pc' := 121) (fun _ => zq_lload_n rfl rfl dX12_ahead_120 rfl) ?_
    exact zx_lret rfl dX12_ahead_121
  · refine zx_lift (pc' := 44) (fun _ => zq_aload_n rfl rfl dX12_ahead_43 rfl) ?_
    refine zx_lift (pc' := 47) (fun _ => zt_getR zfr_X12_75 zfd_57_38 dX12_ahead_44 rfl) ?_
    refine zx_lift (pc' := 49) (fun _ => zq_iload rfl dX12_ahead_47 rfl) ?_
    refine zx_zaload (pc' := 50) zsh_78 dX12_ahead_49 rfl ?_
    refine zx_if_eq (pc' := 53) (tgt := 80) dX12_ahead_50 rfl rfl (fun hc => ?_) (fun hc => ?_)
    · exact xX12_ahead_j80_j N f1 f2 self hself v.1 v.2.1 s8
    · refine zx_lift (pc' := 55) (fun _ => zq_iload rfl dX12_ahead_53 rfl) ?_
      refine zx_lift (pc' := 56) (fun _ => zq_iload_n rfl rfl dX12_ahead_55 rfl) ?_
      refine zx_cSi (pc' := 59) zcs_X12_189 (cX12_has_mc N v.2.1 f1 s8) rfl (by decide) (Nat.le_of_ble_eq_true rfl) dX12_ahead_56 rfl rfl (fun r11 s12 => ?_)
      refine zx_if_eq (pc' := 62) (tgt := 80) dX12_ahead_59 rfl rfl (fun hc => ?_) (fun hc => ?_)
      · exact xX12_ahead_j80_j N f1 f2 self hself v.1 v.2.1 s12
      · refine zx_lift (pc' := 63) (fun _ => zq_aload_n rfl rfl dX12_ahead_62 rfl) ?_
        refine zx_lift (pc' := 66) (fun _ => zt_getR zfr_X12_78 zfd_57_39 dX12_ahead_63 rfl) ?_
        refine zx_lift (pc' := 68) (fun _ => zq_iload rfl dX12_ahead_66 rfl) ?_
        refine zx_iaload (pc' := 69) zsh_79 dX12_ahead_68 rfl ?_
        refine zx_lift (pc' := 70) (fun _ => zq_iload_n rfl rfl dX12_ahead_69 rfl) ?_
        refine zx_cSi (pc' := 73) zcs_X12_189 (cX12_has_mc N (zga s12 79 v.2.1) f2 s12) rfl (by decide) (Nat.le_of_ble_eq_true rfl) dX12_ahead_70 rfl rfl (fun r13 s14 => ?_)
        refine zx_if_eq (pc' := 76) (tgt := 80) dX12_ahead_73 rfl rfl (fun hc => ?_) (fun hc => ?_)
        · exact xX12_ahead_j80_j N f1 f2 self hself v.1 v.2.1 s14
        · refine zx_lift (pc' := 77) (fun _ => zq_iconst (v := 1) dX12_ahead_76 rfl rfl) ?_
          refine zx_lift (pc' := 81) (fun _ => zq_goto dX12_ahead_77 rfl) ?_
          exact xX12_ahead_j81_j N f1 f2 self hself v.1 v.2.1 (1 : Int32) s14
theorem yX12_ahead_34 (N : Nat)  (f1 : Int32) (f2 : Int32)  (n : Nat) : ∀ v : Int64 × Int32 × zq_S, zq_X yX12_ahead RX12 cX12_ahead 7 (some .long) ⟨2, 0, 0, 46⟩ zv_l 34 [.ref 57, .int f1, .int f2, .long v.1, .null, .int v.2.1, .null] [] v.2.2 (zq_loop (bX12_ahead_34 N f1 f2 ) n v) := by
  induction n with
  | zero => exact fun v u hu => by cases hu
  | succ n ih =>
    intro v
    rw [zq_loop_s]
    exact xX12_ahead_34 N f1 f2  (zq_loop (bX12_ahead_34 N f1 f2 ) n) ih v
def mX12_ahead (N : Nat)  (p1 : Int32) (p2 : Int32) (s : zq_S) : Option (Int64 × zq_S) :=
  zq_b2 (mX12_isMark N p1 s) (fun r1 s2 =>
  if r1 = (0 : Int32) then
  jX12_ahead_j21 N s2
  else
  zq_b2 (mX12_isMark N p2 s2) (fun r3 s4 =>
  if r3 = (0 : Int32) then
  jX12_ahead_j21 N s4
  else
  if p1 = p2 then
  jX12_ahead_j21 N s4
  else
  zq_b2 (mX12_find N s4) (fun r5 s6 =>
  zq_loop (bX12_ahead_34 N p1 p2 ) N ((0 : Int64), (0 : Int32), s6))))
set_option maxRecDepth 20000 in
set_option maxHeartbeats 2000000 in
theorem xX12_ahead (N : Nat)  (p1 : Int32) (p2 : Int32) (s : zq_S) : zq_X yX12_ahead RX12 cX12_ahead 7 (some .long) ⟨2, 0, 0, 46⟩ zv_l 0 [.ref 57, .int p1, .int p2, .null, .null, .null, .null] [] s (mX12_ahead N p1 p2 s) := by
  unfold mX12_ahead
  refine zx_lift (pc' := 1) (fun _ => zq_aload_n rfl rfl dX12_ahead_0 rfl) ?_
  refine zx_lift (pc' := 2) (fun _ => zq_iload_n rfl rfl dX12_ahead_1 rfl) ?_
  refine zx_cVi (pc' := 5) zcv_X12_280 (cX12_isMark_mc N p1 s) zob_57 rfl (by decide) (Nat.le_of_ble_eq_true rfl) dX12_ahead_2 rfl rfl (fun r1 s2 => ?_)
  refine zx_if_eq (pc' := 8) (tgt := 21) dX12_ahead_5 rfl rfl (fun hc => ?_) (fun hc => ?_)
  · refine zx_less [.null, .null, .null, .null, .null, .null, .null] (zq_cz (zq_cz (zq_cz (zq_cz (zq_cz (zq_cz (zq_cz zq_cn))))))) ?_
    exact xX12_ahead_j21_j N s2
  · refine zx_lift (pc' := 9) (fun _ => zq_aload_n rfl rfl dX12_ahead_8 rfl) ?_
    refine zx_lift (pc' := 10) (fun _ => zq_iload_n rfl rfl dX12_ahead_9 rfl) ?_
    refine zx_cVi (pc' := 13) zcv_X12_280 (cX12_isMark_mc N p2 s2) zob_57 rfl (by decide) (Nat.le_of_ble_eq_true rfl) dX12_ahead_10 rfl rfl (fun r3 s4 => ?_)
    refine zx_if_eq (pc' := 16) (tgt := 21) dX12_ahead_13 rfl rfl (fun hc => ?_) (fun hc => ?_)
    · refine zx_less [.null, .null, .null, .null, .null, .null, .null] (zq_cz (zq_cz (zq_cz (zq_cz (zq_cz (zq_cz (zq_cz zq_cn))))))) ?_
      exact xX12_ahead_j21_j N s4
    · refine zx_lift (pc' := 17) (fun _ => zq_iload_n rfl rfl dX12_ahead_16 rfl) ?_
      refine zx_lift (pc' := 18) (fun _ => zq_iload_n rfl rfl dX12_ahead_17 rfl) ?_
      refine zx_icmp_ne (pc' := 21) (tgt := 25) dX12_ahead_18 rfl rfl (fun hc => ?_) (fun hc => ?_)
      · refine zx_lift (pc' := 26) (fun _ => zq_aload_n rfl rfl dX12_ahead_25 rfl) ?_
        refine zx_cVv (pc' := 29) zcv_X12_307 (cX12_find_mc N s4) zob_57 rfl (by decide) (Nat.le_of_ble_eq_true rfl) dX12_ahead_26 rfl rfl (fun r5 s6 => ?_)
        refine zx_lift (pc' := 30) (fun _ => zq_lconst (v := 0) dX12_ahead_29 rfl rfl) ?_
        refine zx_lift (pc' := 31) (fun _ => zq_lstore_n (ls' := [.ref 57, .int p1, .int p2, .long (0 : Int64), .null, .null, .null]) rfl (by decide) rfl rfl dX12_ahead_30 rfl) ?_
        refine zx_lift (pc' := 32) (fun _ => zq_iconst (v := 0) dX12_ahead_31 rfl rfl) ?_
        refine zx_lift (pc' := 34) (fun _ => zq_istore (ls' := [.ref 57, .int p1, .int p2, .long (0 : Int64), .null, .int (0 : Int32), .null]) (by decide) rfl rfl dX12_ahead_32 rfl) ?_
        refine yX12_ahead_34 N p1 p2  N ((0 : Int64), (0 : Int32), s6)
      · refine zx_less [.null, .null, .null, .null, .null, .null, .null] (zq_cz (zq_cz (zq_cz (zq_cz (zq_cz (zq_cz (zq_cz zq_cn))))))) ?_
        exact xX12_ahead_j21_j N s4
theorem cX12_ahead_mc (N : Nat)  (p1 : Int32) (p2 : Int32) (s : zq_S) (v : Int64 × zq_S) (h : mX12_ahead N p1 p2 s = some v) : zq_MC yX12_ahead cX12_ahead 7 (some .long) ⟨2, 0, 0, 46⟩ 0 0 [.ref 57, .int p1, .int p2] (zq_en s) (zv_l v.1, zq_en v.2) := zq_MC_x [.ref 57, .int p1, .int p2, .null, .null, .null, .null] (by decide +kernel) rfl rfl (Nat.le_of_ble_eq_true rfl) (xX12_ahead N p1 p2 s) h
def mX12_areMarks (N : Nat)  (p1 : Int32) (s : zq_S) : Option (Int32 × zq_S) :=
  zq_b2 (mX12_all N s) (fun r1 s2 =>
  zq_b2 (mX12_in N (Int32.toInt64 p1) (0 : Int64) (Int32.toInt64 r1) s2) (fun r3 s4 =>
  zq_bz r3 (some (r3, s4))))
set_option maxRecDepth 20000 in
set_option maxHeartbeats 2000000 in
theorem xX12_areMarks (N : Nat)  (p1 : Int32) (s : zq_S) : zq_X yX12_areMarks RX12 cX12_areMarks 2 (some .boolean) ⟨1, 0, 0, 25⟩ zv_i 0 [.ref 57, .int p1] [] s (mX12_areMarks N p1 s) := by
  unfold mX12_areMarks
  refine zx_lift (pc' := 1) (fun _ => zq_iload_n rfl rfl dX12_areMarks_0 rfl) ?_
  refine zx_lift (pc' := 2) (fun _ => zq_i2l dX12_areMarks_1 rfl) ?_
  refine zx_lift (pc' := 3) (fun _ => zq_lconst (v := 0) dX12_areMarks_2 rfl rfl) ?_
  refine zx_lift (pc' := 4) (fun _ => zq_aload_n rfl rfl dX12_areMarks_3 rfl) ?_
  refine zx_cVi (pc' := 7) zcv_X12_148 (cX12_all_mc N s) zob_57 rfl (by decide) (Nat.le_of_ble_eq_true rfl) dX12_areMarks_4 rfl rfl (fun r1 s2 => ?_)
  refine zx_lift (pc' := 8) (fun _ => zq_i2l dX12_areMarks_7 rfl) ?_
  refine zx_cSi (pc' := 11) zcs_X12_144 (cX12_in_mc N (Int32.toInt64 p1) (0 : Int64) (Int32.toInt64 r1) s2) rfl (by decide) (Nat.le_of_ble_eq_true rfl) dX12_areMarks_8 rfl rfl (fun r3 s4 => ?_)
  exact zx_zretg rfl dX12_areMarks_11
theorem cX12_areMarks_mc (N : Nat)  (p1 : Int32) (s : zq_S) (v : Int32 × zq_S) (h : mX12_areMarks N p1 s = some v) : zq_MC yX12_areMarks cX12_areMarks 2 (some .boolean) ⟨1, 0, 0, 25⟩ 0 0 [.ref 57, .int p1] (zq_en s) (zv_i v.1, zq_en v.2) := zq_MC_x [.ref 57, .int p1] (by decide +kernel) rfl rfl (Nat.le_of_ble_eq_true rfl) (xX12_areMarks N p1 s) h
def jX12_isStanding_j50 (N : Nat)   (t0 : Int32) (s : zq_S) : Option (Int32 × zq_S) :=
  zq_bz t0 (some (t0, s))
set_option maxRecDepth 20000 in
set_option maxHeartbeats 2000000 in
theorem xX12_isStanding_j50_j (N : Nat)   (t0 : Int32) (s : zq_S) : zq_X yX12_isStanding RX12 cX12_isStanding 3 (some .boolean) ⟨1, 0, 0, 21⟩ zv_i 50 [.null, .null, .null] [.int t0] s (jX12_isStanding_j50 N t0 s) := by
  unfold jX12_isStanding_j50
  exact zx_zretg rfl dX12_isStanding_50
def jX12_isStanding_j45 (N : Nat)    (s : zq_S) : Option (Int32 × zq_S) :=
  jX12_isStanding_j50 N (1 : Int32) s
set_option maxRecDepth 20000 in
set_option maxHeartbeats 2000000 in
theorem xX12_isStanding_j45_j (N : Nat)    (s : zq_S) : zq_X yX12_isStanding RX12 cX12_isStanding 3 (some .boolean) ⟨1, 0, 0, 21⟩ zv_i 45 [.null, .null, .null] [] s (jX12_isStanding_j45 N s) := by
  unfold jX12_isStanding_j45
  refine zx_lift (pc' := 46) (fun _ => zq_iconst (v := 1) dX12_isStanding_45 rfl rfl) ?_
  refine zx_lift (pc' := 50) (fun _ => zq_goto dX12_isStanding_46 rfl) ?_
  exact xX12_isStanding_j50_j N (1 : Int32) s
def jX12_isStanding_j49 (N : Nat)    (s : zq_S) : Option (Int32 × zq_S) :=
  jX12_isStanding_j50 N (0 : Int32) s
set_option maxRecDepth 20000 in
set_option maxHeartbeats 2000000 in
theorem xX12_isStanding_j49_j (N : Nat)    (s : zq_S) : zq_X yX12_isStanding RX12 cX12_isStanding 3 (some .boolean) ⟨1, 0, 0, 21⟩ zv_i 49 [.null, .null, .null] [] s (jX12_isStanding_j49 N s) := by
  unfold jX12_isStanding_j49
  refine zx_lift (pc' := 50) (fun _ => zq_iconst (v := 0) dX12_isStanding_49 rfl rfl) ?_
  exact xX12_isStanding_j50_j N (0 : Int32) s
def mX12_isStanding (N : Nat)  (p1 : Int32) (p2 : Int32) (s : zq_S) : Option (Int32 × zq_S) :=
  zq_ck p2 400 (
  if (zga s 58 p2) = (2 : Int32) then
  zq_ck p2 400 (
  zq_b2 (mX12_has N p1 (zga s 59 p2) s) (fun r5 s6 =>
  if r5 = (0 : Int32) then
  jX12_isStanding_j45 N s6
  else
  zq_ck p2 400 (
  if (zga s6 60 p2) < (0 : Int32) then
  jX12_isStanding_j49 N s6
  else
  zq_ck p2 400 (
  zq_b2 (mX12_has N p1 (zga s6 60 p2) s6) (fun r7 s8 =>
  if r7 = (0 : Int32) then
  jX12_isStanding_j49 N s8
  else
  jX12_isStanding_j45 N s8)))))
  else
  zq_ck p2 400 (
  zq_b2 (mX12_has N p1 (zga s 59 p2) s) (fun r1 s2 =>
  zq_ck p2 400 (
  zq_let (if (zga s2 58 p2) = (1 : Int32) then (1 : Int32) else (0 : Int32)) (fun x3 =>
  zq_let (if r1 = x3 then (1 : Int32) else (0 : Int32)) (fun x4 =>
  zq_bz x4 (some (x4, s2))))))))
set_option maxRecDepth 20000 in
set_option maxHeartbeats 2000000 in
theorem xX12_isStanding (N : Nat)  (p1 : Int32) (p2 : Int32) (s : zq_S) : zq_X yX12_isStanding RX12 cX12_isStanding 3 (some .boolean) ⟨1, 0, 0, 21⟩ zv_i 0 [.ref 57, .int p1, .int p2] [] s (mX12_isStanding N p1 p2 s) := by
  unfold mX12_isStanding
  refine zx_lift (pc' := 1) (fun _ => zq_aload_n rfl rfl dX12_isStanding_0 rfl) ?_
  refine zx_lift (pc' := 4) (fun _ => zt_getR zfr_X12_7 zfd_57_1 dX12_isStanding_1 rfl) ?_
  refine zx_lift (pc' := 5) (fun _ => zq_iload_n rfl rfl dX12_isStanding_4 rfl) ?_
  refine zx_iaload (pc' := 6) zsh_58 dX12_isStanding_5 rfl ?_
  refine zx_lift (pc' := 7) (fun _ => zq_iconst (v := 2) dX12_isStanding_6 rfl rfl) ?_
  refine zx_icmp_ne (pc' := 10) (tgt := 51) dX12_isStanding_7 rfl rfl (fun hc => ?_) (fun hc => ?_)
  · refine zx_lift (pc' := 52) (fun _ => zq_iload_n rfl rfl dX12_isStanding_51 rfl) ?_
    refine zx_lift (pc' := 53) (fun _ => zq_aload_n rfl rfl dX12_isStanding_52 rfl) ?_
    refine zx_lift (pc' := 56) (fun _ => zt_getR zfr_X12_13 zfd_57_2 dX12_isStanding_53 rfl) ?_
    refine zx_lift (pc' := 57) (fun _ => zq_iload_n rfl rfl dX12_isStanding_56 rfl) ?_
    refine zx_iaload (pc' := 58) zsh_59 dX12_isStanding_57 rfl ?_
    refine zx_cSi (pc' := 61) zcs_X12_189 (cX12_has_mc N p1 (zga s 59 p2) s) rfl (by decide) (Nat.le_of_ble_eq_true rfl) dX12_isStanding_58 rfl rfl (fun r1 s2 => ?_)
    refine zx_lift (pc' := 62) (fun _ => zq_aload_n rfl rfl dX12_isStanding_61 rfl) ?_
    refine zx_lift (pc' := 65) (fun _ => zt_getR zfr_X12_7 zfd_57_1 dX12_isStanding_62 rfl) ?_
    refine zx_lift (pc' := 66) (fun _ => zq_iload_n rfl rfl dX12_isStanding_65 rfl) ?_
    refine zx_iaload (pc' := 67) zsh_58 dX12_isStanding_66 rfl ?_
    refine zx_lift (pc' := 68) (fun _ => zq_iconst (v := 1) dX12_isStanding_67 rfl rfl) ?_
    refine zx_tern (pcJ := 76) (lsJ := fun x3 => [.null, .null, .null]) (stJ := fun x3 => [.int x3, .int r1]) (fun x3 => ?_) (fun f hJ => ?_)
    rotate_left
    · refine zx_licmp_ne (pc' := 71) (tgt := 75) dX12_isStanding_68 rfl rfl (fun _ => ?_) (fun _ => ?_)
      · refine zx_lift (pc' := 76) (fun _ => zq_iconst (v := 0) dX12_isStanding_75 rfl rfl) ?_
        exact zx_lessJ (zq_cz (zq_cz (zq_cz zq_cn))) (hJ _)
      · refine zx_lift (pc' := 72) (fun _ => zq_iconst (v := 1) dX12_isStanding_71 rfl rfl) ?_
        refine zx_lift (pc' := 76) (fun _ => zq_goto dX12_isStanding_72 rfl) ?_
        exact zx_lessJ (zq_cz (zq_cz (zq_cz zq_cn))) (hJ _)
    refine zx_tern (pcJ := 84) (lsJ := fun x4 => [.null, .null, .null]) (stJ := fun x4 => [.int x4]) (fun x4 => ?_) (fun f hJ => ?_)
    rotate_left
    · refine zx_licmp_ne (pc' := 79) (tgt := 83) dX12_isStanding_76 rfl rfl (fun _ => ?_) (fun _ => ?_)
      · refine zx_lift (pc' := 84) (fun _ => zq_iconst (v := 0) dX12_isStanding_83 rfl rfl) ?_
        exact zx_lessJ (zq_cz (zq_cz (zq_cz zq_cn))) (hJ _)
      · refine zx_lift (pc' := 80) (fun _ => zq_iconst (v := 1) dX12_isStanding_79 rfl rfl) ?_
        refine zx_lift (pc' := 84) (fun _ => zq_goto dX12_isStanding_80 rfl) ?_
        exact zx_lessJ (zq_cz (zq_cz (zq_cz zq_cn))) (hJ _)
    exact zx_zretg rfl dX12_isStanding_84
  · refine zx_lift (pc' := 11) (fun _ => zq_iload_n rfl rfl dX12_isStanding_10 rfl) ?_
    refine zx_lift (pc' := 12) (fun _ => zq_aload_n rfl rfl dX12_isStanding_11 rfl) ?_
    refine zx_lift (pc' := 15) (fun _ => zt_getR zfr_X12_13 zfd_57_2 dX12_isStanding_12 rfl) ?_
    refine zx_lift (pc' := 16) (fun _ => zq_iload_n rfl rfl dX12_isStanding_15 rfl) ?_
    refine zx_iaload (pc' := 17) zsh_59 dX12_isStanding_16 rfl ?_
    refine zx_cSi (pc' := 20) zcs_X12_189 (cX12_has_mc N p1 (zga s 59 p2) s) rfl (by decide) (Nat.le_of_ble_eq_true rfl) dX12_isStanding_17 rfl rfl (fun r5 s6 => ?_)
    refine zx_if_eq (pc' := 23) (tgt := 45) dX12_isStanding_20 rfl rfl (fun hc => ?_) (fun hc => ?_)
    · refine zx_less [.null, .null, .null] (zq_cz (zq_cz (zq_cz zq_cn))) ?_
      exact xX12_isStanding_j45_j N s6
    · refine zx_lift (pc' := 24) (fun _ => zq_aload_n rfl rfl dX12_isStanding_23 rfl) ?_
      refine zx_lift (pc' := 27) (fun _ => zt_getR zfr_X12_16 zfd_57_3 dX12_isStanding_24 rfl) ?_
      refine zx_lift (pc' := 28) (fun _ => zq_iload_n rfl rfl dX12_isStanding_27 rfl) ?_
      refine zx_iaload (pc' := 29) zsh_60 dX12_isStanding_28 rfl ?_
      refine zx_if_lt (pc' := 32) (tgt := 49) dX12_isStanding_29 rfl rfl (fun hc => ?_) (fun hc => ?_)
      · refine zx_less [.null, .null, .null] (zq_cz (zq_cz (zq_cz zq_cn))) ?_
        exact xX12_isStanding_j49_j N s6
      · refine zx_lift (pc' := 33) (fun _ => zq_iload_n rfl rfl dX12_isStanding_32 rfl) ?_
        refine zx_lift (pc' := 34) (fun _ => zq_aload_n rfl rfl dX12_isStanding_33 rfl) ?_
        refine zx_lift (pc' := 37) (fun _ => zt_getR zfr_X12_16 zfd_57_3 dX12_isStanding_34 rfl) ?_
        refine zx_lift (pc' := 38) (fun _ => zq_iload_n rfl rfl dX12_isStanding_37 rfl) ?_
        refine zx_iaload (pc' := 39) zsh_60 dX12_isStanding_38 rfl ?_
        refine zx_cSi (pc' := 42) zcs_X12_189 (cX12_has_mc N p1 (zga s6 60 p2) s6) rfl (by decide) (Nat.le_of_ble_eq_true rfl) dX12_isStanding_39 rfl rfl (fun r7 s8 => ?_)
        refine zx_if_eq (pc' := 45) (tgt := 49) dX12_isStanding_42 rfl rfl (fun hc => ?_) (fun hc => ?_)
        · refine zx_less [.null, .null, .null] (zq_cz (zq_cz (zq_cz zq_cn))) ?_
          exact xX12_isStanding_j49_j N s8
        · refine zx_less [.null, .null, .null] (zq_cz (zq_cz (zq_cz zq_cn))) ?_
          exact xX12_isStanding_j45_j N s8
theorem cX12_isStanding_mc (N : Nat)  (p1 : Int32) (p2 : Int32) (s : zq_S) (v : Int32 × zq_S) (h : mX12_isStanding N p1 p2 s = some v) : zq_MC yX12_isStanding cX12_isStanding 3 (some .boolean) ⟨1, 0, 0, 21⟩ 0 0 [.ref 57, .int p1, .int p2] (zq_en s) (zv_i v.1, zq_en v.2) := zq_MC_x [.ref 57, .int p1, .int p2] (by decide +kernel) rfl rfl (Nat.le_of_ble_eq_true rfl) (xX12_isStanding N p1 p2 s) h
def mX12_addWord (N : Nat)  (p1 : Int32) (p2 : Int32) (s : zq_S) : Option (Unit × zq_S) :=
  zq_ck p1 1024 (
  zq_ck (((40 : Int32) * p1) + (zga s 84 p1)) 40960 (
  zq_let (zpa s 85 (((40 : Int32) * p1) + (zga s 84 p1)) p2) (fun s1 =>
  zq_ck p1 1024 (
  zq_ck p1 1024 (
  zq_let (zpa s1 84 p1 ((zga s1 84 p1) + (1 : Int32))) (fun s2 =>
  zq_ck p1 1024 (
  zq_ck p1 1024 (
  zq_let (zpl s2 86 p1 ((((zgl s2 86 p1) * (1000003 : Int64)) + (Int32.toInt64 p2)) + (1 : Int64))) (fun s3 =>
  some ((), s3))))))))))
set_option maxRecDepth 20000 in
set_option maxHeartbeats 2000000 in
theorem xX12_addWord (N : Nat)  (p1 : Int32) (p2 : Int32) (s : zq_S) : zq_X yX12_addWord RX12 cX12_addWord 3 none ⟨0, 0, 0, 0⟩ zv_v 0 [.ref 57, .int p1, .int p2] [] s (mX12_addWord N p1 p2 s) := by
  unfold mX12_addWord
  refine zx_lift (pc' := 1) (fun _ => zq_aload_n rfl rfl dX12_addWord_0 rfl) ?_
  refine zx_lift (pc' := 4) (fun _ => zt_getR zfr_X12_98 zfd_57_46 dX12_addWord_1 rfl) ?_
  refine zx_lift (pc' := 6) (fun _ => zq_bipush (v := 40) dX12_addWord_4 rfl rfl) ?_
  refine zx_lift (pc' := 7) (fun _ => zq_iload_n rfl rfl dX12_addWord_6 rfl) ?_
  refine zx_lift (pc' := 8) (fun _ => zq_imul dX12_addWord_7 rfl) ?_
  refine zx_lift (pc' := 9) (fun _ => zq_aload_n rfl rfl dX12_addWord_8 rfl) ?_
  refine zx_lift (pc' := 12) (fun _ => zt_getR zfr_X12_94 zfd_57_45 dX12_addWord_9 rfl) ?_
  refine zx_lift (pc' := 13) (fun _ => zq_iload_n rfl rfl dX12_addWord_12 rfl) ?_
  refine zx_iaload (pc' := 14) zsh_84 dX12_addWord_13 rfl ?_
  refine zx_lift (pc' := 15) (fun _ => zq_iadd dX12_addWord_14 rfl) ?_
  refine zx_lift (pc' := 16) (fun _ => zq_iload_n rfl rfl dX12_addWord_15 rfl) ?_
  refine zx_iastore (pc' := 17) zsh_85 dX12_addWord_16 rfl (fun s1 => ?_)
  refine zx_lift (pc' := 18) (fun _ => zq_aload_n rfl rfl dX12_addWord_17 rfl) ?_
  refine zx_lift (pc' := 21) (fun _ => zt_getR zfr_X12_94 zfd_57_45 dX12_addWord_18 rfl) ?_
  refine zx_lift (pc' := 22) (fun _ => zq_iload_n rfl rfl dX12_addWord_21 rfl) ?_
  refine zx_lift (pc' := 23) (fun _ => zq_dup2 rfl rfl dX12_addWord_22 rfl) ?_
  refine zx_iaload (pc' := 24) zsh_84 dX12_addWord_23 rfl ?_
  refine zx_lift (pc' := 25) (fun _ => zq_iconst (v := 1) dX12_addWord_24 rfl rfl) ?_
  refine zx_lift (pc' := 26) (fun _ => zq_iadd dX12_addWord_25 rfl) ?_
  refine zx_iastore (pc' := 27) zsh_84 dX12_addWord_26 rfl (fun s2 => ?_)
  refine zx_lift (pc' := 28) (fun _ => zq_aload_n rfl rfl dX12_addWord_27 rfl) ?_
  refine zx_lift (pc' := 31) (fun _ => zt_getR zfr_X12_101 zfd_57_47 dX12_addWord_28 rfl) ?_
  refine zx_lift (pc' := 32) (fun _ => zq_iload_n rfl rfl dX12_addWord_31 rfl) ?_
  refine zx_lift (pc' := 33) (fun _ => zq_aload_n rfl rfl dX12_addWord_32 rfl) ?_
  refine zx_lift (pc' := 36) (fun _ => zt_getR zfr_X12_101 zfd_57_47 dX12_addWord_33 rfl) ?_
  refine zx_lift (pc' := 37) (fun _ => zq_iload_n rfl rfl dX12_addWord_36 rfl) ?_
  refine zx_laload (pc' := 38) zsh_86 dX12_addWord_37 rfl ?_
  refine zx_lift (pc' := 41) (fun _ => zq_ldc2 zk_X12_325 dX12_addWord_38 rfl) ?_
  refine zx_lift (pc' := 42) (fun _ => zq_lmul dX12_addWord_41 rfl) ?_
  refine zx_lift (pc' := 43) (fun _ => zq_iload_n rfl rfl dX12_addWord_42 rfl) ?_
  refine zx_lift (pc' := 44) (fun _ => zq_i2l dX12_addWord_43 rfl) ?_
  refine zx_lift (pc' := 45) (fun _ => zq_ladd dX12_addWord_44 rfl) ?_
  refine zx_lift (pc' := 46) (fun _ => zq_lconst (v := 1) dX12_addWord_45 rfl rfl) ?_
  refine zx_lift (pc' := 47) (fun _ => zq_ladd dX12_addWord_46 rfl) ?_
  refine zx_lastore (pc' := 48) zsh_86 dX12_addWord_47 rfl (fun s3 => ?_)
  exact zx_vret rfl dX12_addWord_48
theorem cX12_addWord_mc (N : Nat)  (p1 : Int32) (p2 : Int32) (s : zq_S) (v : Unit × zq_S) (h : mX12_addWord N p1 p2 s = some v) : zq_MC yX12_addWord cX12_addWord 3 none ⟨0, 0, 0, 0⟩ 0 0 [.ref 57, .int p1, .int p2] (zq_en s) (zv_v v.1, zq_en v.2) := zq_MC_x [.ref 57, .int p1, .int p2] (by decide +kernel) rfl rfl (Nat.le_of_ble_eq_true rfl) (xX12_addWord N p1 p2 s) h
def jX12_addRow_j48 (N : Nat)  (f1 : Int32) (f2 : Int32)  (self : Int32 × Int32 × zq_S → Option (Unit × zq_S)) (w4 : Int32) (t0 : Int32) (s : zq_S) : Option (Unit × zq_S) :=
  zq_let (w4 + (1 : Int32)) (fun x7 =>
  self (t0, x7, s))
set_option maxRecDepth 20000 in
set_option maxHeartbeats 2000000 in
theorem xX12_addRow_j48_j (N : Nat)  (f1 : Int32) (f2 : Int32)  (self : Int32 × Int32 × zq_S → Option (Unit × zq_S)) (hself : ∀ v, zq_X yX12_addRow RX12 cX12_addRow 5 none ⟨1, 0, 0, 22⟩ zv_v 12 [.ref 57, .int f1, .int f2, .int v.1, .int v.2.1] [] v.2.2 (self v)) (w4 : Int32) (t0 : Int32) (s : zq_S) : zq_X yX12_addRow RX12 cX12_addRow 5 none ⟨1, 0, 0, 22⟩ zv_v 48 [.ref 57, .int f1, .int f2, .null, .int w4] [.int t0] s (jX12_addRow_j48 N f1 f2 self w4 t0 s) := by
  unfold jX12_addRow_j48
  refine zx_lift (pc' := 49) (fun _ => zq_istore_n (ls' := [.ref 57, .int f1, .int f2, .int t0, .int w4]) rfl (by decide) rfl rfl dX12_addRow_48 rfl) ?_
  refine zx_iinc (pc' := 52) (ls' := fun x7 => [.ref 57, .int f1, .int f2, .int t0, .int x7]) rfl rfl (by decide) rfl (fun _ => rfl) dX12_addRow_49 rfl (fun x7 => ?_)
  refine zx_lift (pc' := 12) (fun _ => zq_goto dX12_addRow_52 rfl) ?_
  exact hself (t0, x7, s)
def bX12_addRow_12 (N : Nat)  (f1 : Int32) (f2 : Int32)  (self : Int32 × Int32 × zq_S → Option (Unit × zq_S)) (v : Int32 × Int32 × zq_S) : Option (Unit × zq_S) :=
  zq_ck f2 400 (
  if (zga v.2.2 61 f2) ≤ v.2.1 then
  zq_b2 (mX12_addWord N f1 v.1 v.2.2) (fun r3 s4 =>
  some ((), s4))
  else
  zq_ck v.2.1 400 (
  zq_b2 (mX12_has N f1 (zga v.2.2 60 v.2.1) v.2.2) (fun r5 s6 =>
  if r5 = (0 : Int32) then
  jX12_addRow_j48 N f1 f2 self v.2.1 v.1 s6
  else
  zq_ck v.2.1 400 (
  jX12_addRow_j48 N f1 f2 self v.2.1 (zga s6 59 v.2.1) s6))))
set_option maxRecDepth 20000 in
set_option maxHeartbeats 2000000 in
theorem xX12_addRow_12 (N : Nat)  (f1 : Int32) (f2 : Int32)  (self : Int32 × Int32 × zq_S → Option (Unit × zq_S)) (hself : ∀ v, zq_X yX12_addRow RX12 cX12_addRow 5 none ⟨1, 0, 0, 22⟩ zv_v 12 [.ref 57, .int f1, .int f2, .int v.1, .int v.2.1] [] v.2.2 (self v)) (v : Int32 × Int32 × zq_S) : zq_X yX12_addRow RX12 cX12_addRow 5 none ⟨1, 0, 0, 22⟩ zv_v 12 [.ref 57, .int f1, .int f2, .int v.1, .int v.2.1] [] v.2.2 (bX12_addRow_12 N f1 f2 self v) := by
  unfold bX12_addRow_12
  refine zx_lift (pc' := 14) (fun _ => zq_iload rfl dX12_addRow_12 rfl) ?_
  refine zx_lift (pc' := 15) (fun _ => zq_aload_n rfl rfl dX12_addRow_14 rfl) ?_
  refine zx_lift (pc' := 18) (fun _ => zt_getR zfr_X12_19 zfd_57_4 dX12_addRow_15 rfl) ?_
  refine zx_lift (pc' := 19) (fun _ => zq_iload_n rfl rfl dX12_addRow_18 rfl) ?_
  refine zx_iaload (pc' := 20) zsh_61 dX12_addRow_19 rfl ?_
  refine zx_icmp_ge (pc' := 23) (tgt := 55) dX12_addRow_20 rfl rfl (fun hc => ?_) (fun hc => ?_)
  · refine zx_lift (pc' := 56) (fun _ => zq_aload_n rfl rfl dX12_addRow_55 rfl) ?_
    refine zx_lift (pc' := 57) (fun _ => zq_iload_n rfl rfl dX12_addRow_56 rfl) ?_
    refine zx_lift (pc' := 58) (fun _ => zq_iload_n rfl rfl dX12_addRow_57 rfl) ?_
    refine zx_cVv (pc' := 61) zcv_X12_327 (cX12_addWord_mc N f1 v.1 v.2.2) zob_57 rfl (by decide) (Nat.le_of_ble_eq_true rfl) dX12_addRow_58 rfl rfl (fun r3 s4 => ?_)
    exact zx_vret rfl dX12_addRow_61
  · refine zx_lift (pc' := 24) (fun _ => zq_iload_n rfl rfl dX12_addRow_23 rfl) ?_
    refine zx_lift (pc' := 25) (fun _ => zq_aload_n rfl rfl dX12_addRow_24 rfl) ?_
    refine zx_lift (pc' := 28) (fun _ => zt_getR zfr_X12_16 zfd_57_3 dX12_addRow_25 rfl) ?_
    refine zx_lift (pc' := 30) (fun _ => zq_iload rfl dX12_addRow_28 rfl) ?_
    refine zx_iaload (pc' := 31) zsh_60 dX12_addRow_30 rfl ?_
    refine zx_cSi (pc' := 34) zcs_X12_189 (cX12_has_mc N f1 (zga v.2.2 60 v.2.1) v.2.2) rfl (by decide) (Nat.le_of_ble_eq_true rfl) dX12_addRow_31 rfl rfl (fun r5 s6 => ?_)
    refine zx_if_eq (pc' := 37) (tgt := 47) dX12_addRow_34 rfl rfl (fun hc => ?_) (fun hc => ?_)
    · refine zx_lift (pc' := 48) (fun _ => zq_iload_n rfl rfl dX12_addRow_47 rfl) ?_
      refine zx_less [.ref 57, .int f1, .int f2, .null, .int v.2.1] (zq_cr (zq_cr (zq_cr (zq_cz (zq_cr zq_cn))))) ?_
      exact xX12_addRow_j48_j N f1 f2 self hself v.2.1 v.1 s6
    · refine zx_lift (pc' := 38) (fun _ => zq_aload_n rfl rfl dX12_addRow_37 rfl) ?_
      refine zx_lift (pc' := 41) (fun _ => zt_getR zfr_X12_13 zfd_57_2 dX12_addRow_38 rfl) ?_
      refine zx_lift (pc' := 43) (fun _ => zq_iload rfl dX12_addRow_41 rfl) ?_
      refine zx_iaload (pc' := 44) zsh_59 dX12_addRow_43 rfl ?_
      refine zx_lift (pc' := 48) (fun _ => zq_goto dX12_addRow_44 rfl) ?_
      refine zx_less [.ref 57, .int f1, .int f2, .null, .int v.2.1] (zq_cr (zq_cr (zq_cr (zq_cz (zq_cr zq_cn))))) ?_
      exact xX12_addRow_j48_j N f1 f2 self hself v.2.1 (zga s6 59 v.2.1) s6
theorem yX12_addRow_12 (N : Nat)  (f1 : Int32) (f2 : Int32)  (n : Nat) : ∀ v : Int32 × Int32 × zq_S, zq_X yX12_addRow RX12 cX12_addRow 5 none ⟨1, 0, 0, 22⟩ zv_v 12 [.ref 57, .int f1, .int f2, .int v.1, .int v.2.1] [] v.2.2 (zq_loop (bX12_addRow_12 N f1 f2 ) n v) := by
  induction n with
  | zero => exact fun v u hu => by cases hu
  | succ n ih =>
    intro v
    rw [zq_loop_s]
    exact xX12_addRow_12 N f1 f2  (zq_loop (bX12_addRow_12 N f1 f2 ) n) ih v
def mX12_addRow (N : Nat)  (p1 : Int32) (p2 : Int32) (s : zq_S) : Option (Unit × zq_S) :=
  zq_ck p2 400 (
  zq_let (zga s 59 p2) (fun x1 =>
  zq_let (p2 + (1 : Int32)) (fun x2 =>
  zq_loop (bX12_addRow_12 N p1 p2 ) N (x1, x2, s))))
set_option maxRecDepth 20000 in
set_option maxHeartbeats 2000000 in
theorem xX12_addRow (N : Nat)  (p1 : Int32) (p2 : Int32) (s : zq_S) : zq_X yX12_addRow RX12 cX12_addRow 5 none ⟨1, 0, 0, 22⟩ zv_v 0 [.ref 57, .int p1, .int p2, .null, .null] [] s (mX12_addRow N p1 p2 s) := by
  unfold mX12_addRow
  refine zx_lift (pc' := 1) (fun _ => zq_aload_n rfl rfl dX12_addRow_0 rfl) ?_
  refine zx_lift (pc' := 4) (fun _ => zt_getR zfr_X12_13 zfd_57_2 dX12_addRow_1 rfl) ?_
  refine zx_lift (pc' := 5) (fun _ => zq_iload_n rfl rfl dX12_addRow_4 rfl) ?_
  refine zx_iaload (pc' := 6) zsh_59 dX12_addRow_5 rfl ?_
  refine zx_istore_n (pc' := 7) (ls' := fun x1 => [.ref 57, .int p1, .int p2, .int x1, .null]) rfl (by decide) rfl (fun _ => rfl) dX12_addRow_6 rfl (fun x1 => ?_)
  refine zx_lift (pc' := 8) (fun _ => zq_iload_n rfl rfl dX12_addRow_7 rfl) ?_
  refine zx_lift (pc' := 9) (fun _ => zq_iconst (v := 1) dX12_addRow_8 rfl rfl) ?_
  refine zx_lift (pc' := 10) (fun _ => zq_iadd dX12_addRow_9 rfl) ?_
  refine zx_istore (pc' := 12) (ls' := fun x2 => [.ref 57, .int p1, .int p2, .int x1, .int x2]) (by decide) rfl (fun _ => rfl) dX12_addRow_10 rfl (fun x2 => ?_)
  refine yX12_addRow_12 N p1 p2  N (x1, x2, s)
theorem cX12_addRow_mc (N : Nat)  (p1 : Int32) (p2 : Int32) (s : zq_S) (v : Unit × zq_S) (h : mX12_addRow N p1 p2 s = some v) : zq_MC yX12_addRow cX12_addRow 5 none ⟨1, 0, 0, 22⟩ 0 0 [.ref 57, .int p1, .int p2] (zq_en s) (zv_v v.1, zq_en v.2) := zq_MC_x [.ref 57, .int p1, .int p2, .null, .null] (by decide +kernel) rfl rfl (Nat.le_of_ble_eq_true rfl) (xX12_addRow N p1 p2 s) h
