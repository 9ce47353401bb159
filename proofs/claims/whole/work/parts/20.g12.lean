def jX12_clean_j117 (N : Nat)  (f1 : Int32) (k125 : zq_S → Option (Int64 × zq_S)) (self : Int32 × zq_S → Option (Int64 × zq_S)) (w2 : Int32) (t0 : Int64) (t1 : Int64) (t2 : Int32) (s : zq_S) : Option (Int64 × zq_S) :=
  zq_ck t2 1024 (
  zq_let (zpl s 97 t2 (t1 + t0)) (fun s11 =>
  zq_let (w2 + (1 : Int32)) (fun x12 =>
  self (x12, s11))))
set_option maxRecDepth 20000 in
set_option maxHeartbeats 2000000 in
theorem xX12_clean_j117_j (N : Nat)  (f1 : Int32) (k125 : zq_S → Option (Int64 × zq_S)) (hk125 : ∀ e, zq_X yX12_clean RX12 cX12_clean 4 (some .long) ⟨5, 0, 0, 114⟩ zv_l 125 [.ref 57, .int f1, .null, .null] [] e (k125 e)) (self : Int32 × zq_S → Option (Int64 × zq_S)) (hself : ∀ v, zq_X yX12_clean RX12 cX12_clean 4 (some .long) ⟨5, 0, 0, 114⟩ zv_l 31 [.ref 57, .int f1, .int v.1, .null] [] v.2 (self v)) (w2 : Int32) (t0 : Int64) (t1 : Int64) (t2 : Int32) (s : zq_S) : zq_X yX12_clean RX12 cX12_clean 4 (some .long) ⟨5, 0, 0, 114⟩ zv_l 117 [.ref 57, .int f1, .int w2, .null] [.long t0, .long t1, .int t2, .ref 97] s (jX12_clean_j117 N f1 k125 self w2 t0 t1 t2 s) := by
  unfold jX12_clean_j117
  refine zx_lift (pc' := 118) (fun _ => zq_ladd dX12_clean_117 rfl) ?_
  refine zx_lastore (pc' := 119) zsh_97 dX12_clean_118 rfl (fun s11 => ?_)
  refine zx_iinc (pc' := 122) (ls' := fun x12 => [.ref 57, .int f1, .int x12, .null]) rfl rfl (by decide) rfl (fun _ => rfl) dX12_clean_119 rfl (fun x12 => ?_)
  refine zx_lift (pc' := 31) (fun _ => zq_goto dX12_clean_122 rfl) ?_
  exact hself (x12, s11)
def jX12_clean_j91 (N : Nat)  (f1 : Int32) (k125 : zq_S → Option (Int64 × zq_S)) (self : Int32 × zq_S → Option (Int64 × zq_S)) (w2 : Int32) (t0 : Int32) (s : zq_S) : Option (Int64 × zq_S) :=
  zq_ck f1 1024 (
  if t0 = (0 : Int32) then
  jX12_clean_j117 N f1 k125 self w2 (0 : Int64) (zgl s 97 f1) f1 s
  else
  zq_ck (f1 ^^^ ((1 : Int32) <<< (w2 &&& 31))) 1024 (
  jX12_clean_j117 N f1 k125 self w2 (zgl s 97 (f1 ^^^ ((1 : Int32) <<< (w2 &&& 31)))) (zgl s 97 f1) f1 s))
set_option maxRecDepth 20000 in
set_option maxHeartbeats 2000000 in
theorem xX12_clean_j91_j (N : Nat)  (f1 : Int32) (k125 : zq_S → Option (Int64 × zq_S)) (hk125 : ∀ e, zq_X yX12_clean RX12 cX12_clean 4 (some .long) ⟨5, 0, 0, 114⟩ zv_l 125 [.ref 57, .int f1, .null, .null] [] e (k125 e)) (self : Int32 × zq_S → Option (Int64 × zq_S)) (hself : ∀ v, zq_X yX12_clean RX12 cX12_clean 4 (some .long) ⟨5, 0, 0, 114⟩ zv_l 31 [.ref 57, .int f1, .int v.1, .null] [] v.2 (self v)) (w2 : Int32) (t0 : Int32) (s : zq_S) : zq_X yX12_clean RX12 cX12_clean 4 (some .long) ⟨5, 0, 0, 114⟩ zv_l 91 [.ref 57, .int f1, .int w2, .null] [.int t0] s (jX12_clean_j91 N f1 k125 self w2 t0 s) := by
  unfold jX12_clean_j91
  refine zx_lift (pc' := 92) (fun _ => zq_istore_n (ls' := [.ref 57, .int f1, .int w2, .int t0]) rfl (by decide) rfl rfl dX12_clean_91 rfl) ?_
  refine zx_lift (pc' := 93) (fun _ => zq_aload_n rfl rfl dX12_clean_92 rfl) ?_
  refine zx_lift (pc' := 96) (fun _ => zt_getR zfr_X12_134 zfd_57_61 dX12_clean_93 rfl) ?_
  refine zx_lift (pc' := 97) (fun _ => zq_iload_n rfl rfl dX12_clean_96 rfl) ?_
  refine zx_lift (pc' := 98) (fun _ => zq_dup2 rfl rfl dX12_clean_97 rfl) ?_
  refine zx_laload (pc' := 99) zsh_97 dX12_clean_98 rfl ?_
  refine zx_lift (pc' := 100) (fun _ => zq_iload_n rfl rfl dX12_clean_99 rfl) ?_
  refine zx_if_eq (pc' := 103) (tgt := 116) dX12_clean_100 rfl rfl (fun hc => ?_) (fun hc => ?_)
  · refine zx_lift (pc' := 117) (fun _ => zq_lconst (v := 0) dX12_clean_116 rfl rfl) ?_
    refine zx_less [.ref 57, .int f1, .int w2, .null] (zq_cr (zq_cr (zq_cr (zq_cz zq_cn)))) ?_
    exact xX12_clean_j117_j N f1 k125 hk125 self hself w2 (0 : Int64) (zgl s 97 f1) f1 s
  · refine zx_lift (pc' := 104) (fun _ => zq_aload_n rfl rfl dX12_clean_103 rfl) ?_
    refine zx_lift (pc' := 107) (fun _ => zt_getR zfr_X12_134 zfd_57_61 dX12_clean_104 rfl) ?_
    refine zx_lift (pc' := 108) (fun _ => zq_iload_n rfl rfl dX12_clean_107 rfl) ?_
    refine zx_lift (pc' := 109) (fun _ => zq_iconst (v := 1) dX12_clean_108 rfl rfl) ?_
    refine zx_lift (pc' := 110) (fun _ => zq_iload_n rfl rfl dX12_clean_109 rfl) ?_
    refine zx_lift (pc' := 111) (fun _ => zq_ishl dX12_clean_110 rfl) ?_
    refine zx_lift (pc' := 112) (fun _ => zq_ixor dX12_clean_111 rfl) ?_
    refine zx_laload (pc' := 113) zsh_97 dX12_clean_112 rfl ?_
    refine zx_lift (pc' := 117) (fun _ => zq_goto dX12_clean_113 rfl) ?_
    refine zx_less [.ref 57, .int f1, .int w2, .null] (zq_cr (zq_cr (zq_cr (zq_cz zq_cn)))) ?_
    exact xX12_clean_j117_j N f1 k125 hk125 self hself w2 (zgl s 97 (f1 ^^^ ((1 : Int32) <<< (w2 &&& 31)))) (zgl s 97 f1) f1 s
def jX12_clean_j90 (N : Nat)  (f1 : Int32) (k125 : zq_S → Option (Int64 × zq_S)) (self : Int32 × zq_S → Option (Int64 × zq_S)) (w2 : Int32) (s : zq_S) : Option (Int64 × zq_S) :=
  jX12_clean_j91 N f1 k125 self w2 (0 : Int32) s
set_option maxRecDepth 20000 in
set_option maxHeartbeats 2000000 in
theorem xX12_clean_j90_j (N : Nat)  (f1 : Int32) (k125 : zq_S → Option (Int64 × zq_S)) (hk125 : ∀ e, zq_X yX12_clean RX12 cX12_clean 4 (some .long) ⟨5, 0, 0, 114⟩ zv_l 125 [.ref 57, .int f1, .null, .null] [] e (k125 e)) (self : Int32 × zq_S → Option (Int64 × zq_S)) (hself : ∀ v, zq_X yX12_clean RX12 cX12_clean 4 (some .long) ⟨5, 0, 0, 114⟩ zv_l 31 [.ref 57, .int f1, .int v.1, .null] [] v.2 (self v)) (w2 : Int32) (s : zq_S) : zq_X yX12_clean RX12 cX12_clean 4 (some .long) ⟨5, 0, 0, 114⟩ zv_l 90 [.ref 57, .int f1, .int w2, .null] [] s (jX12_clean_j90 N f1 k125 self w2 s) := by
  unfold jX12_clean_j90
  refine zx_lift (pc' := 91) (fun _ => zq_iconst (v := 0) dX12_clean_90 rfl rfl) ?_
  exact xX12_clean_j91_j N f1 k125 hk125 self hself w2 (0 : Int32) s
def bX12_clean_31 (N : Nat)  (f1 : Int32) (k125 : zq_S → Option (Int64 × zq_S)) (self : Int32 × zq_S → Option (Int64 × zq_S)) (v : Int32 × zq_S) : Option (Int64 × zq_S) :=
  if (zgf v.2 57 6) ≤ v.1 then
  k125 v.2
  else
  zq_ck f1 1024 (
  if (zga v.2 78 f1) = (0 : Int32) then
  k125 v.2
  else
  zq_b2 (mX12_has N f1 v.1 v.2) (fun r9 s10 =>
  if r9 = (0 : Int32) then
  jX12_clean_j90 N f1 k125 self v.1 s10
  else
  zq_ck (f1 ^^^ ((1 : Int32) <<< (v.1 &&& 31))) 1024 (
  zq_b2 (mX12_has N (zga s10 79 (f1 ^^^ ((1 : Int32) <<< (v.1 &&& 31)))) v.1 s10) (fun r13 s14 =>
  if r13 = (0 : Int32) then
  jX12_clean_j90 N f1 k125 self v.1 s14
  else
  zq_ck (f1 ^^^ ((1 : Int32) <<< (v.1 &&& 31))) 1024 (
  if (zga s14 78 (f1 ^^^ ((1 : Int32) <<< (v.1 &&& 31)))) = (0 : Int32) then
  jX12_clean_j90 N f1 k125 self v.1 s14
  else
  jX12_clean_j91 N f1 k125 self v.1 (1 : Int32) s14)))))
set_option maxRecDepth 20000 in
set_option maxHeartbeats 2000000 in
theorem xX12_clean_31 (N : Nat)  (f1 : Int32) (k125 : zq_S → Option (Int64 × zq_S)) (hk125 : ∀ e, zq_X yX12_clean RX12 cX12_clean 4 (some .long) ⟨5, 0, 0, 114⟩ zv_l 125 [.ref 57, .int f1, .null, .null] [] e (k125 e)) (self : Int32 × zq_S → Option (Int64 × zq_S)) (hself : ∀ v, zq_X yX12_clean RX12 cX12_clean 4 (some .long) ⟨5, 0, 0, 114⟩ zv_l 31 [.ref 57, .int f1, .int v.1, .null] [] v.2 (self v)) (v : Int32 × zq_S) : zq_X yX12_clean RX12 cX12_clean 4 (some .long) ⟨5, 0, 0, 114⟩ zv_l 31 [.ref 57, .int f1, .int v.1, .null] [] v.2 (bX12_clean_31 N f1 k125 self v) := by
  unfold bX12_clean_31
  refine zx_lift (pc' := 32) (fun _ => zq_iload_n rfl rfl dX12_clean_31 rfl) ?_
  refine zx_lift (pc' := 33) (fun _ => zq_aload_n rfl rfl dX12_clean_32 rfl) ?_
  refine zx_lift (pc' := 36) (fun _ => zt_getI zfr_X12_141 zfd_57_6 dX12_clean_33 rfl) ?_
  refine zx_icmp_ge (pc' := 39) (tgt := 125) dX12_clean_36 rfl rfl (fun hc => ?_) (fun hc => ?_)
  · refine zx_less [.ref 57, .int f1, .null, .null] (zq_cr (zq_cr (zq_cz (zq_cz zq_cn)))) ?_
    exact hk125 v.2
  · refine zx_lift (pc' := 40) (fun _ => zq_aload_n rfl rfl dX12_clean_39 rfl) ?_
    refine zx_lift (pc' := 43) (fun _ => zt_getR zfr_X12_75 zfd_57_38 dX12_clean_40 rfl) ?_
    refine zx_lift (pc' := 44) (fun _ => zq_iload_n rfl rfl dX12_clean_43 rfl) ?_
    refine zx_zaload (pc' := 45) zsh_78 dX12_clean_44 rfl ?_
    refine zx_if_eq (pc' := 48) (tgt := 125) dX12_clean_45 rfl rfl (fun hc => ?_) (fun hc => ?_)
    · refine zx_less [.ref 57, .int f1, .null, .null] (zq_cr (zq_cr (zq_cz (zq_cz zq_cn)))) ?_
      exact hk125 v.2
    · refine zx_lift (pc' := 49) (fun _ => zq_iload_n rfl rfl dX12_clean_48 rfl) ?_
      refine zx_lift (pc' := 50) (fun _ => zq_iload_n rfl rfl dX12_clean_49 rfl) ?_
      refine zx_cSi (pc' := 53) zcs_X12_189 (cX12_has_mc N f1 v.1 v.2) rfl (by decide) (Nat.le_of_ble_eq_true rfl) dX12_clean_50 rfl rfl (fun r9 s10 => ?_)
      refine zx_if_eq (pc' := 56) (tgt := 90) dX12_clean_53 rfl rfl (fun hc => ?_) (fun hc => ?_)
      · exact xX12_clean_j90_j N f1 k125 hk125 self hself v.1 s10
      · refine zx_lift (pc' := 57) (fun _ => zq_aload_n rfl rfl dX12_clean_56 rfl) ?_
        refine zx_lift (pc' := 60) (fun _ => zt_getR zfr_X12_78 zfd_57_39 dX12_clean_57 rfl) ?_
        refine zx_lift (pc' := 61) (fun _ => zq_iload_n rfl rfl dX12_clean_60 rfl) ?_
        refine zx_lift (pc' := 62) (fun _ => zq_iconst (v := 1) dX12_clean_61 rfl rfl) ?_
        refine zx_lift (pc' := 63) (fun _ => zq_iload_n rfl rfl dX12_clean_62 rfl) ?_
        refine zx_lift (pc' := 64) (fun _ => zq_ishl dX12_clean_63 rfl) ?_
        refine zx_lift (pc' := 65) (fun _ => zq_ixor dX12_clean_64 rfl) ?_
        refine zx_iaload (pc' := 66) zsh_79 dX12_clean_65 rfl ?_
        refine zx_lift (pc' := 67) (fun _ => zq_iload_n rfl rfl dX12_clean_66 rfl) ?_
        refine zx_cSi (pc' := 70) zcs_X12_189 (cX12_has_mc N (zga s10 79 (f1 ^^^ ((1 : Int32) <<< (v.1 &&& 31)))) v.1 s10) rfl (by decide) (Nat.le_of_ble_eq_true rfl) dX12_clean_67 rfl rfl (fun r13 s14 => ?_)
        refine zx_if_eq (pc' := 73) (tgt := 90) dX12_clean_70 rfl rfl (fun hc => ?_) (fun hc => ?_)
        · exact xX12_clean_j90_j N f1 k125 hk125 self hself v.1 s14
        · refine zx_lift (pc' := 74) (fun _ => zq_aload_n rfl rfl dX12_clean_73 rfl) ?_
          refine zx_lift (pc' := 77) (fun _ => zt_getR zfr_X12_75 zfd_57_38 dX12_clean_74 rfl) ?_
          refine zx_lift (pc' := 78) (fun _ => zq_iload_n rfl rfl dX12_clean_77 rfl) ?_
          refine zx_lift (pc' := 79) (fun _ => zq_iconst (v := 1) dX12_clean_78 rfl rfl) ?_
          refine zx_lift (pc' := 80) (fun _ => zq_iload_n rfl rfl dX12_clean_79 rfl) ?_
          refine zx_lift (pc' := 81) (fun _ => zq_ishl dX12_clean_80 rfl) ?_
          refine zx_lift (pc' := 82) (fun _ => zq_ixor dX12_clean_81 rfl) ?_
          refine zx_zaload (pc' := 83) zsh_78 dX12_clean_82 rfl ?_
          refine zx_if_eq (pc' := 86) (tgt := 90) dX12_clean_83 rfl rfl (fun hc => ?_) (fun hc => ?_)
          · exact xX12_clean_j90_j N f1 k125 hk125 self hself v.1 s14
          · refine zx_lift (pc' := 87) (fun _ => zq_iconst (v := 1) dX12_clean_86 rfl rfl) ?_
            refine zx_lift (pc' := 91) (fun _ => zq_goto dX12_clean_87 rfl) ?_
            exact xX12_clean_j91_j N f1 k125 hk125 self hself v.1 (1 : Int32) s14
theorem yX12_clean_31 (N : Nat)  (f1 : Int32) (k125 : zq_S → Option (Int64 × zq_S)) (hk125 : ∀ e, zq_X yX12_clean RX12 cX12_clean 4 (some .long) ⟨5, 0, 0, 114⟩ zv_l 125 [.ref 57, .int f1, .null, .null] [] e (k125 e)) (n : Nat) : ∀ v : Int32 × zq_S, zq_X yX12_clean RX12 cX12_clean 4 (some .long) ⟨5, 0, 0, 114⟩ zv_l 31 [.ref 57, .int f1, .int v.1, .null] [] v.2 (zq_loop (bX12_clean_31 N f1 k125) n v) := by
  induction n with
  | zero => exact fun v u hu => by cases hu
  | succ n ih =>
    intro v
    rw [zq_loop_s]
    exact xX12_clean_31 N f1 k125 hk125 (zq_loop (bX12_clean_31 N f1 k125) n) ih v
def jX12_clean_j157 (N : Nat)    (self : Int32 × zq_S → Option (Int64 × zq_S)) (w1 : Int32) (t0 : Int64) (t1 : Int32) (s : zq_S) : Option (Int64 × zq_S) :=
  zq_ck t1 1024 (
  zq_let (zpl s 97 t1 t0) (fun s16 =>
  zq_let (w1 + (1 : Int32)) (fun x17 =>
  self (x17, s16))))
set_option maxRecDepth 20000 in
set_option maxHeartbeats 2000000 in
theorem xX12_clean_j157_j (N : Nat)    (self : Int32 × zq_S → Option (Int64 × zq_S)) (hself : ∀ v, zq_X yX12_clean RX12 cX12_clean 4 (some .long) ⟨5, 0, 0, 114⟩ zv_l 6 [.ref 57, .int v.1, .null, .null] [] v.2 (self v)) (w1 : Int32) (t0 : Int64) (t1 : Int32) (s : zq_S) : zq_X yX12_clean RX12 cX12_clean 4 (some .long) ⟨5, 0, 0, 114⟩ zv_l 157 [.ref 57, .int w1, .null, .null] [.long t0, .int t1, .ref 97] s (jX12_clean_j157 N self w1 t0 t1 s) := by
  unfold jX12_clean_j157
  refine zx_lastore (pc' := 158) zsh_97 dX12_clean_157 rfl (fun s16 => ?_)
  refine zx_iinc (pc' := 161) (ls' := fun x17 => [.ref 57, .int x17, .null, .null]) rfl rfl (by decide) rfl (fun _ => rfl) dX12_clean_158 rfl (fun x17 => ?_)
  refine zx_lift (pc' := 6) (fun _ => zq_goto dX12_clean_161 rfl) ?_
  exact hself (x17, s16)
def jX12_clean_j156 (N : Nat)    (self : Int32 × zq_S → Option (Int64 × zq_S)) (w1 : Int32) (t0 : Int32) (s : zq_S) : Option (Int64 × zq_S) :=
  jX12_clean_j157 N self w1 (0 : Int64) t0 s
set_option maxRecDepth 20000 in
set_option maxHeartbeats 2000000 in
theorem xX12_clean_j156_j (N : Nat)    (self : Int32 × zq_S → Option (Int64 × zq_S)) (hself : ∀ v, zq_X yX12_clean RX12 cX12_clean 4 (some .long) ⟨5, 0, 0, 114⟩ zv_l 6 [.ref 57, .int v.1, .null, .null] [] v.2 (self v)) (w1 : Int32) (t0 : Int32) (s : zq_S) : zq_X yX12_clean RX12 cX12_clean 4 (some .long) ⟨5, 0, 0, 114⟩ zv_l 156 [.ref 57, .int w1, .null, .null] [.int t0, .ref 97] s (jX12_clean_j156 N self w1 t0 s) := by
  unfold jX12_clean_j156
  refine zx_lift (pc' := 157) (fun _ => zq_lconst (v := 0) dX12_clean_156 rfl rfl) ?_
  exact xX12_clean_j157_j N self hself w1 (0 : Int64) t0 s
def jX12_clean_j125 (N : Nat)    (self : Int32 × zq_S → Option (Int64 × zq_S)) (w1 : Int32) (s : zq_S) : Option (Int64 × zq_S) :=
  zq_ck w1 1024 (
  if (zga s 78 w1) = (0 : Int32) then
  jX12_clean_j156 N self w1 w1 s
  else
  zq_b2 (mX12_breaksOf N w1 s) (fun r18 s19 =>
  if r18 = (0 : Int32) then
  zq_ck w1 1024 (
  jX12_clean_j157 N self w1 (zgl s19 97 w1) w1 s19)
  else
  jX12_clean_j156 N self w1 w1 s19))
set_option maxRecDepth 20000 in
set_option maxHeartbeats 2000000 in
theorem xX12_clean_j125_j (N : Nat)    (self : Int32 × zq_S → Option (Int64 × zq_S)) (hself : ∀ v, zq_X yX12_clean RX12 cX12_clean 4 (some .long) ⟨5, 0, 0, 114⟩ zv_l 6 [.ref 57, .int v.1, .null, .null] [] v.2 (self v)) (w1 : Int32) (s : zq_S) : zq_X yX12_clean RX12 cX12_clean 4 (some .long) ⟨5, 0, 0, 114⟩ zv_l 125 [.ref 57, .int w1, .null, .null] [] s (jX12_clean_j125 N self w1 s) := by
  unfold jX12_clean_j125
  refine zx_lift (pc' := 126) (fun _ => zq_aload_n rfl rfl dX12_clean_125 rfl) ?_
  refine zx_lift (pc' := 129) (fun _ => zt_getR zfr_X12_134 zfd_57_61 dX12_clean_126 rfl) ?_
  refine zx_lift (pc' := 130) (fun _ => zq_iload_n rfl rfl dX12_clean_129 rfl) ?_
  refine zx_lift (pc' := 131) (fun _ => zq_aload_n rfl rfl dX12_clean_130 rfl) ?_
  refine zx_lift (pc' := 134) (fun _ => zt_getR zfr_X12_75 zfd_57_38 dX12_clean_131 rfl) ?_
  refine zx_lift (pc' := 135) (fun _ => zq_iload_n rfl rfl dX12_clean_134 rfl) ?_
  refine zx_zaload (pc' := 136) zsh_78 dX12_clean_135 rfl ?_
  refine zx_if_eq (pc' := 139) (tgt := 156) dX12_clean_136 rfl rfl (fun hc => ?_) (fun hc => ?_)
  · exact xX12_clean_j156_j N self hself w1 w1 s
  · refine zx_lift (pc' := 140) (fun _ => zq_aload_n rfl rfl dX12_clean_139 rfl) ?_
    refine zx_lift (pc' := 141) (fun _ => zq_iload_n rfl rfl dX12_clean_140 rfl) ?_
    refine zx_cVi (pc' := 144) zcv_X12_319 (cX12_breaksOf_mc N w1 s) zob_57 rfl (by decide) (Nat.le_of_ble_eq_true rfl) dX12_clean_141 rfl rfl (fun r18 s19 => ?_)
    refine zx_if_ne (pc' := 147) (tgt := 156) dX12_clean_144 rfl rfl (fun hc => ?_) (fun hc => ?_)
    · exact xX12_clean_j156_j N self hself w1 w1 s19
    · refine zx_lift (pc' := 148) (fun _ => zq_aload_n rfl rfl dX12_clean_147 rfl) ?_
      refine zx_lift (pc' := 151) (fun _ => zt_getR zfr_X12_134 zfd_57_61 dX12_clean_148 rfl) ?_
      refine zx_lift (pc' := 152) (fun _ => zq_iload_n rfl rfl dX12_clean_151 rfl) ?_
      refine zx_laload (pc' := 153) zsh_97 dX12_clean_152 rfl ?_
      refine zx_lift (pc' := 157) (fun _ => zq_goto dX12_clean_153 rfl) ?_
      exact xX12_clean_j157_j N self hself w1 (zgl s19 97 w1) w1 s19
def bX12_clean_6 (N : Nat)    (self : Int32 × zq_S → Option (Int64 × zq_S)) (v : Int32 × zq_S) : Option (Int64 × zq_S) :=
  zq_b2 (mX12_all N v.2) (fun r3 s4 =>
  if r3 < v.1 then
  zq_b2 (mX12_all N s4) (fun r5 s6 =>
  zq_ck r5 1024 (
  some ((zgl s6 97 r5), s6)))
  else
  zq_let (if v.1 = (0 : Int32) then (1 : Int64) else (0 : Int64)) (fun x7 =>
  zq_ck v.1 1024 (
  zq_let (zpl s4 97 v.1 x7) (fun s8 =>
  zq_loop (bX12_clean_31 N v.1 (fun e15 =>
  jX12_clean_j125 N self v.1 e15)) N ((0 : Int32), s8)))))
set_option maxRecDepth 20000 in
set_option maxHeartbeats 2000000 in
theorem xX12_clean_6 (N : Nat)    (self : Int32 × zq_S → Option (Int64 × zq_S)) (hself : ∀ v, zq_X yX12_clean RX12 cX12_clean 4 (some .long) ⟨5, 0, 0, 114⟩ zv_l 6 [.ref 57, .int v.1, .null, .null] [] v.2 (self v)) (v : Int32 × zq_S) : zq_X yX12_clean RX12 cX12_clean 4 (some .long) ⟨5, 0, 0, 114⟩ zv_l 6 [.ref 57, .int v.1, .null, .null] [] v.2 (bX12_clean_6 N self v) := by
  unfold bX12_clean_6
  refine zx_lift (pc' := 7) (fun _ => zq_iload_n rfl rfl dX12_clean_6 rfl) ?_
  refine zx_lift (pc' := 8) (fun _ => zq_aload_n rfl rfl dX12_clean_7 rfl) ?_
  refine zx_cVi (pc' := 11) zcv_X12_148 (cX12_all_mc N v.2) zob_57 rfl (by decide) (Nat.le_of_ble_eq_true rfl) dX12_clean_8 rfl rfl (fun r3 s4 => ?_)
  refine zx_icmp_gt (pc' := 14) (tgt := 164) dX12_clean_11 rfl rfl (fun hc => ?_) (fun hc => ?_)
  · refine zx_lift (pc' := 165) (fun _ => zq_aload_n rfl rfl dX12_clean_164 rfl) ?_
    refine zx_lift (pc' := 168) (fun _ => zt_getR zfr_X12_134 zfd_57_61 dX12_clean_165 rfl) ?_
    refine zx_lift (pc' := 169) (fun _ => zq_aload_n rfl rfl dX12_clean_168 rfl) ?_
    refine zx_cVi (pc' := 172) zcv_X12_148 (cX12_all_mc N s4) zob_57 rfl (by decide) (Nat.le_of_ble_eq_true rfl) dX12_clean_169 rfl rfl (fun r5 s6 => ?_)
    refine zx_laload (pc' := 173) zsh_97 dX12_clean_172 rfl ?_
    exact zx_lret rfl dX12_clean_173
  · refine zx_lift (pc' := 15) (fun _ => zq_aload_n rfl rfl dX12_clean_14 rfl) ?_
    refine zx_lift (pc' := 18) (fun _ => zt_getR zfr_X12_134 zfd_57_61 dX12_clean_15 rfl) ?_
    refine zx_lift (pc' := 19) (fun _ => zq_iload_n rfl rfl dX12_clean_18 rfl) ?_
    refine zx_lift (pc' := 20) (fun _ => zq_iload_n rfl rfl dX12_clean_19 rfl) ?_
    refine zx_tern (pcJ := 28) (lsJ := fun x7 => [.ref 57, .int v.1, .null, .null]) (stJ := fun x7 => [.long x7, .int v.1, .ref 97]) (fun x7 => ?_) (fun f hJ => ?_)
    rotate_left
    · refine zx_lif_ne (pc' := 23) (tgt := 27) dX12_clean_20 rfl rfl (fun _ => ?_) (fun _ => ?_)
      · refine zx_lift (pc' := 28) (fun _ => zq_lconst (v := 0) dX12_clean_27 rfl rfl) ?_
        exact zx_lessJ (zq_cr (zq_cr (zq_cz (zq_cz zq_cn)))) (hJ _)
      · refine zx_lift (pc' := 24) (fun _ => zq_lconst (v := 1) dX12_clean_23 rfl rfl) ?_
        refine zx_lift (pc' := 28) (fun _ => zq_goto dX12_clean_24 rfl) ?_
        exact zx_lessJ (zq_cr (zq_cr (zq_cz (zq_cz zq_cn)))) (hJ _)
    refine zx_lastore (pc' := 29) zsh_97 dX12_clean_28 rfl (fun s8 => ?_)
    refine zx_lift (pc' := 30) (fun _ => zq_iconst (v := 0) dX12_clean_29 rfl rfl) ?_
    refine zx_lift (pc' := 31) (fun _ => zq_istore_n (ls' := [.ref 57, .int v.1, .int (0 : Int32), .null]) rfl (by decide) rfl rfl dX12_clean_30 rfl) ?_
    refine yX12_clean_31 N v.1 _ (fun e15 => ?_) N ((0 : Int32), s8)
    exact xX12_clean_j125_j N self hself v.1 e15
theorem yX12_clean_6 (N : Nat)    (n : Nat) : ∀ v : Int32 × zq_S, zq_X yX12_clean RX12 cX12_clean 4 (some .long) ⟨5, 0, 0, 114⟩ zv_l 6 [.ref 57, .int v.1, .null, .null] [] v.2 (zq_loop (bX12_clean_6 N ) n v) := by
  induction n with
  | zero => exact fun v u hu => by cases hu
  | succ n ih =>
    intro v
    rw [zq_loop_s]
    exact xX12_clean_6 N  (zq_loop (bX12_clean_6 N ) n) ih v
def mX12_clean (N : Nat)   (s : zq_S) : Option (Int64 × zq_S) :=
  zq_b2 (mX12_findTexts N s) (fun r1 s2 =>
  zq_loop (bX12_clean_6 N ) N ((0 : Int32), s2))
set_option maxRecDepth 20000 in
set_option maxHeartbeats 2000000 in
theorem xX12_clean (N : Nat)   (s : zq_S) : zq_X yX12_clean RX12 cX12_clean 4 (some .long) ⟨5, 0, 0, 114⟩ zv_l 0 [.ref 57, .null, .null, .null] [] s (mX12_clean N s) := by
  unfold mX12_clean
  refine zx_lift (pc' := 1) (fun _ => zq_aload_n rfl rfl dX12_clean_0 rfl) ?_
  refine zx_cVv (pc' := 4) zcv_X12_340 (cX12_findTexts_mc N s) zob_57 rfl (by decide) (Nat.le_of_ble_eq_true rfl) dX12_clean_1 rfl rfl (fun r1 s2 => ?_)
  refine zx_lift (pc' := 5) (fun _ => zq_iconst (v := 0) dX12_clean_4 rfl rfl) ?_
  refine zx_lift (pc' := 6) (fun _ => zq_istore_n (ls' := [.ref 57, .int (0 : Int32), .null, .null]) rfl (by decide) rfl rfl dX12_clean_5 rfl) ?_
  refine yX12_clean_6 N  N ((0 : Int32), s2)
theorem cX12_clean_mc (N : Nat)   (s : zq_S) (v : Int64 × zq_S) (h : mX12_clean N s = some v) : zq_MC yX12_clean cX12_clean 4 (some .long) ⟨5, 0, 0, 114⟩ 0 0 [.ref 57] (zq_en s) (zv_l v.1, zq_en v.2) := zq_MC_x [.ref 57, .null, .null, .null] (by decide +kernel) rfl rfl (Nat.le_of_ble_eq_true rfl) (xX12_clean N s) h
def bX12_copy_27 (N : Nat)   (k61 : zq_S → Option (Int32 × zq_S)) (self : Int32 × zq_S → Option (Int32 × zq_S)) (v : Int32 × zq_S) : Option (Int32 × zq_S) :=
  if (zgf v.2 57 52) ≤ v.1 then
  k61 v.2
  else
  zq_ck v.1 40 (
  zq_ck (((40 : Int32) * (zgf v.2 57 54)) + v.1) 160 (
  zq_let (zpa v.2 93 (((40 : Int32) * (zgf v.2 57 54)) + v.1) (zga v.2 91 v.1)) (fun s2 =>
  zq_let (v.1 + (1 : Int32)) (fun x3 =>
  self (x3, s2)))))
set_option maxRecDepth 20000 in
set_option maxHeartbeats 2000000 in
theorem xX12_copy_27 (N : Nat)   (k61 : zq_S → Option (Int32 × zq_S)) (hk61 : ∀ e, zq_X yX12_copy RX12 cX12_copy 2 (some .int) ⟨0, 0, 0, 0⟩ zv_i 61 [.ref 57, .null] [] e (k61 e)) (self : Int32 × zq_S → Option (Int32 × zq_S)) (hself : ∀ v, zq_X yX12_copy RX12 cX12_copy 2 (some .int) ⟨0, 0, 0, 0⟩ zv_i 27 [.ref 57, .int v.1] [] v.2 (self v)) (v : Int32 × zq_S) : zq_X yX12_copy RX12 cX12_copy 2 (some .int) ⟨0, 0, 0, 0⟩ zv_i 27 [.ref 57, .int v.1] [] v.2 (bX12_copy_27 N k61 self v) := by
  unfold bX12_copy_27
  refine zx_lift (pc' := 28) (fun _ => zq_iload_n rfl rfl dX12_copy_27 rfl) ?_
  refine zx_lift (pc' := 29) (fun _ => zq_aload_n rfl rfl dX12_copy_28 rfl) ?_
  refine zx_lift (pc' := 32) (fun _ => zt_getI zfr_X12_292 zfd_57_52 dX12_copy_29 rfl) ?_
  refine zx_icmp_ge (pc' := 35) (tgt := 61) dX12_copy_32 rfl rfl (fun hc => ?_) (fun hc => ?_)
  · refine zx_less [.ref 57, .null] (zq_cr (zq_cz zq_cn)) ?_
    exact hk61 v.2
  · refine zx_lift (pc' := 36) (fun _ => zq_aload_n rfl rfl dX12_copy_35 rfl) ?_
    refine zx_lift (pc' := 39) (fun _ => zt_getR zfr_X12_122 zfd_57_56 dX12_copy_36 rfl) ?_
    refine zx_lift (pc' := 41) (fun _ => zq_bipush (v := 40) dX12_copy_39 rfl rfl) ?_
    refine zx_lift (pc' := 42) (fun _ => zq_aload_n rfl rfl dX12_copy_41 rfl) ?_
    refine zx_lift (pc' := 45) (fun _ => zt_getI zfr_X12_295 zfd_57_54 dX12_copy_42 rfl) ?_
    refine zx_lift (pc' := 46) (fun _ => zq_imul dX12_copy_45 rfl) ?_
    refine zx_lift (pc' := 47) (fun _ => zq_iload_n rfl rfl dX12_copy_46 rfl) ?_
    refine zx_lift (pc' := 48) (fun _ => zq_iadd dX12_copy_47 rfl) ?_
    refine zx_lift (pc' := 49) (fun _ => zq_aload_n rfl rfl dX12_copy_48 rfl) ?_
    refine zx_lift (pc' := 52) (fun _ => zt_getR zfr_X12_116 zfd_57_53 dX12_copy_49 rfl) ?_
    refine zx_lift (pc' := 53) (fun _ => zq_iload_n rfl rfl dX12_copy_52 rfl) ?_
    refine zx_iaload (pc' := 54) zsh_91 dX12_copy_53 rfl ?_
    refine zx_iastore (pc' := 55) zsh_93 dX12_copy_54 rfl (fun s2 => ?_)
    refine zx_iinc (pc' := 58) (ls' := fun x3 => [.ref 57, .int x3]) rfl rfl (by decide) rfl (fun _ => rfl) dX12_copy_55 rfl (fun x3 => ?_)
    refine zx_lift (pc' := 27) (fun _ => zq_goto dX12_copy_58 rfl) ?_
    exact hself (x3, s2)
theorem yX12_copy_27 (N : Nat)   (k61 : zq_S → Option (Int32 × zq_S)) (hk61 : ∀ e, zq_X yX12_copy RX12 cX12_copy 2 (some .int) ⟨0, 0, 0, 0⟩ zv_i 61 [.ref 57, .null] [] e (k61 e)) (n : Nat) : ∀ v : Int32 × zq_S, zq_X yX12_copy RX12 cX12_copy 2 (some .int) ⟨0, 0, 0, 0⟩ zv_i 27 [.ref 57, .int v.1] [] v.2 (zq_loop (bX12_copy_27 N k61) n v) := by
  induction n with
  | zero => exact fun v u hu => by cases hu
  | succ n ih =>
    intro v
    rw [zq_loop_s]
    exact xX12_copy_27 N k61 hk61 (zq_loop (bX12_copy_27 N k61) n) ih v
def mX12_copy (N : Nat)   (s : zq_S) : Option (Int32 × zq_S) :=
  if (zgf s 57 54) = (4 : Int32) then
  some ((-1004 : Int32), s)
  else
  zq_ck (zgf s 57 54) 4 (
  zq_let (zpa s 92 (zgf s 57 54) (zgf s 57 52)) (fun s1 =>
  zq_loop (bX12_copy_27 N (fun e4 =>
  zq_let (zpf e4 57 52 (0 : Int32)) (fun s5 =>
  zq_let (zpf s5 57 54 ((zgf s5 57 54) + (1 : Int32))) (fun s6 =>
  some (((zgf s6 57 54) - (1 : Int32)), s6))))) N ((0 : Int32), s1)))
set_option maxRecDepth 20000 in
set_option maxHeartbeats 2000000 in
theorem xX12_copy (N : Nat)   (s : zq_S) : zq_X yX12_copy RX12 cX12_copy 2 (some .int) ⟨0, 0, 0, 0⟩ zv_i 0 [.ref 57, .null] [] s (mX12_copy N s) := by
  unfold mX12_copy
  refine zx_lift (pc' := 1) (fun _ => zq_aload_n rfl rfl dX12_copy_0 rfl) ?_
  refine zx_lift (pc' := 4) (fun _ => zt_getI zfr_X12_295 zfd_57_54 dX12_copy_1 rfl) ?_
  refine zx_lift (pc' := 5) (fun _ => zq_iconst (v := 4) dX12_copy_4 rfl rfl) ?_
  refine zx_icmp_ne (pc' := 8) (tgt := 12) dX12_copy_5 rfl rfl (fun hc => ?_) (fun hc => ?_)
  · refine zx_lift (pc' := 13) (fun _ => zq_aload_n rfl rfl dX12_copy_12 rfl) ?_
    refine zx_lift (pc' := 16) (fun _ => zt_getR zfr_X12_119 zfd_57_55 dX12_copy_13 rfl) ?_
    refine zx_lift (pc' := 17) (fun _ => zq_aload_n rfl rfl dX12_copy_16 rfl) ?_
    refine zx_lift (pc' := 20) (fun _ => zt_getI zfr_X12_295 zfd_57_54 dX12_copy_17 rfl) ?_
    refine zx_lift (pc' := 21) (fun _ => zq_aload_n rfl rfl dX12_copy_20 rfl) ?_
    refine zx_lift (pc' := 24) (fun _ => zt_getI zfr_X12_292 zfd_57_52 dX12_copy_21 rfl) ?_
    refine zx_iastore (pc' := 25) zsh_92 dX12_copy_24 rfl (fun s1 => ?_)
    refine zx_lift (pc' := 26) (fun _ => zq_iconst (v := 0) dX12_copy_25 rfl rfl) ?_
    refine zx_lift (pc' := 27) (fun _ => zq_istore_n (ls' := [.ref 57, .int (0 : Int32)]) rfl (by decide) rfl rfl dX12_copy_26 rfl) ?_
    refine yX12_copy_27 N _ (fun e4 => ?_) N ((0 : Int32), s1)
    refine zx_lift (pc' := 62) (fun _ => zq_aload_n rfl rfl dX12_copy_61 rfl) ?_
    refine zx_lift (pc' := 63) (fun _ => zq_iconst (v := 0) dX12_copy_62 rfl rfl) ?_
    refine zx_putI (pc' := 66) zfr_X12_292 (fun _ => ⟨rfl, rfl⟩) zfd_57_52 dX12_copy_63 rfl (fun s5 => ?_)
    refine zx_lift (pc' := 67) (fun _ => zq_aload_n rfl rfl dX12_copy_66 rfl) ?_
    refine zx_lift (pc' := 68) (fun _ => zq_dup rfl dX12_copy_67 rfl) ?_
    refine zx_lift (pc' := 71) (fun _ => zt_getI zfr_X12_295 zfd_57_54 dX12_copy_68 rfl) ?_
    refine zx_lift (pc' := 72) (fun _ => zq_iconst (v := 1) dX12_copy_71 rfl rfl) ?_
    refine zx_lift (pc' := 73) (fun _ => zq_iadd dX12_copy_72 rfl) ?_
    refine zx_putI (pc' := 76) zfr_X12_295 (fun _ => ⟨rfl, rfl⟩) zfd_57_54 dX12_copy_73 rfl (fun s6 => ?_)
    refine zx_lift (pc' := 77) (fun _ => zq_aload_n rfl rfl dX12_copy_76 rfl) ?_
    refine zx_lift (pc' := 80) (fun _ => zt_getI zfr_X12_295 zfd_57_54 dX12_copy_77 rfl) ?_
    refine zx_lift (pc' := 81) (fun _ => zq_iconst (v := 1) dX12_copy_80 rfl rfl) ?_
    refine zx_lift (pc' := 82) (fun _ => zq_isub dX12_copy_81 rfl) ?_
    exact zx_iret rfl dX12_copy_82
  · refine zx_lift (pc' := 11) (fun _ => zq_sipush (v := (-1004)) dX12_copy_8 rfl rfl) ?_
    exact zx_iret rfl dX12_copy_11
theorem cX12_copy_mc (N : Nat)   (s : zq_S) (v : Int32 × zq_S) (h : mX12_copy N s = some v) : zq_MC yX12_copy cX12_copy 2 (some .int) ⟨0, 0, 0, 0⟩ 0 0 [.ref 57] (zq_en s) (zv_i v.1, zq_en v.2) := zq_MC_x [.ref 57, .null] (by decide +kernel) rfl rfl (Nat.le_of_ble_eq_true rfl) (xX12_copy N s) h
def bX12_bits_4 (N : Nat)  (f0 : Int32)  (self : Int32 × Int32 × zq_S → Option (Int32 × zq_S)) (v : Int32 × Int32 × zq_S) : Option (Int32 × zq_S) :=
  if (10 : Int32) ≤ v.2.1 then
  some (v.1, v.2.2)
  else
  zq_let (v.1 + ((f0 >>> (v.2.1 &&& 31)) &&& (1 : Int32))) (fun x1 =>
  zq_let (v.2.1 + (1 : Int32)) (fun x2 =>
  self (x1, x2, v.2.2)))
set_option maxRecDepth 20000 in
set_option maxHeartbeats 2000000 in
theorem xX12_bits_4 (N : Nat)  (f0 : Int32)  (self : Int32 × Int32 × zq_S → Option (Int32 × zq_S)) (hself : ∀ v, zq_X yX12_bits RX12 cX12_bits 3 (some .int) ⟨0, 0, 0, 0⟩ zv_i 4 [.int f0, .int v.1, .int v.2.1] [] v.2.2 (self v)) (v : Int32 × Int32 × zq_S) : zq_X yX12_bits RX12 cX12_bits 3 (some .int) ⟨0, 0, 0, 0⟩ zv_i 4 [.int f0, .int v.1, .int v.2.1] [] v.2.2 (bX12_bits_4 N f0 self v) := by
  unfold bX12_bits_4
  refine zx_lift (pc' := 5) (fun _ => zq_iload_n rfl rfl dX12_bits_4 rfl) ?_
  refine zx_lift (pc' := 7) (fun _ => zq_bipush (v := 10) dX12_bits_5 rfl rfl) ?_
  refine zx_icmp_ge (pc' := 10) (tgt := 24) dX12_bits_7 rfl rfl (fun hc => ?_) (fun hc => ?_)
  · refine zx_lift (pc' := 25) (fun _ => zq_iload_n rfl rfl dX12_bits_24 rfl) ?_
    exact zx_iret rfl dX12_bits_25
  · refine zx_lift (pc' := 11) (fun _ => zq_iload_n rfl rfl dX12_bits_10 rfl) ?_
    refine zx_lift (pc' := 12) (fun _ => zq_iload_n rfl rfl dX12_bits_11 rfl) ?_
    refine zx_lift (pc' := 13) (fun _ => zq_iload_n rfl rfl dX12_bits_12 rfl) ?_
    refine zx_lift (pc' := 14) (fun _ => zq_ishr dX12_bits_13 rfl) ?_
    refine zx_lift (pc' := 15) (fun _ => zq_iconst (v := 1) dX12_bits_14 rfl rfl) ?_
    refine zx_lift (pc' := 16) (fun _ => zq_iand dX12_bits_15 rfl) ?_
    refine zx_lift (pc' := 17) (fun _ => zq_iadd dX12_bits_16 rfl) ?_
    refine zx_istore_n (pc' := 18) (ls' := fun x1 => [.int f0, .int x1, .int v.2.1]) rfl (by decide) rfl (fun _ => rfl) dX12_bits_17 rfl (fun x1 => ?_)
    refine zx_iinc (pc' := 21) (ls' := fun x2 => [.int f0, .int x1, .int x2]) rfl rfl (by decide) rfl (fun _ => rfl) dX12_bits_18 rfl (fun x2 => ?_)
    refine zx_lift (pc' := 4) (fun _ => zq_goto dX12_bits_21 rfl) ?_
    exact hself (x1, x2, v.2.2)
theorem yX12_bits_4 (N : Nat)  (f0 : Int32)  (n : Nat) : ∀ v : Int32 × Int32 × zq_S, zq_X yX12_bits RX12 cX12_bits 3 (some .int) ⟨0, 0, 0, 0⟩ zv_i 4 [.int f0, .int v.1, .int v.2.1] [] v.2.2 (zq_loop (bX12_bits_4 N f0 ) n v) := by
  induction n with
  | zero => exact fun v u hu => by cases hu
  | succ n ih =>
    intro v
    rw [zq_loop_s]
    exact xX12_bits_4 N f0  (zq_loop (bX12_bits_4 N f0 ) n) ih v
def mX12_bits (N : Nat)  (p0 : Int32) (s : zq_S) : Option (Int32 × zq_S) :=
  zq_loop (bX12_bits_4 N p0 ) N ((0 : Int32), (0 : Int32), s)
set_option maxRecDepth 20000 in
set_option maxHeartbeats 2000000 in
theorem xX12_bits (N : Nat)  (p0 : Int32) (s : zq_S) : zq_X yX12_bits RX12 cX12_bits 3 (some .int) ⟨0, 0, 0, 0⟩ zv_i 0 [.int p0, .null, .null] [] s (mX12_bits N p0 s) := by
  unfold mX12_bits
  refine zx_lift (pc' := 1) (fun _ => zq_iconst (v := 0) dX12_bits_0 rfl rfl) ?_
  refine zx_lift (pc' := 2) (fun _ => zq_istore_n (ls' := [.int p0, .int (0 : Int32), .null]) rfl (by decide) rfl rfl dX12_bits_1 rfl) ?_
  refine zx_lift (pc' := 3) (fun _ => zq_iconst (v := 0) dX12_bits_2 rfl rfl) ?_
  refine zx_lift (pc' := 4) (fun _ => zq_istore_n (ls' := [.int p0, .int (0 : Int32), .int (0 : Int32)]) rfl (by decide) rfl rfl dX12_bits_3 rfl) ?_
  refine yX12_bits_4 N p0  N ((0 : Int32), (0 : Int32), s)
theorem cX12_bits_mc (N : Nat)  (p0 : Int32) (s : zq_S) (v : Int32 × zq_S) (h : mX12_bits N p0 s = some v) : zq_MC yX12_bits cX12_bits 3 (some .int) ⟨0, 0, 0, 0⟩ 0 0 [.int p0] (zq_en s) (zv_i v.1, zq_en v.2) := zq_MC_x [.int p0, .null, .null] (by decide +kernel) rfl rfl (Nat.le_of_ble_eq_true rfl) (xX12_bits N p0 s) h
def jX12_findSessions_j284 (N : Nat)  (f1 : Int32) (f2 : Int32) (f3 : Int32) (k290 : zq_S → Option (Unit × zq_S)) (self : Int32 × zq_S → Option (Unit × zq_S)) (w4 : Int32) (s : zq_S) : Option (Unit × zq_S) :=
  zq_let (w4 + (1 : Int32)) (fun x15 =>
  self (x15, s))
set_option maxRecDepth 20000 in
set_option maxHeartbeats 2000000 in
theorem xX12_findSessions_j284_j (N : Nat)  (f1 : Int32) (f2 : Int32) (f3 : Int32) (k290 : zq_S → Option (Unit × zq_S)) (hk290 : ∀ e, zq_X yX12_findSessions RX12 cX12_findSessions 10 none ⟨5, 0, 0, 114⟩ zv_v 290 [.ref 57, .int f1, .int f2, .null, .null, .null, .null, .null, .null, .null] [] e (k290 e)) (self : Int32 × zq_S → Option (Unit × zq_S)) (hself : ∀ v, zq_X yX12_findSessions RX12 cX12_findSessions 10 none ⟨5, 0, 0, 114⟩ zv_v 80 [.ref 57, .int f1, .int f2, .int f3, .int v.1, .null, .null, .null, .null, .null] [] v.2 (self v)) (w4 : Int32) (s : zq_S) : zq_X yX12_findSessions RX12 cX12_findSessions 10 none ⟨5, 0, 0, 114⟩ zv_v 284 [.ref 57, .int f1, .int f2, .int f3, .int w4, .null, .null, .null, .null, .null] [] s (jX12_findSessions_j284 N f1 f2 f3 k290 self w4 s) := by
  unfold jX12_findSessions_j284
  refine zx_iinc (pc' := 287) (ls' := fun x15 => [.ref 57, .int f1, .int f2, .int f3, .int x15, .null, .null, .null, .null, .null]) rfl rfl (by decide) rfl (fun _ => rfl) dX12_findSessions_284 rfl (fun x15 => ?_)
  refine zx_lift (pc' := 80) (fun _ => zq_goto dX12_findSessions_287 rfl) ?_
  exact hself (x15, s)
def jX12_findSessions_j283 (N : Nat)  (f1 : Int32) (f2 : Int32) (f3 : Int32) (k290 : zq_S → Option (Unit × zq_S)) (self : Int32 × zq_S → Option (Unit × zq_S)) (w4 : Int32) (t0 : Int32) (t1 : Int32) (s : zq_S) : Option (Unit × zq_S) :=
  zq_ck t1 4096 (
  zq_let (zpa s 83 t1 t0) (fun s21 =>
  jX12_findSessions_j284 N f1 f2 f3 k290 self w4 s21))
set_option maxRecDepth 20000 in
set_option maxHeartbeats 2000000 in
theorem xX12_findSessions_j283_j (N : Nat)  (f1 : Int32) (f2 : Int32) (f3 : Int32) (k290 : zq_S → Option (Unit × zq_S)) (hk290 : ∀ e, zq_X yX12_findSessions RX12 cX12_findSessions 10 none ⟨5, 0, 0, 114⟩ zv_v 290 [.ref 57, .int f1, .int f2, .null, .null, .null, .null, .null, .null, .null] [] e (k290 e)) (self : Int32 × zq_S → Option (Unit × zq_S)) (hself : ∀ v, zq_X yX12_findSessions RX12 cX12_findSessions 10 none ⟨5, 0, 0, 114⟩ zv_v 80 [.ref 57, .int f1, .int f2, .int f3, .int v.1, .null, .null, .null, .null, .null] [] v.2 (self v)) (w4 : Int32) (t0 : Int32) (t1 : Int32) (s : zq_S) : zq_X yX12_findSessions RX12 cX12_findSessions 10 none ⟨5, 0, 0, 114⟩ zv_v 283 [.ref 57, .int f1, .int f2, .int f3, .int w4, .null, .null, .null, .null, .null] [.int t0, .int t1, .ref 83] s (jX12_findSessions_j283 N f1 f2 f3 k290 self w4 t0 t1 s) := by
  unfold jX12_findSessions_j283
  refine zx_iastore (pc' := 284) zsh_83 dX12_findSessions_283 rfl (fun s21 => ?_)
  exact xX12_findSessions_j284_j N f1 f2 f3 k290 hk290 self hself w4 s21
def jX12_findSessions_j261 (N : Nat)  (f1 : Int32) (f2 : Int32) (f3 : Int32) (k290 : zq_S → Option (Unit × zq_S)) (self : Int32 × zq_S → Option (Unit × zq_S)) (w4 : Int32) (w8 : Int32) (w9 : Int32) (t0 : Int32) (t1 : Int32) (s : zq_S) : Option (Unit × zq_S) :=
  zq_ck t1 4096 (
  zq_let (zpa s 82 t1 t0) (fun s20 =>
  if w9 = (0 : Int32) then
  zq_ck f3 4096 (
  jX12_findSessions_j283 N f1 f2 f3 k290 self w4 (zga s20 83 f3) f3 s20)
  else
  jX12_findSessions_j283 N f1 f2 f3 k290 self w4 w8 f3 s20))
set_option maxRecDepth 20000 in
set_option maxHeartbeats 2000000 in
theorem xX12_findSessions_j261_j (N : Nat)  (f1 : Int32) (f2 : Int32) (f3 : Int32) (k290 : zq_S → Option (Unit × zq_S)) (hk290 : ∀ e, zq_X yX12_findSessions RX12 cX12_findSessions 10 none ⟨5, 0, 0, 114⟩ zv_v 290 [.ref 57, .int f1, .int f2, .null, .null, .null, .null, .null, .null, .null] [] e (k290 e)) (self : Int32 × zq_S → Option (Unit × zq_S)) (hself : ∀ v, zq_X yX12_findSessions RX12 cX12_findSessions 10 none ⟨5, 0, 0, 114⟩ zv_v 80 [.ref 57, .int f1, .int f2, .int f3, .int v.1, .null, .null, .null, .null, .null] [] v.2 (self v)) (w4 : Int32) (w8 : Int32) (w9 : Int32) (t0 : Int32) (t1 : Int32) (s : zq_S) : zq_X yX12_findSessions RX12 cX12_findSessions 10 none ⟨5, 0, 0, 114⟩ zv_v 261 [.ref 57, .int f1, .int f2, .int f3, .int w4, .null, .null, .null, .int w8, .int w9] [.int t0, .int t1, .ref 82] s (jX12_findSessions_j261 N f1 f2 f3 k290 self w4 w8 w9 t0 t1 s) := by
  unfold jX12_findSessions_j261
  refine zx_iastore (pc' := 262) zsh_82 dX12_findSessions_261 rfl (fun s20 => ?_)
  refine zx_lift (pc' := 263) (fun _ => zq_aload_n rfl rfl dX12_findSessions_262 rfl) ?_
  refine zx_lift (pc' := 266) (fun _ => zt_getR zfr_X12_91 zfd_57_43 dX12_findSessions_263 rfl) ?_
  refine zx_lift (pc' := 267) (fun _ => zq_iload_n rfl rfl dX12_findSessions_266 rfl) ?_
  refine zx_lift (pc' := 269) (fun _ => zq_iload rfl dX12_findSessions_267 rfl) ?_
  refine zx_if_eq (pc' := 272) (tgt := 277) dX12_findSessions_269 rfl rfl (fun hc => ?_) (fun hc => ?_)
  · refine zx_lift (pc' := 278) (fun _ => zq_aload_n rfl rfl dX12_findSessions_277 rfl) ?_
    refine zx_lift (pc' := 281) (fun _ => zt_getR zfr_X12_91 zfd_57_43 dX12_findSessions_278 rfl) ?_
    refine zx_lift (pc' := 282) (fun _ => zq_iload_n rfl rfl dX12_findSessions_281 rfl) ?_
    refine zx_iaload (pc' := 283) zsh_83 dX12_findSessions_282 rfl ?_
    refine zx_less [.ref 57, .int f1, .int f2, .int f3, .int w4, .null, .null, .null, .null, .null] (zq_cr (zq_cr (zq_cr (zq_cr (zq_cr (zq_cz (zq_cz (zq_cz (zq_cz (zq_cz zq_cn)))))))))) ?_
    exact xX12_findSessions_j283_j N f1 f2 f3 k290 hk290 self hself w4 (zga s20 83 f3) f3 s20
  · refine zx_lift (pc' := 274) (fun _ => zq_iload rfl dX12_findSessions_272 rfl) ?_
    refine zx_lift (pc' := 283) (fun _ => zq_goto dX12_findSessions_274 rfl) ?_
    refine zx_less [.ref 57, .int f1, .int f2, .int f3, .int w4, .null, .null, .null, .null, .null] (zq_cr (zq_cr (zq_cr (zq_cr (zq_cr (zq_cz (zq_cz (zq_cz (zq_cz (zq_cz zq_cn)))))))))) ?_
    exact xX12_findSessions_j283_j N f1 f2 f3 k290 hk290 self hself w4 w8 f3 s20
def jX12_findSessions_j238 (N : Nat)  (f1 : Int32) (f2 : Int32) (f3 : Int32) (k290 : zq_S → Option (Unit × zq_S)) (self : Int32 × zq_S → Option (Unit × zq_S)) (w4 : Int32) (w7 : Int32) (w8 : Int32) (t0 : Int32) (s : zq_S) : Option (Unit × zq_S) :=
  if t0 = (0 : Int32) then
  zq_ck f3 4096 (
  jX12_findSessions_j261 N f1 f2 f3 k290 self w4 w8 t0 (zga s 82 f3) f3 s)
  else
  jX12_findSessions_j261 N f1 f2 f3 k290 self w4 w8 t0 w7 f3 s
set_option maxRecDepth 20000 in
set_option maxHeartbeats 2000000 in
theorem xX12_findSessions_j238_j (N : Nat)  (f1 : Int32) (f2 : Int32) (f3 : Int32) (k290 : zq_S → Option (Unit × zq_S)) (hk290 : ∀ e, zq_X yX12_findSessions RX12 cX12_findSessions 10 none ⟨5, 0, 0, 114⟩ zv_v 290 [.ref 57, .int f1, .int f2, .null, .null, .null, .null, .null, .null, .null] [] e (k290 e)) (self : Int32 × zq_S → Option (Unit × zq_S)) (hself : ∀ v, zq_X yX12_findSessions RX12 cX12_findSessions 10 none ⟨5, 0, 0, 114⟩ zv_v 80 [.ref 57, .int f1, .int f2, .int f3, .int v.1, .null, .null, .null, .null, .null] [] v.2 (self v)) (w4 : Int32) (w7 : Int32) (w8 : Int32) (t0 : Int32) (s : zq_S) : zq_X yX12_findSessions RX12 cX12_findSessions 10 none ⟨5, 0, 0, 114⟩ zv_v 238 [.ref 57, .int f1, .int f2, .int f3, .int w4, .null, .null, .int w7, .int w8, .null] [.int t0] s (jX12_findSessions_j238 N f1 f2 f3 k290 self w4 w7 w8 t0 s) := by
  unfold jX12_findSessions_j238
  refine zx_lift (pc' := 240) (fun _ => zq_istore (ls' := [.ref 57, .int f1, .int f2, .int f3, .int w4, .null, .null, .int w7, .int w8, .int t0]) (by decide) rfl rfl dX12_findSessions_238 rfl) ?_
  refine zx_lift (pc' := 241) (fun _ => zq_aload_n rfl rfl dX12_findSessions_240 rfl) ?_
  refine zx_lift (pc' := 244) (fun _ => zt_getR zfr_X12_88 zfd_57_42 dX12_findSessions_241 rfl) ?_
  refine zx_lift (pc' := 245) (fun _ => zq_iload_n rfl rfl dX12_findSessions_244 rfl) ?_
  refine zx_lift (pc' := 247) (fun _ => zq_iload rfl dX12_findSessions_245 rfl) ?_
  refine zx_if_eq (pc' := 250) (tgt := 255) dX12_findSessions_247 rfl rfl (fun hc => ?_) (fun hc => ?_)
  · refine zx_lift (pc' := 256) (fun _ => zq_aload_n rfl rfl dX12_findSessions_255 rfl) ?_
    refine zx_lift (pc' := 259) (fun _ => zt_getR zfr_X12_88 zfd_57_42 dX12_findSessions_256 rfl) ?_
    refine zx_lift (pc' := 260) (fun _ => zq_iload_n rfl rfl dX12_findSessions_259 rfl) ?_
    refine zx_iaload (pc' := 261) zsh_82 dX12_findSessions_260 rfl ?_
    refine zx_less [.ref 57, .int f1, .int f2, .int f3, .int w4, .null, .null, .null, .int w8, .int t0] (zq_cr (zq_cr (zq_cr (zq_cr (zq_cr (zq_cz (zq_cz (zq_cz (zq_cr (zq_cr zq_cn)))))))))) ?_
    exact xX12_findSessions_j261_j N f1 f2 f3 k290 hk290 self hself w4 w8 t0 (zga s 82 f3) f3 s
  · refine zx_lift (pc' := 252) (fun _ => zq_iload rfl dX12_findSessions_250 rfl) ?_
    refine zx_lift (pc' := 261) (fun _ => zq_goto dX12_findSessions_252 rfl) ?_
    refine zx_less [.ref 57, .int f1, .int f2, .int f3, .int w4, .null, .null, .null, .int w8, .int t0] (zq_cr (zq_cr (zq_cr (zq_cr (zq_cr (zq_cz (zq_cz (zq_cz (zq_cr (zq_cr zq_cn)))))))))) ?_
    exact xX12_findSessions_j261_j N f1 f2 f3 k290 hk290 self hself w4 w8 t0 w7 f3 s
def jX12_findSessions_j233 (N : Nat)  (f1 : Int32) (f2 : Int32) (f3 : Int32) (k290 : zq_S → Option (Unit × zq_S)) (self : Int32 × zq_S → Option (Unit × zq_S)) (w4 : Int32) (w7 : Int32) (w8 : Int32) (s : zq_S) : Option (Unit × zq_S) :=
  jX12_findSessions_j238 N f1 f2 f3 k290 self w4 w7 w8 (1 : Int32) s
set_option maxRecDepth 20000 in
set_option maxHeartbeats 2000000 in
theorem xX12_findSessions_j233_j (N : Nat)  (f1 : Int32) (f2 : Int32) (f3 : Int32) (k290 : zq_S → Option (Unit × zq_S)) (hk290 : ∀ e, zq_X yX12_findSessions RX12 cX12_findSessions 10 none ⟨5, 0, 0, 114⟩ zv_v 290 [.ref 57, .int f1, .int f2, .null, .null, .null, .null, .null, .null, .null] [] e (k290 e)) (self : Int32 × zq_S → Option (Unit × zq_S)) (hself : ∀ v, zq_X yX12_findSessions RX12 cX12_findSessions 10 none ⟨5, 0, 0, 114⟩ zv_v 80 [.ref 57, .int f1, .int f2, .int f3, .int v.1, .null, .null, .null, .null, .null] [] v.2 (self v)) (w4 : Int32) (w7 : Int32) (w8 : Int32) (s : zq_S) : zq_X yX12_findSessions RX12 cX12_findSessions 10 none ⟨5, 0, 0, 114⟩ zv_v 233 [.ref 57, .int f1, .int f2, .int f3, .int w4, .null, .null, .int w7, .int w8, .null] [] s (jX12_findSessions_j233 N f1 f2 f3 k290 self w4 w7 w8 s) := by
  unfold jX12_findSessions_j233
  refine zx_lift (pc' := 234) (fun _ => zq_iconst (v := 1) dX12_findSessions_233 rfl rfl) ?_
  refine zx_lift (pc' := 238) (fun _ => zq_goto dX12_findSessions_234 rfl) ?_
  exact xX12_findSessions_j238_j N f1 f2 f3 k290 hk290 self hself w4 w7 w8 (1 : Int32) s
def jX12_findSessions_j237 (N : Nat)  (f1 : Int32) (f2 : Int32) (f3 : Int32) (k290 : zq_S → Option (Unit × zq_S)) (self : Int32 × zq_S → Option (Unit × zq_S)) (w4 : Int32) (w7 : Int32) (w8 : Int32) (s : zq_S) : Option (Unit × zq_S) :=
  jX12_findSessions_j238 N f1 f2 f3 k290 self w4 w7 w8 (0 : Int32) s
set_option maxRecDepth 20000 in
set_option maxHeartbeats 2000000 in
theorem xX12_findSessions_j237_j (N : Nat)  (f1 : Int32) (f2 : Int32) (f3 : Int32) (k290 : zq_S → Option (Unit × zq_S)) (hk290 : ∀ e, zq_X yX12_findSessions RX12 cX12_findSessions 10 none ⟨5, 0, 0, 114⟩ zv_v 290 [.ref 57, .int f1, .int f2, .null, .null, .null, .null, .null, .null, .null] [] e (k290 e)) (self : Int32 × zq_S → Option (Unit × zq_S)) (hself : ∀ v, zq_X yX12_findSessions RX12 cX12_findSessions 10 none ⟨5, 0, 0, 114⟩ zv_v 80 [.ref 57, .int f1, .int f2, .int f3, .int v.1, .null, .null, .null, .null, .null] [] v.2 (self v)) (w4 : Int32) (w7 : Int32) (w8 : Int32) (s : zq_S) : zq_X yX12_findSessions RX12 cX12_findSessions 10 none ⟨5, 0, 0, 114⟩ zv_v 237 [.ref 57, .int f1, .int f2, .int f3, .int w4, .null, .null, .int w7, .int w8, .null] [] s (jX12_findSessions_j237 N f1 f2 f3 k290 self w4 w7 w8 s) := by
  unfold jX12_findSessions_j237
  refine zx_lift (pc' := 238) (fun _ => zq_iconst (v := 0) dX12_findSessions_237 rfl rfl) ?_
  exact xX12_findSessions_j238_j N f1 f2 f3 k290 hk290 self hself w4 w7 w8 (0 : Int32) s
def jX12_findSessions_j197 (N : Nat)  (f1 : Int32) (f2 : Int32) (f3 : Int32) (k290 : zq_S → Option (Unit × zq_S)) (self : Int32 × zq_S → Option (Unit × zq_S)) (w4 : Int32) (w7 : Int32) (t0 : Int32) (t1 : Int32) (s : zq_S) : Option (Unit × zq_S) :=
  zq_let (t1 + t0) (fun x19 =>
  zq_ck f3 4096 (
  if w7 < (zga s 82 f3) then
  jX12_findSessions_j233 N f1 f2 f3 k290 self w4 w7 x19 s
  else
  zq_ck f3 4096 (
  if w7 = (zga s 82 f3) then
  zq_ck f3 4096 (
  if (zga s 83 f3) ≤ x19 then
  jX12_findSessions_j237 N f1 f2 f3 k290 self w4 w7 x19 s
  else
  jX12_findSessions_j233 N f1 f2 f3 k290 self w4 w7 x19 s)
  else
  jX12_findSessions_j237 N f1 f2 f3 k290 self w4 w7 x19 s)))
set_option maxRecDepth 20000 in
set_option maxHeartbeats 2000000 in
theorem xX12_findSessions_j197_j (N : Nat)  (f1 : Int32) (f2 : Int32) (f3 : Int32) (k290 : zq_S → Option (Unit × zq_S)) (hk290 : ∀ e, zq_X yX12_findSessions RX12 cX12_findSessions 10 none ⟨5, 0, 0, 114⟩ zv_v 290 [.ref 57, .int f1, .int f2, .null, .null, .null, .null, .null, .null, .null] [] e (k290 e)) (self : Int32 × zq_S → Option (Unit × zq_S)) (hself : ∀ v, zq_X yX12_findSessions RX12 cX12_findSessions 10 none ⟨5, 0, 0, 114⟩ zv_v 80 [.ref 57, .int f1, .int f2, .int f3, .int v.1, .null, .null, .null, .null, .null] [] v.2 (self v)) (w4 : Int32) (w7 : Int32) (t0 : Int32) (t1 : Int32) (s : zq_S) : zq_X yX12_findSessions RX12 cX12_findSessions 10 none ⟨5, 0, 0, 114⟩ zv_v 197 [.ref 57, .int f1, .int f2, .int f3, .int w4, .null, .null, .int w7, .null, .null] [.int t0, .int t1] s (jX12_findSessions_j197 N f1 f2 f3 k290 self w4 w7 t0 t1 s) := by
  unfold jX12_findSessions_j197
  refine zx_lift (pc' := 198) (fun _ => zq_iadd dX12_findSessions_197 rfl) ?_
  refine zx_istore (pc' := 200) (ls' := fun x19 => [.ref 57, .int f1, .int f2, .int f3, .int w4, .null, .null, .int w7, .int x19, .null]) (by decide) rfl (fun _ => rfl) dX12_findSessions_198 rfl (fun x19 => ?_)
  refine zx_lift (pc' := 202) (fun _ => zq_iload rfl dX12_findSessions_200 rfl) ?_
  refine zx_lift (pc' := 203) (fun _ => zq_aload_n rfl rfl dX12_findSessions_202 rfl) ?_
  refine zx_lift (pc' := 206) (fun _ => zt_getR zfr_X12_88 zfd_57_42 dX12_findSessions_203 rfl) ?_
  refine zx_lift (pc' := 207) (fun _ => zq_iload_n rfl rfl dX12_findSessions_206 rfl) ?_
  refine zx_iaload (pc' := 208) zsh_82 dX12_findSessions_207 rfl ?_
  refine zx_icmp_lt (pc' := 211) (tgt := 233) dX12_findSessions_208 rfl rfl (fun hc => ?_) (fun hc => ?_)
  · exact xX12_findSessions_j233_j N f1 f2 f3 k290 hk290 self hself w4 w7 x19 s
  · refine zx_lift (pc' := 213) (fun _ => zq_iload rfl dX12_findSessions_211 rfl) ?_
    refine zx_lift (pc' := 214) (fun _ => zq_aload_n rfl rfl dX12_findSessions_213 rfl) ?_
    refine zx_lift (pc' := 217) (fun _ => zt_getR zfr_X12_88 zfd_57_42 dX12_findSessions_214 rfl) ?_
    refine zx_lift (pc' := 218) (fun _ => zq_iload_n rfl rfl dX12_findSessions_217 rfl) ?_
    refine zx_iaload (pc' := 219) zsh_82 dX12_findSessions_218 rfl ?_
    refine zx_icmp_ne (pc' := 222) (tgt := 237) dX12_findSessions_219 rfl rfl (fun hc => ?_) (fun hc => ?_)
    · exact xX12_findSessions_j237_j N f1 f2 f3 k290 hk290 self hself w4 w7 x19 s
    · refine zx_lift (pc' := 224) (fun _ => zq_iload rfl dX12_findSessions_222 rfl) ?_
      refine zx_lift (pc' := 225) (fun _ => zq_aload_n rfl rfl dX12_findSessions_224 rfl) ?_
      refine zx_lift (pc' := 228) (fun _ => zt_getR zfr_X12_91 zfd_57_43 dX12_findSessions_225 rfl) ?_
      refine zx_lift (pc' := 229) (fun _ => zq_iload_n rfl rfl dX12_findSessions_228 rfl) ?_
      refine zx_iaload (pc' := 230) zsh_83 dX12_findSessions_229 rfl ?_
      refine zx_icmp_ge (pc' := 233) (tgt := 237) dX12_findSessions_230 rfl rfl (fun hc => ?_) (fun hc => ?_)
      · exact xX12_findSessions_j237_j N f1 f2 f3 k290 hk290 self hself w4 w7 x19 s
      · exact xX12_findSessions_j233_j N f1 f2 f3 k290 hk290 self hself w4 w7 x19 s
def jX12_findSessions_j188 (N : Nat)  (f1 : Int32) (f2 : Int32) (f3 : Int32) (k290 : zq_S → Option (Unit × zq_S)) (self : Int32 × zq_S → Option (Unit × zq_S)) (w4 : Int32) (w7 : Int32) (t0 : Int32) (s : zq_S) : Option (Unit × zq_S) :=
  jX12_findSessions_j197 N f1 f2 f3 k290 self w4 w7 (0 : Int32) t0 s
set_option maxRecDepth 20000 in
set_option maxHeartbeats 2000000 in
theorem xX12_findSessions_j188_j (N : Nat)  (f1 : Int32) (f2 : Int32) (f3 : Int32) (k290 : zq_S → Option (Unit × zq_S)) (hk290 : ∀ e, zq_X yX12_findSessions RX12 cX12_findSessions 10 none ⟨5, 0, 0, 114⟩ zv_v 290 [.ref 57, .int f1, .int f2, .null, .null, .null, .null, .null, .null, .null] [] e (k290 e)) (self : Int32 × zq_S → Option (Unit × zq_S)) (hself : ∀ v, zq_X yX12_findSessions RX12 cX12_findSessions 10 none ⟨5, 0, 0, 114⟩ zv_v 80 [.ref 57, .int f1, .int f2, .int f3, .int v.1, .null, .null, .null, .null, .null] [] v.2 (self v)) (w4 : Int32) (w7 : Int32) (t0 : Int32) (s : zq_S) : zq_X yX12_findSessions RX12 cX12_findSessions 10 none ⟨5, 0, 0, 114⟩ zv_v 188 [.ref 57, .int f1, .int f2, .int f3, .int w4, .null, .null, .int w7, .null, .null] [.int t0] s (jX12_findSessions_j188 N f1 f2 f3 k290 self w4 w7 t0 s) := by
  unfold jX12_findSessions_j188
  refine zx_lift (pc' := 189) (fun _ => zq_iconst (v := 0) dX12_findSessions_188 rfl rfl) ?_
  refine zx_lift (pc' := 197) (fun _ => zq_goto dX12_findSessions_189 rfl) ?_
  exact xX12_findSessions_j197_j N f1 f2 f3 k290 hk290 self hself w4 w7 (0 : Int32) t0 s
def jX12_findSessions_j150 (N : Nat)  (f1 : Int32) (f2 : Int32) (f3 : Int32) (k290 : zq_S → Option (Unit × zq_S)) (self : Int32 × zq_S → Option (Unit × zq_S)) (w4 : Int32) (w5 : Int32) (t0 : Int32) (s : zq_S) : Option (Unit × zq_S) :=
  zq_ck w5 4096 (
  zq_let (if t0 = (0 : Int32) then (1 : Int32) else (0 : Int32)) (fun x17 =>
  zq_let ((zga s 82 w5) + x17) (fun x18 =>
  zq_ck w5 4096 (
  if t0 = (0 : Int32) then
  if f1 = (0 : Int32) then
  jX12_findSessions_j188 N f1 f2 f3 k290 self w4 x18 (zga s 83 w5) s
  else
  zq_b2 (mX12_breaksOf N f1 s) (fun r22 s23 =>
  jX12_findSessions_j197 N f1 f2 f3 k290 self w4 x18 r22 (zga s 83 w5) s23)
  else
  jX12_findSessions_j188 N f1 f2 f3 k290 self w4 x18 (zga s 83 w5) s))))
set_option maxRecDepth 20000 in
set_option maxHeartbeats 2000000 in
theorem xX12_findSessions_j150_j (N : Nat)  (f1 : Int32) (f2 : Int32) (f3 : Int32) (k290 : zq_S → Option (Unit × zq_S)) (hk290 : ∀ e, zq_X yX12_findSessions RX12 cX12_findSessions 10 none ⟨5, 0, 0, 114⟩ zv_v 290 [.ref 57, .int f1, .int f2, .null, .null, .null, .null, .null, .null, .null] [] e (k290 e)) (self : Int32 × zq_S → Option (Unit × zq_S)) (hself : ∀ v, zq_X yX12_findSessions RX12 cX12_findSessions 10 none ⟨5, 0, 0, 114⟩ zv_v 80 [.ref 57, .int f1, .int f2, .int f3, .int v.1, .null, .null, .null, .null, .null] [] v.2 (self v)) (w4 : Int32) (w5 : Int32) (t0 : Int32) (s : zq_S) : zq_X yX12_findSessions RX12 cX12_findSessions 10 none ⟨5, 0, 0, 114⟩ zv_v 150 [.ref 57, .int f1, .int f2, .int f3, .int w4, .int w5, .null, .null, .null, .null] [.int t0] s (jX12_findSessions_j150 N f1 f2 f3 k290 self w4 w5 t0 s) := by
  unfold jX12_findSessions_j150
  refine zx_lift (pc' := 152) (fun _ => zq_istore (ls' := [.ref 57, .int f1, .int f2, .int f3, .int w4, .int w5, .int t0, .null, .null, .null]) (by decide) rfl rfl dX12_findSessions_150 rfl) ?_
  refine zx_lift (pc' := 153) (fun _ => zq_aload_n rfl rfl dX12_findSessions_152 rfl) ?_
  refine zx_lift (pc' := 156) (fun _ => zt_getR zfr_X12_88 zfd_57_42 dX12_findSessions_153 rfl) ?_
  refine zx_lift (pc' := 158) (fun _ => zq_iload rfl dX12_findSessions_156 rfl) ?_
  refine zx_iaload (pc' := 159) zsh_82 dX12_findSessions_158 rfl ?_
  refine zx_lift (pc' := 161) (fun _ => zq_iload rfl dX12_findSessions_159 rfl) ?_
  refine zx_tern (pcJ := 169) (lsJ := fun x17 => [.ref 57, .int f1, .int f2, .int f3, .int w4, .int w5, .int t0, .null, .null, .null]) (stJ := fun x17 => [.int x17, .int (zga s 82 w5)]) (fun x17 => ?_) (fun f hJ => ?_)
  rotate_left
  · refine zx_lif_eq (pc' := 164) (tgt := 168) dX12_findSessions_161 rfl rfl (fun _ => ?_) (fun _ => ?_)
    · refine zx_lift (pc' := 169) (fun _ => zq_iconst (v := 1) dX12_findSessions_168 rfl rfl) ?_
      exact zx_lessJ (zq_cr (zq_cr (zq_cr (zq_cr (zq_cr (zq_cr (zq_cr (zq_cz (zq_cz (zq_cz zq_cn)))))))))) (hJ _)
    · refine zx_lift (pc' := 165) (fun _ => zq_iconst (v := 0) dX12_findSessions_164 rfl rfl) ?_
      refine zx_lift (pc' := 169) (fun _ => zq_goto dX12_findSessions_165 rfl) ?_
      exact zx_lessJ (zq_cr (zq_cr (zq_cr (zq_cr (zq_cr (zq_cr (zq_cr (zq_cz (zq_cz (zq_cz zq_cn)))))))))) (hJ _)
  refine zx_lift (pc' := 170) (fun _ => zq_iadd dX12_findSessions_169 rfl) ?_
  refine zx_istore (pc' := 172) (ls' := fun x18 => [.ref 57, .int f1, .int f2, .int f3, .int w4, .int w5, .int t0, .int x18, .null, .null]) (by decide) rfl (fun _ => rfl) dX12_findSessions_170 rfl (fun x18 => ?_)
  refine zx_lift (pc' := 173) (fun _ => zq_aload_n rfl rfl dX12_findSessions_172 rfl) ?_
  refine zx_lift (pc' := 176) (fun _ => zt_getR zfr_X12_91 zfd_57_43 dX12_findSessions_173 rfl) ?_
  refine zx_lift (pc' := 178) (fun _ => zq_iload rfl dX12_findSessions_176 rfl) ?_
  refine zx_iaload (pc' := 179) zsh_83 dX12_findSessions_178 rfl ?_
  refine zx_lift (pc' := 181) (fun _ => zq_iload rfl dX12_findSessions_179 rfl) ?_
  refine zx_if_ne (pc' := 184) (tgt := 188) dX12_findSessions_181 rfl rfl (fun hc => ?_) (fun hc => ?_)
  · refine zx_less [.ref 57, .int f1, .int f2, .int f3, .int w4, .null, .null, .int x18, .null, .null] (zq_cr (zq_cr (zq_cr (zq_cr (zq_cr (zq_cz (zq_cz (zq_cr (zq_cz (zq_cz zq_cn)))))))))) ?_
    exact xX12_findSessions_j188_j N f1 f2 f3 k290 hk290 self hself w4 x18 (zga s 83 w5) s
  · refine zx_lift (pc' := 185) (fun _ => zq_iload_n rfl rfl dX12_findSessions_184 rfl) ?_
    refine zx_if_ne (pc' := 188) (tgt := 192) dX12_findSessions_185 rfl rfl (fun hc => ?_) (fun hc => ?_)
    · refine zx_lift (pc' := 193) (fun _ => zq_aload_n rfl rfl dX12_findSessions_192 rfl) ?_
      refine zx_lift (pc' := 194) (fun _ => zq_iload_n rfl rfl dX12_findSessions_193 rfl) ?_
      refine zx_cVi (pc' := 197) zcv_X12_319 (cX12_breaksOf_mc N f1 s) zob_57 rfl (by decide) (Nat.le_of_ble_eq_true rfl) dX12_findSessions_194 rfl rfl (fun r22 s23 => ?_)
      refine zx_less [.ref 57, .int f1, .int f2, .int f3, .int w4, .null, .null, .int x18, .null, .null] (zq_cr (zq_cr (zq_cr (zq_cr (zq_cr (zq_cz (zq_cz (zq_cr (zq_cz (zq_cz zq_cn)))))))))) ?_
      exact xX12_findSessions_j197_j N f1 f2 f3 k290 hk290 self hself w4 x18 r22 (zga s 83 w5) s23
    · refine zx_less [.ref 57, .int f1, .int f2, .int f3, .int w4, .null, .null, .int x18, .null, .null] (zq_cr (zq_cr (zq_cr (zq_cr (zq_cr (zq_cz (zq_cz (zq_cr (zq_cz (zq_cz zq_cn)))))))))) ?_
      exact xX12_findSessions_j188_j N f1 f2 f3 k290 hk290 self hself w4 x18 (zga s 83 w5) s
def jX12_findSessions_j149 (N : Nat)  (f1 : Int32) (f2 : Int32) (f3 : Int32) (k290 : zq_S → Option (Unit × zq_S)) (self : Int32 × zq_S → Option (Unit × zq_S)) (w4 : Int32) (w5 : Int32) (s : zq_S) : Option (Unit × zq_S) :=
  jX12_findSessions_j150 N f1 f2 f3 k290 self w4 w5 (0 : Int32) s
set_option maxRecDepth 20000 in
set_option maxHeartbeats 2000000 in
theorem xX12_findSessions_j149_j (N : Nat)  (f1 : Int32) (f2 : Int32) (f3 : Int32) (k290 : zq_S → Option (Unit × zq_S)) (hk290 : ∀ e, zq_X yX12_findSessions RX12 cX12_findSessions 10 none ⟨5, 0, 0, 114⟩ zv_v 290 [.ref 57, .int f1, .int f2, .null, .null, .null, .null, .null, .null, .null] [] e (k290 e)) (self : Int32 × zq_S → Option (Unit × zq_S)) (hself : ∀ v, zq_X yX12_findSessions RX12 cX12_findSessions 10 none ⟨5, 0, 0, 114⟩ zv_v 80 [.ref 57, .int f1, .int f2, .int f3, .int v.1, .null, .null, .null, .null, .null] [] v.2 (self v)) (w4 : Int32) (w5 : Int32) (s : zq_S) : zq_X yX12_findSessions RX12 cX12_findSessions 10 none ⟨5, 0, 0, 114⟩ zv_v 149 [.ref 57, .int f1, .int f2, .int f3, .int w4, .int w5, .null, .null, .null, .null] [] s (jX12_findSessions_j149 N f1 f2 f3 k290 self w4 w5 s) := by
  unfold jX12_findSessions_j149
  refine zx_lift (pc' := 150) (fun _ => zq_iconst (v := 0) dX12_findSessions_149 rfl rfl) ?_
  exact xX12_findSessions_j150_j N f1 f2 f3 k290 hk290 self hself w4 w5 (0 : Int32) s
def bX12_findSessions_80 (N : Nat)  (f1 : Int32) (f2 : Int32) (f3 : Int32) (k290 : zq_S → Option (Unit × zq_S)) (self : Int32 × zq_S → Option (Unit × zq_S)) (v : Int32 × zq_S) : Option (Unit × zq_S) :=
  if (zgf v.2 57 6) ≤ v.1 then
  k290 v.2
  else
  zq_ck f1 1024 (
  if (zga v.2 78 f1) = (0 : Int32) then
  k290 v.2
  else
  zq_ck f1 1024 (
  zq_b2 (mX12_has N (zga v.2 79 f1) v.1 v.2) (fun r13 s14 =>
  if r13 = (0 : Int32) then
  jX12_findSessions_j284 N f1 f2 f3 k290 self v.1 s14
  else
  zq_ck v.1 10 (
  zq_let (((4 : Int32) * (f1 ||| ((1 : Int32) <<< (v.1 &&& 31)))) + (zga s14 63 v.1)) (fun x16 =>
  if f1 ≤ (0 : Int32) then
  jX12_findSessions_j149 N f1 f2 f3 k290 self v.1 x16 s14
  else
  zq_ck v.1 10 (
  if (zga s14 63 v.1) = f2 then
  jX12_findSessions_j150 N f1 f2 f3 k290 self v.1 x16 (1 : Int32) s14
  else
  jX12_findSessions_j149 N f1 f2 f3 k290 self v.1 x16 s14))))))
set_option maxRecDepth 20000 in
set_option maxHeartbeats 2000000 in
theorem xX12_findSessions_80 (N : Nat)  (f1 : Int32) (f2 : Int32) (f3 : Int32) (k290 : zq_S → Option (Unit × zq_S)) (hk290 : ∀ e, zq_X yX12_findSessions RX12 cX12_findSessions 10 none ⟨5, 0, 0, 114⟩ zv_v 290 [.ref 57, .int f1, .int f2, .null, .null, .null, .null, .null, .null, .null] [] e (k290 e)) (self : Int32 × zq_S → Option (Unit × zq_S)) (hself : ∀ v, zq_X yX12_findSessions RX12 cX12_findSessions 10 none ⟨5, 0, 0, 114⟩ zv_v 80 [.ref 57, .int f1, .int f2, .int f3, .int v.1, .null, .null, .null, .null, .null] [] v.2 (self v)) (v : Int32 × zq_S) : zq_X yX12_findSessions RX12 cX12_findSessions 10 none ⟨5, 0, 0, 114⟩ zv_v 80 [.ref 57, .int f1, .int f2, .int f3, .int v.1, .null, .null, .null, .null, .null] [] v.2 (bX12_findSessions_80 N f1 f2 f3 k290 self v) := by
  unfold bX12_findSessions_80
  refine zx_lift (pc' := 82) (fun _ => zq_iload rfl dX12_findSessions_80 rfl) ?_
  refine zx_lift (pc' := 83) (fun _ => zq_aload_n rfl rfl dX12_findSessions_82 rfl) ?_
  refine zx_lift (pc' := 86) (fun _ => zt_getI zfr_X12_141 zfd_57_6 dX12_findSessions_83 rfl) ?_
  refine zx_icmp_ge (pc' := 89) (tgt := 290) dX12_findSessions_86 rfl rfl (fun hc => ?_) (fun hc => ?_)
  · refine zx_less [.ref 57, .int f1, .int f2, .null, .null, .null, .null, .null, .null, .null] (zq_cr (zq_cr (zq_cr (zq_cz (zq_cz (zq_cz (zq_cz (zq_cz (zq_cz (zq_cz zq_cn)))))))))) ?_
    exact hk290 v.2
  · refine zx_lift (pc' := 90) (fun _ => zq_aload_n rfl rfl dX12_findSessions_89 rfl) ?_
    refine zx_lift (pc' := 93) (fun _ => zt_getR zfr_X12_75 zfd_57_38 dX12_findSessions_90 rfl) ?_
    refine zx_lift (pc' := 94) (fun _ => zq_iload_n rfl rfl dX12_findSessions_93 rfl) ?_
    refine zx_zaload (pc' := 95) zsh_78 dX12_findSessions_94 rfl ?_
    refine zx_if_eq (pc' := 98) (tgt := 290) dX12_findSessions_95 rfl rfl (fun hc => ?_) (fun hc => ?_)
    · refine zx_less [.ref 57, .int f1, .int f2, .null, .null, .null, .null, .null, .null, .null] (zq_cr (zq_cr (zq_cr (zq_cz (zq_cz (zq_cz (zq_cz (zq_cz (zq_cz (zq_cz zq_cn)))))))))) ?_
      exact hk290 v.2
    · refine zx_lift (pc' := 99) (fun _ => zq_aload_n rfl rfl dX12_findSessions_98 rfl) ?_
      refine zx_lift (pc' := 102) (fun _ => zt_getR zfr_X12_78 zfd_57_39 dX12_findSessions_99 rfl) ?_
      refine zx_lift (pc' := 103) (fun _ => zq_iload_n rfl rfl dX12_findSessions_102 rfl) ?_
      refine zx_iaload (pc' := 104) zsh_79 dX12_findSessions_103 rfl ?_
      refine zx_lift (pc' := 106) (fun _ => zq_iload rfl dX12_findSessions_104 rfl) ?_
      refine zx_cSi (pc' := 109) zcs_X12_189 (cX12_has_mc N (zga v.2 79 f1) v.1 v.2) rfl (by decide) (Nat.le_of_ble_eq_true rfl) dX12_findSessions_106 rfl rfl (fun r13 s14 => ?_)
      refine zx_if_eq (pc' := 112) (tgt := 284) dX12_findSessions_109 rfl rfl (fun hc => ?_) (fun hc => ?_)
      · exact xX12_findSessions_j284_j N f1 f2 f3 k290 hk290 self hself v.1 s14
      · refine zx_lift (pc' := 113) (fun _ => zq_iconst (v := 4) dX12_findSessions_112 rfl rfl) ?_
        refine zx_lift (pc' := 114) (fun _ => zq_iload_n rfl rfl dX12_findSessions_113 rfl) ?_
        refine zx_lift (pc' := 115) (fun _ => zq_iconst (v := 1) dX12_findSessions_114 rfl rfl) ?_
        refine zx_lift (pc' := 117) (fun _ => zq_iload rfl dX12_findSessions_115 rfl) ?_
        refine zx_lift (pc' := 118) (fun _ => zq_ishl dX12_findSessions_117 rfl) ?_
        refine zx_lift (pc' := 119) (fun _ => zq_ior dX12_findSessions_118 rfl) ?_
        refine zx_lift (pc' := 120) (fun _ => zq_imul dX12_findSessions_119 rfl) ?_
        refine zx_lift (pc' := 121) (fun _ => zq_aload_n rfl rfl dX12_findSessions_120 rfl) ?_
        refine zx_lift (pc' := 124) (fun _ => zt_getR zfr_X12_25 zfd_57_8 dX12_findSessions_121 rfl) ?_
        refine zx_lift (pc' := 126) (fun _ => zq_iload rfl dX12_findSessions_124 rfl) ?_
        refine zx_iaload (pc' := 127) zsh_63 dX12_findSessions_126 rfl ?_
        refine zx_lift (pc' := 128) (fun _ => zq_iadd dX12_findSessions_127 rfl) ?_
        refine zx_istore (pc' := 130) (ls' := fun x16 => [.ref 57, .int f1, .int f2, .int f3, .int v.1, .int x16, .null, .null, .null, .null]) (by decide) rfl (fun _ => rfl) dX12_findSessions_128 rfl (fun x16 => ?_)
        refine zx_lift (pc' := 131) (fun _ => zq_iload_n rfl rfl dX12_findSessions_130 rfl) ?_
        refine zx_if_le (pc' := 134) (tgt := 149) dX12_findSessions_131 rfl rfl (fun hc => ?_) (fun hc => ?_)
        · exact xX12_findSessions_j149_j N f1 f2 f3 k290 hk290 self hself v.1 x16 s14
        · refine zx_lift (pc' := 135) (fun _ => zq_aload_n rfl rfl dX12_findSessions_134 rfl) ?_
          refine zx_lift (pc' := 138) (fun _ => zt_getR zfr_X12_25 zfd_57_8 dX12_findSessions_135 rfl) ?_
          refine zx_lift (pc' := 140) (fun _ => zq_iload rfl dX12_findSessions_138 rfl) ?_
          refine zx_iaload (pc' := 141) zsh_63 dX12_findSessions_140 rfl ?_
          refine zx_lift (pc' := 142) (fun _ => zq_iload_n rfl rfl dX12_findSessions_141 rfl) ?_
          refine zx_icmp_ne (pc' := 145) (tgt := 149) dX12_findSessions_142 rfl rfl (fun hc => ?_) (fun hc => ?_)
          · exact xX12_findSessions_j149_j N f1 f2 f3 k290 hk290 self hself v.1 x16 s14
          · refine zx_lift (pc' := 146) (fun _ => zq_iconst (v := 1) dX12_findSessions_145 rfl rfl) ?_
            refine zx_lift (pc' := 150) (fun _ => zq_goto dX12_findSessions_146 rfl) ?_
            exact xX12_findSessions_j150_j N f1 f2 f3 k290 hk290 self hself v.1 x16 (1 : Int32) s14
theorem yX12_findSessions_80 (N : Nat)  (f1 : Int32) (f2 : Int32) (f3 : Int32) (k290 : zq_S → Option (Unit × zq_S)) (hk290 : ∀ e, zq_X yX12_findSessions RX12 cX12_findSessions 10 none ⟨5, 0, 0, 114⟩ zv_v 290 [.ref 57, .int f1, .int f2, .null, .null, .null, .null, .null, .null, .null] [] e (k290 e)) (n : Nat) : ∀ v : Int32 × zq_S, zq_X yX12_findSessions RX12 cX12_findSessions 10 none ⟨5, 0, 0, 114⟩ zv_v 80 [.ref 57, .int f1, .int f2, .int f3, .int v.1, .null, .null, .null, .null, .null] [] v.2 (zq_loop (bX12_findSessions_80 N f1 f2 f3 k290) n v) := by
  induction n with
  | zero => exact fun v u hu => by cases hu
  | succ n ih =>
    intro v
    rw [zq_loop_s]
    exact xX12_findSessions_80 N f1 f2 f3 k290 hk290 (zq_loop (bX12_findSessions_80 N f1 f2 f3 k290) n) ih v
def jX12_findSessions_j290 (N : Nat)  (f1 : Int32) (k296 : zq_S → Option (Unit × zq_S)) (self : Int32 × zq_S → Option (Unit × zq_S)) (w2 : Int32) (s : zq_S) : Option (Unit × zq_S) :=
  zq_let (w2 + (1 : Int32)) (fun x25 =>
  self (x25, s))
set_option maxRecDepth 20000 in
set_option maxHeartbeats 2000000 in
theorem xX12_findSessions_j290_j (N : Nat)  (f1 : Int32) (k296 : zq_S → Option (Unit × zq_S)) (hk296 : ∀ e, zq_X yX12_findSessions RX12 cX12_findSessions 10 none ⟨5, 0, 0, 114⟩ zv_v 296 [.ref 57, .int f1, .null, .null, .null, .null, .null, .null, .null, .null] [] e (k296 e)) (self : Int32 × zq_S → Option (Unit × zq_S)) (hself : ∀ v, zq_X yX12_findSessions RX12 cX12_findSessions 10 none ⟨5, 0, 0, 114⟩ zv_v 15 [.ref 57, .int f1, .int v.1, .null, .null, .null, .null, .null, .null, .null] [] v.2 (self v)) (w2 : Int32) (s : zq_S) : zq_X yX12_findSessions RX12 cX12_findSessions 10 none ⟨5, 0, 0, 114⟩ zv_v 290 [.ref 57, .int f1, .int w2, .null, .null, .null, .null, .null, .null, .null] [] s (jX12_findSessions_j290 N f1 k296 self w2 s) := by
  unfold jX12_findSessions_j290
  refine zx_iinc (pc' := 293) (ls' := fun x25 => [.ref 57, .int f1, .int x25, .null, .null, .null, .null, .null, .null, .null]) rfl rfl (by decide) rfl (fun _ => rfl) dX12_findSessions_290 rfl (fun x25 => ?_)
  refine zx_lift (pc' := 15) (fun _ => zq_goto dX12_findSessions_293 rfl) ?_
  exact hself (x25, s)
def jX12_findSessions_j76 (N : Nat)  (f1 : Int32) (k296 : zq_S → Option (Unit × zq_S)) (self : Int32 × zq_S → Option (Unit × zq_S)) (w2 : Int32) (w3 : Int32) (t0 : Int32) (t1 : Int32) (s : zq_S) : Option (Unit × zq_S) :=
  zq_ck t1 4096 (
  zq_let (zpa s 83 t1 t0) (fun s12 =>
  zq_loop (bX12_findSessions_80 N f1 w2 w3 (fun e24 =>
  jX12_findSessions_j290 N f1 k296 self w2 e24)) N ((0 : Int32), s12)))
set_option maxRecDepth 20000 in
set_option maxHeartbeats 2000000 in
theorem xX12_findSessions_j76_j (N : Nat)  (f1 : Int32) (k296 : zq_S → Option (Unit × zq_S)) (hk296 : ∀ e, zq_X yX12_findSessions RX12 cX12_findSessions 10 none ⟨5, 0, 0, 114⟩ zv_v 296 [.ref 57, .int f1, .null, .null, .null, .null, .null, .null, .null, .null] [] e (k296 e)) (self : Int32 × zq_S → Option (Unit × zq_S)) (hself : ∀ v, zq_X yX12_findSessions RX12 cX12_findSessions 10 none ⟨5, 0, 0, 114⟩ zv_v 15 [.ref 57, .int f1, .int v.1, .null, .null, .null, .null, .null, .null, .null] [] v.2 (self v)) (w2 : Int32) (w3 : Int32) (t0 : Int32) (t1 : Int32) (s : zq_S) : zq_X yX12_findSessions RX12 cX12_findSessions 10 none ⟨5, 0, 0, 114⟩ zv_v 76 [.ref 57, .int f1, .int w2, .int w3, .null, .null, .null, .null, .null, .null] [.int t0, .int t1, .ref 83] s (jX12_findSessions_j76 N f1 k296 self w2 w3 t0 t1 s) := by
  unfold jX12_findSessions_j76
  refine zx_iastore (pc' := 77) zsh_83 dX12_findSessions_76 rfl (fun s12 => ?_)
  refine zx_lift (pc' := 78) (fun _ => zq_iconst (v := 0) dX12_findSessions_77 rfl rfl) ?_
  refine zx_lift (pc' := 80) (fun _ => zq_istore (ls' := [.ref 57, .int f1, .int w2, .int w3, .int (0 : Int32), .null, .null, .null, .null, .null]) (by decide) rfl rfl dX12_findSessions_78 rfl) ?_
  refine yX12_findSessions_80 N f1 w2 w3 _ (fun e24 => ?_) N ((0 : Int32), s12)
  exact xX12_findSessions_j290_j N f1 k296 hk296 self hself w2 e24
def jX12_findSessions_j75 (N : Nat)  (f1 : Int32) (k296 : zq_S → Option (Unit × zq_S)) (self : Int32 × zq_S → Option (Unit × zq_S)) (w2 : Int32) (w3 : Int32) (t0 : Int32) (s : zq_S) : Option (Unit × zq_S) :=
  jX12_findSessions_j76 N f1 k296 self w2 w3 (0 : Int32) t0 s
set_option maxRecDepth 20000 in
set_option maxHeartbeats 2000000 in
theorem xX12_findSessions_j75_j (N : Nat)  (f1 : Int32) (k296 : zq_S → Option (Unit × zq_S)) (hk296 : ∀ e, zq_X yX12_findSessions RX12 cX12_findSessions 10 none ⟨5, 0, 0, 114⟩ zv_v 296 [.ref 57, .int f1, .null, .null, .null, .null, .null, .null, .null, .null] [] e (k296 e)) (self : Int32 × zq_S → Option (Unit × zq_S)) (hself : ∀ v, zq_X yX12_findSessions RX12 cX12_findSessions 10 none ⟨5, 0, 0, 114⟩ zv_v 15 [.ref 57, .int f1, .int v.1, .null, .null, .null, .null, .null, .null, .null] [] v.2 (self v)) (w2 : Int32) (w3 : Int32) (t0 : Int32) (s : zq_S) : zq_X yX12_findSessions RX12 cX12_findSessions 10 none ⟨5, 0, 0, 114⟩ zv_v 75 [.ref 57, .int f1, .int w2, .int w3, .null, .null, .null, .null, .null, .null] [.int t0, .ref 83] s (jX12_findSessions_j75 N f1 k296 self w2 w3 t0 s) := by
  unfold jX12_findSessions_j75
  refine zx_lift (pc' := 76) (fun _ => zq_iconst (v := 0) dX12_findSessions_75 rfl rfl) ?_
  exact xX12_findSessions_j76_j N f1 k296 hk296 self hself w2 w3 (0 : Int32) t0 s
def bX12_findSessions_15 (N : Nat)  (f1 : Int32) (k296 : zq_S → Option (Unit × zq_S)) (self : Int32 × zq_S → Option (Unit × zq_S)) (v : Int32 × zq_S) : Option (Unit × zq_S) :=
  if (4 : Int32) ≤ v.1 then
  k296 v.2
  else
  zq_let (((4 : Int32) * f1) + v.1) (fun x5 =>
  zq_b2 (mX12_all N v.2) (fun r6 s7 =>
  zq_let (if f1 = r6 then (0 : Int32) else (1000000 : Int32)) (fun x8 =>
  zq_ck x5 4096 (
  zq_let (zpa s7 82 x5 x8) (fun s9 =>
  zq_b2 (mX12_all N s9) (fun r10 s11 =>
  if f1 = r10 then
  if (zgf s11 57 6) ≤ (0 : Int32) then
  jX12_findSessions_j75 N f1 k296 self v.1 x5 x5 s11
  else
  zq_b2 (mX12_breaksOf N f1 s11) (fun r26 s27 =>
  jX12_findSessions_j76 N f1 k296 self v.1 x5 r26 x5 s27)
  else
  jX12_findSessions_j75 N f1 k296 self v.1 x5 x5 s11))))))
set_option maxRecDepth 20000 in
set_option maxHeartbeats 2000000 in
theorem xX12_findSessions_15 (N : Nat)  (f1 : Int32) (k296 : zq_S → Option (Unit × zq_S)) (hk296 : ∀ e, zq_X yX12_findSessions RX12 cX12_findSessions 10 none ⟨5, 0, 0, 114⟩ zv_v 296 [.ref 57, .int f1, .null, .null, .null, .null, .null, .null, .null, .null] [] e (k296 e)) (self : Int32 × zq_S → Option (Unit × zq_S)) (hself : ∀ v, zq_X yX12_findSessions RX12 cX12_findSessions 10 none ⟨5, 0, 0, 114⟩ zv_v 15 [.ref 57, .int f1, .int v.1, .null, .null, .null, .null, .null, .null, .null] [] v.2 (self v)) (v : Int32 × zq_S) : zq_X yX12_findSessions RX12 cX12_findSessions 10 none ⟨5, 0, 0, 114⟩ zv_v 15 [.ref 57, .int f1, .int v.1, .null, .null, .null, .null, .null, .null, .null] [] v.2 (bX12_findSessions_15 N f1 k296 self v) := by
  unfold bX12_findSessions_15
  refine zx_lift (pc' := 16) (fun _ => zq_iload_n rfl rfl dX12_findSessions_15 rfl) ?_
  refine zx_lift (pc' := 17) (fun _ => zq_iconst (v := 4) dX12_findSessions_16 rfl rfl) ?_
  refine zx_icmp_ge (pc' := 20) (tgt := 296) dX12_findSessions_17 rfl rfl (fun hc => ?_) (fun hc => ?_)
  · refine zx_less [.ref 57, .int f1, .null, .null, .null, .null, .null, .null, .null, .null] (zq_cr (zq_cr (zq_cz (zq_cz (zq_cz (zq_cz (zq_cz (zq_cz (zq_cz (zq_cz zq_cn)))))))))) ?_
    exact hk296 v.2
  · refine zx_lift (pc' := 21) (fun _ => zq_iconst (v := 4) dX12_findSessions_20 rfl rfl) ?_
    refine zx_lift (pc' := 22) (fun _ => zq_iload_n rfl rfl dX12_findSessions_21 rfl) ?_
    refine zx_lift (pc' := 23) (fun _ => zq_imul dX12_findSessions_22 rfl) ?_
    refine zx_lift (pc' := 24) (fun _ => zq_iload_n rfl rfl dX12_findSessions_23 rfl) ?_
    refine zx_lift (pc' := 25) (fun _ => zq_iadd dX12_findSessions_24 rfl) ?_
    refine zx_istore_n (pc' := 26) (ls' := fun x5 => [.ref 57, .int f1, .int v.1, .int x5, .null, .null, .null, .null, .null, .null]) rfl (by decide) rfl (fun _ => rfl) dX12_findSessions_25 rfl (fun x5 => ?_)
    refine zx_lift (pc' := 27) (fun _ => zq_aload_n rfl rfl dX12_findSessions_26 rfl) ?_
    refine zx_lift (pc' := 30) (fun _ => zt_getR zfr_X12_88 zfd_57_42 dX12_findSessions_27 rfl) ?_
    refine zx_lift (pc' := 31) (fun _ => zq_iload_n rfl rfl dX12_findSessions_30 rfl) ?_
    refine zx_lift (pc' := 32) (fun _ => zq_iload_n rfl rfl dX12_findSessions_31 rfl) ?_
    refine zx_lift (pc' := 33) (fun _ => zq_aload_n rfl rfl dX12_findSessions_32 rfl) ?_
    refine zx_cVi (pc' := 36) zcv_X12_148 (cX12_all_mc N v.2) zob_57 rfl (by decide) (Nat.le_of_ble_eq_true rfl) dX12_findSessions_33 rfl rfl (fun r6 s7 => ?_)
    refine zx_tern (pcJ := 46) (lsJ := fun x8 => [.ref 57, .int f1, .int v.1, .int x5, .null, .null, .null, .null, .null, .null]) (stJ := fun x8 => [.int x8, .int x5, .ref 82]) (fun x8 => ?_) (fun f hJ => ?_)
    rotate_left
    · refine zx_licmp_ne (pc' := 39) (tgt := 43) dX12_findSessions_36 rfl rfl (fun _ => ?_) (fun _ => ?_)
      · refine zx_lift (pc' := 46) (fun _ => zq_ldcw zk_X12_318 dX12_findSessions_43 rfl) ?_
        exact zx_lessJ (zq_cr (zq_cr (zq_cr (zq_cr (zq_cz (zq_cz (zq_cz (zq_cz (zq_cz (zq_cz zq_cn)))))))))) (hJ _)
      · refine zx_lift (pc' := 40) (fun _ => zq_iconst (v := 0) dX12_findSessions_39 rfl rfl) ?_
        refine zx_lift (pc' := 46) (fun _ => zq_goto dX12_findSessions_40 rfl) ?_
        exact zx_lessJ (zq_cr (zq_cr (zq_cr (zq_cr (zq_cz (zq_cz (zq_cz (zq_cz (zq_cz (zq_cz zq_cn)))))))))) (hJ _)
    refine zx_iastore (pc' := 47) zsh_82 dX12_findSessions_46 rfl (fun s9 => ?_)
    refine zx_lift (pc' := 48) (fun _ => zq_aload_n rfl rfl dX12_findSessions_47 rfl) ?_
    refine zx_lift (pc' := 51) (fun _ => zt_getR zfr_X12_91 zfd_57_43 dX12_findSessions_48 rfl) ?_
    refine zx_lift (pc' := 52) (fun _ => zq_iload_n rfl rfl dX12_findSessions_51 rfl) ?_
    refine zx_lift (pc' := 53) (fun _ => zq_iload_n rfl rfl dX12_findSessions_52 rfl) ?_
    refine zx_lift (pc' := 54) (fun _ => zq_aload_n rfl rfl dX12_findSessions_53 rfl) ?_
    refine zx_cVi (pc' := 57) zcv_X12_148 (cX12_all_mc N s9) zob_57 rfl (by decide) (Nat.le_of_ble_eq_true rfl) dX12_findSessions_54 rfl rfl (fun r10 s11 => ?_)
    refine zx_icmp_ne (pc' := 60) (tgt := 75) dX12_findSessions_57 rfl rfl (fun hc => ?_) (fun hc => ?_)
    · exact xX12_findSessions_j75_j N f1 k296 hk296 self hself v.1 x5 x5 s11
    · refine zx_lift (pc' := 61) (fun _ => zq_aload_n rfl rfl dX12_findSessions_60 rfl) ?_
      refine zx_lift (pc' := 64) (fun _ => zt_getI zfr_X12_141 zfd_57_6 dX12_findSessions_61 rfl) ?_
      refine zx_if_le (pc' := 67) (tgt := 75) dX12_findSessions_64 rfl rfl (fun hc => ?_) (fun hc => ?_)
      · exact xX12_findSessions_j75_j N f1 k296 hk296 self hself v.1 x5 x5 s11
      · refine zx_lift (pc' := 68) (fun _ => zq_aload_n rfl rfl dX12_findSessions_67 rfl) ?_
        refine zx_lift (pc' := 69) (fun _ => zq_iload_n rfl rfl dX12_findSessions_68 rfl) ?_
        refine zx_cVi (pc' := 72) zcv_X12_319 (cX12_breaksOf_mc N f1 s11) zob_57 rfl (by decide) (Nat.le_of_ble_eq_true rfl) dX12_findSessions_69 rfl rfl (fun r26 s27 => ?_)
        refine zx_lift (pc' := 76) (fun _ => zq_goto dX12_findSessions_72 rfl) ?_
        exact xX12_findSessions_j76_j N f1 k296 hk296 self hself v.1 x5 r26 x5 s27
theorem yX12_findSessions_15 (N : Nat)  (f1 : Int32) (k296 : zq_S → Option (Unit × zq_S)) (hk296 : ∀ e, zq_X yX12_findSessions RX12 cX12_findSessions 10 none ⟨5, 0, 0, 114⟩ zv_v 296 [.ref 57, .int f1, .null, .null, .null, .null, .null, .null, .null, .null] [] e (k296 e)) (n : Nat) : ∀ v : Int32 × zq_S, zq_X yX12_findSessions RX12 cX12_findSessions 10 none ⟨5, 0, 0, 114⟩ zv_v 15 [.ref 57, .int f1, .int v.1, .null, .null, .null, .null, .null, .null, .null] [] v.2 (zq_loop (bX12_findSessions_15 N f1 k296) n v) := by
  induction n with
  | zero => exact fun v u hu => by cases hu
  | succ n ih =>
    intro v
    rw [zq_loop_s]
    exact xX12_findSessions_15 N f1 k296 hk296 (zq_loop (bX12_findSessions_15 N f1 k296) n) ih v
def bX12_findSessions_9 (N : Nat)    (self : Int32 × zq_S → Option (Unit × zq_S)) (v : Int32 × zq_S) : Option (Unit × zq_S) :=
  if v.1 < (0 : Int32) then
  some ((), v.2)
  else
  zq_loop (bX12_findSessions_15 N v.1 (fun e28 =>
  zq_let (v.1 + (-1 : Int32)) (fun x29 =>
  self (x29, e28)))) N ((0 : Int32), v.2)
set_option maxRecDepth 20000 in
set_option maxHeartbeats 2000000 in
theorem xX12_findSessions_9 (N : Nat)    (self : Int32 × zq_S → Option (Unit × zq_S)) (hself : ∀ v, zq_X yX12_findSessions RX12 cX12_findSessions 10 none ⟨5, 0, 0, 114⟩ zv_v 9 [.ref 57, .int v.1, .null, .null, .null, .null, .null, .null, .null, .null] [] v.2 (self v)) (v : Int32 × zq_S) : zq_X yX12_findSessions RX12 cX12_findSessions 10 none ⟨5, 0, 0, 114⟩ zv_v 9 [.ref 57, .int v.1, .null, .null, .null, .null, .null, .null, .null, .null] [] v.2 (bX12_findSessions_9 N self v) := by
  unfold bX12_findSessions_9
  refine zx_lift (pc' := 10) (fun _ => zq_iload_n rfl rfl dX12_findSessions_9 rfl) ?_
  refine zx_if_lt (pc' := 13) (tgt := 302) dX12_findSessions_10 rfl rfl (fun hc => ?_) (fun hc => ?_)
  · exact zx_vret rfl dX12_findSessions_302
  · refine zx_lift (pc' := 14) (fun _ => zq_iconst (v := 0) dX12_findSessions_13 rfl rfl) ?_
    refine zx_lift (pc' := 15) (fun _ => zq_istore_n (ls' := [.ref 57, .int v.1, .int (0 : Int32), .null, .null, .null, .null, .null, .null, .null]) rfl (by decide) rfl rfl dX12_findSessions_14 rfl) ?_
    refine yX12_findSessions_15 N v.1 _ (fun e28 => ?_) N ((0 : Int32), v.2)
    refine zx_iinc (pc' := 299) (ls' := fun x29 => [.ref 57, .int x29, .null, .null, .null, .null, .null, .null, .null, .null]) rfl rfl (by decide) rfl (fun _ => rfl) dX12_findSessions_296 rfl (fun x29 => ?_)
    refine zx_lift (pc' := 9) (fun _ => zq_goto dX12_findSessions_299 rfl) ?_
    exact hself (x29, e28)
theorem yX12_findSessions_9 (N : Nat)    (n : Nat) : ∀ v : Int32 × zq_S, zq_X yX12_findSessions RX12 cX12_findSessions 10 none ⟨5, 0, 0, 114⟩ zv_v 9 [.ref 57, .int v.1, .null, .null, .null, .null, .null, .null, .null, .null] [] v.2 (zq_loop (bX12_findSessions_9 N ) n v) := by
  induction n with
  | zero => exact fun v u hu => by cases hu
  | succ n ih =>
    intro v
    rw [zq_loop_s]
    exact xX12_findSessions_9 N  (zq_loop (bX12_findSessions_9 N ) n) ih v
def mX12_findSessions (N : Nat)   (s : zq_S) : Option (Unit × zq_S) :=
  zq_b2 (mX12_find N s) (fun r1 s2 =>
  zq_b2 (mX12_all N s2) (fun r3 s4 =>
  zq_loop (bX12_findSessions_9 N ) N (r3, s4)))
set_option maxRecDepth 20000 in
set_option maxHeartbeats 2000000 in
theorem xX12_findSessions (N : Nat)   (s : zq_S) : zq_X yX12_findSessions RX12 cX12_findSessions 10 none ⟨5, 0, 0, 114⟩ zv_v 0 [.ref 57, .null, .null, .null, .null, .null, .null, .null, .null, .null] [] s (mX12_findSessions N s) := by
  unfold mX12_findSessions
  refine zx_lift (pc' := 1) (fun _ => zq_aload_n rfl rfl dX12_findSessions_0 rfl) ?_
  refine zx_cVv (pc' := 4) zcv_X12_307 (cX12_find_mc N s) zob_57 rfl (by decide) (Nat.le_of_ble_eq_true rfl) dX12_findSessions_1 rfl rfl (fun r1 s2 => ?_)
  refine zx_lift (pc' := 5) (fun _ => zq_aload_n rfl rfl dX12_findSessions_4 rfl) ?_
  refine zx_cVi (pc' := 8) zcv_X12_148 (cX12_all_mc N s2) zob_57 rfl (by decide) (Nat.le_of_ble_eq_true rfl) dX12_findSessions_5 rfl rfl (fun r3 s4 => ?_)
  refine zx_lift (pc' := 9) (fun _ => zq_istore_n (ls' := [.ref 57, .int r3, .null, .null, .null, .null, .null, .null, .null, .null]) rfl (by decide) rfl rfl dX12_findSessions_8 rfl) ?_
  refine yX12_findSessions_9 N  N (r3, s4)
theorem cX12_findSessions_mc (N : Nat)   (s : zq_S) (v : Unit × zq_S) (h : mX12_findSessions N s = some v) : zq_MC yX12_findSessions cX12_findSessions 10 none ⟨5, 0, 0, 114⟩ 0 0 [.ref 57] (zq_en s) (zv_v v.1, zq_en v.2) := zq_MC_x [.ref 57, .null, .null, .null, .null, .null, .null, .null, .null, .null] (by decide +kernel) rfl rfl (Nat.le_of_ble_eq_true rfl) (xX12_findSessions N s) h
def jX12_fewest_j21 (N : Nat)   (t0 : Int32) (s : zq_S) : Option (Int32 × zq_S) :=
  some (t0, s)
set_option maxRecDepth 20000 in
set_option maxHeartbeats 2000000 in
theorem xX12_fewest_j21_j (N : Nat)   (t0 : Int32) (s : zq_S) : zq_X yX12_fewest RX12 cX12_fewest 1 (some .int) ⟨6, 0, 0, 143⟩ zv_i 21 [.null] [.int t0] s (jX12_fewest_j21 N t0 s) := by
  unfold jX12_fewest_j21
  exact zx_iret rfl dX12_fewest_21
def mX12_fewest (N : Nat)   (s : zq_S) : Option (Int32 × zq_S) :=
  zq_b2 (mX12_findSessions N s) (fun r1 s2 =>
  if (zgf s2 57 6) = (0 : Int32) then
  jX12_fewest_j21 N (0 : Int32) s2
  else
  zq_ck (0 : Int32) 4096 (
  jX12_fewest_j21 N (zga s2 82 (0 : Int32)) s2))
set_option maxRecDepth 20000 in
set_option maxHeartbeats 2000000 in
theorem xX12_fewest (N : Nat)   (s : zq_S) : zq_X yX12_fewest RX12 cX12_fewest 1 (some .int) ⟨6, 0, 0, 143⟩ zv_i 0 [.ref 57] [] s (mX12_fewest N s) := by
  unfold mX12_fewest
  refine zx_lift (pc' := 1) (fun _ => zq_aload_n rfl rfl dX12_fewest_0 rfl) ?_
  refine zx_cVv (pc' := 4) zcv_X12_322 (cX12_findSessions_mc N s) zob_57 rfl (by decide) (Nat.le_of_ble_eq_true rfl) dX12_fewest_1 rfl rfl (fun r1 s2 => ?_)
  refine zx_lift (pc' := 5) (fun _ => zq_aload_n rfl rfl dX12_fewest_4 rfl) ?_
  refine zx_lift (pc' := 8) (fun _ => zt_getI zfr_X12_141 zfd_57_6 dX12_fewest_5 rfl) ?_
  refine zx_if_ne (pc' := 11) (tgt := 15) dX12_fewest_8 rfl rfl (fun hc => ?_) (fun hc => ?_)
  · refine zx_lift (pc' := 16) (fun _ => zq_aload_n rfl rfl dX12_fewest_15 rfl) ?_
    refine zx_lift (pc' := 19) (fun _ => zt_getR zfr_X12_88 zfd_57_42 dX12_fewest_16 rfl) ?_
    refine zx_lift (pc' := 20) (fun _ => zq_iconst (v := 0) dX12_fewest_19 rfl rfl) ?_
    refine zx_iaload (pc' := 21) zsh_82 dX12_fewest_20 rfl ?_
    refine zx_less [.null] (zq_cz zq_cn) ?_
    exact xX12_fewest_j21_j N (zga s2 82 (0 : Int32)) s2
  · refine zx_lift (pc' := 12) (fun _ => zq_iconst (v := 0) dX12_fewest_11 rfl rfl) ?_
    refine zx_lift (pc' := 21) (fun _ => zq_goto dX12_fewest_12 rfl) ?_
    refine zx_less [.null] (zq_cz zq_cn) ?_
    exact xX12_fewest_j21_j N (0 : Int32) s2
theorem cX12_fewest_mc (N : Nat)   (s : zq_S) (v : Int32 × zq_S) (h : mX12_fewest N s = some v) : zq_MC yX12_fewest cX12_fewest 1 (some .int) ⟨6, 0, 0, 143⟩ 0 0 [.ref 57] (zq_en s) (zv_i v.1, zq_en v.2) := zq_MC_x [.ref 57] (by decide +kernel) rfl rfl (Nat.le_of_ble_eq_true rfl) (xX12_fewest N s) h
def bX12_count_4 (N : Nat)  (f1 : Int32) (k29 : Int32 × zq_S → Option (Int32 × zq_S)) (self : Int32 × Int32 × zq_S → Option (Int32 × zq_S)) (v : Int32 × Int32 × zq_S) : Option (Int32 × zq_S) :=
  if (zgf v.2.2 57 6) ≤ v.2.1 then
  k29 (v.1, v.2.2)
  else
  zq_ck v.2.1 10 (
  zq_let (v.1 ||| ((1 : Int32) <<< ((zga v.2.2 63 v.2.1) &&& 31))) (fun x1 =>
  zq_let (v.2.1 + (1 : Int32)) (fun x2 =>
  self (x1, x2, v.2.2))))
set_option maxRecDepth 20000 in
set_option maxHeartbeats 2000000 in
theorem xX12_count_4 (N : Nat)  (f1 : Int32) (k29 : Int32 × zq_S → Option (Int32 × zq_S)) (hk29 : ∀ e, zq_X yX12_count RX12 cX12_count 4 (some .int) ⟨7, 0, 0, 163⟩ zv_i 29 [.ref 57, .int f1, .int e.1, .null] [] e.2 (k29 e)) (self : Int32 × Int32 × zq_S → Option (Int32 × zq_S)) (hself : ∀ v, zq_X yX12_count RX12 cX12_count 4 (some .int) ⟨7, 0, 0, 163⟩ zv_i 4 [.ref 57, .int f1, .int v.1, .int v.2.1] [] v.2.2 (self v)) (v : Int32 × Int32 × zq_S) : zq_X yX12_count RX12 cX12_count 4 (some .int) ⟨7, 0, 0, 163⟩ zv_i 4 [.ref 57, .int f1, .int v.1, .int v.2.1] [] v.2.2 (bX12_count_4 N f1 k29 self v) := by
  unfold bX12_count_4
  refine zx_lift (pc' := 5) (fun _ => zq_iload_n rfl rfl dX12_count_4 rfl) ?_
  refine zx_lift (pc' := 6) (fun _ => zq_aload_n rfl rfl dX12_count_5 rfl) ?_
  refine zx_lift (pc' := 9) (fun _ => zt_getI zfr_X12_141 zfd_57_6 dX12_count_6 rfl) ?_
  refine zx_icmp_ge (pc' := 12) (tgt := 29) dX12_count_9 rfl rfl (fun hc => ?_) (fun hc => ?_)
  · refine zx_less [.ref 57, .int f1, .int v.1, .null] (zq_cr (zq_cr (zq_cr (zq_cz zq_cn)))) ?_
    exact hk29 (v.1, v.2.2)
  · refine zx_lift (pc' := 13) (fun _ => zq_iload_n rfl rfl dX12_count_12 rfl) ?_
    refine zx_lift (pc' := 14) (fun _ => zq_iconst (v := 1) dX12_count_13 rfl rfl) ?_
    refine zx_lift (pc' := 15) (fun _ => zq_aload_n rfl rfl dX12_count_14 rfl) ?_
    refine zx_lift (pc' := 18) (fun _ => zt_getR zfr_X12_25 zfd_57_8 dX12_count_15 rfl) ?_
    refine zx_lift (pc' := 19) (fun _ => zq_iload_n rfl rfl dX12_count_18 rfl) ?_
    refine zx_iaload (pc' := 20) zsh_63 dX12_count_19 rfl ?_
    refine zx_lift (pc' := 21) (fun _ => zq_ishl dX12_count_20 rfl) ?_
    refine zx_lift (pc' := 22) (fun _ => zq_ior dX12_count_21 rfl) ?_
    refine zx_istore_n (pc' := 23) (ls' := fun x1 => [.ref 57, .int f1, .int x1, .int v.2.1]) rfl (by decide) rfl (fun _ => rfl) dX12_count_22 rfl (fun x1 => ?_)
    refine zx_iinc (pc' := 26) (ls' := fun x2 => [.ref 57, .int f1, .int x1, .int x2]) rfl rfl (by decide) rfl (fun _ => rfl) dX12_count_23 rfl (fun x2 => ?_)
    refine zx_lift (pc' := 4) (fun _ => zq_goto dX12_count_26 rfl) ?_
    exact hself (x1, x2, v.2.2)
theorem yX12_count_4 (N : Nat)  (f1 : Int32) (k29 : Int32 × zq_S → Option (Int32 × zq_S)) (hk29 : ∀ e, zq_X yX12_count RX12 cX12_count 4 (some .int) ⟨7, 0, 0, 163⟩ zv_i 29 [.ref 57, .int f1, .int e.1, .null] [] e.2 (k29 e)) (n : Nat) : ∀ v : Int32 × Int32 × zq_S, zq_X yX12_count RX12 cX12_count 4 (some .int) ⟨7, 0, 0, 163⟩ zv_i 4 [.ref 57, .int f1, .int v.1, .int v.2.1] [] v.2.2 (zq_loop (bX12_count_4 N f1 k29) n v) := by
  induction n with
  | zero => exact fun v u hu => by cases hu
  | succ n ih =>
    intro v
    rw [zq_loop_s]
    exact xX12_count_4 N f1 k29 hk29 (zq_loop (bX12_count_4 N f1 k29) n) ih v
def mX12_count (N : Nat)  (p1 : Int32) (s : zq_S) : Option (Int32 × zq_S) :=
  zq_loop (bX12_count_4 N p1 (fun e3 =>
  if p1 = (0 : Int32) then
  some ((zgf e3.2 57 6), e3.2)
  else if p1 = (1 : Int32) then
  some ((zgf e3.2 57 5), e3.2)
  else if p1 = (2 : Int32) then
  some ((zgf e3.2 57 16), e3.2)
  else if p1 = (3 : Int32) then
  some ((zgf e3.2 57 52), e3.2)
  else if p1 = (4 : Int32) then
  some ((zgf e3.2 57 54), e3.2)
  else if p1 = (5 : Int32) then
  some ((zgf e3.2 57 59), e3.2)
  else if p1 = (6 : Int32) then
  zq_b2 (mX12_bits N e3.1 e3.2) (fun r10 s11 =>
  some (r10, s11))
  else if p1 = (7 : Int32) then
  zq_b2 (mX12_fewest N e3.2) (fun r13 s14 =>
  some (r13, s14))
  else 
  some ((-1002 : Int32), e3.2))) N ((0 : Int32), (0 : Int32), s)
set_option maxRecDepth 20000 in
set_option maxHeartbeats 2000000 in
theorem xX12_count (N : Nat)  (p1 : Int32) (s : zq_S) : zq_X yX12_count RX12 cX12_count 4 (some .int) ⟨7, 0, 0, 163⟩ zv_i 0 [.ref 57, .int p1, .null, .null] [] s (mX12_count N p1 s) := by
  unfold mX12_count
  refine zx_lift (pc' := 1) (fun _ => zq_iconst (v := 0) dX12_count_0 rfl rfl) ?_
  refine zx_lift (pc' := 2) (fun _ => zq_istore_n (ls' := [.ref 57, .int p1, .int (0 : Int32), .null]) rfl (by decide) rfl rfl dX12_count_1 rfl) ?_
  refine zx_lift (pc' := 3) (fun _ => zq_iconst (v := 0) dX12_count_2 rfl rfl) ?_
  refine zx_lift (pc' := 4) (fun _ => zq_istore_n (ls' := [.ref 57, .int p1, .int (0 : Int32), .int (0 : Int32)]) rfl (by decide) rfl rfl dX12_count_3 rfl) ?_
  refine yX12_count_4 N p1 _ (fun e3 => ?_) N ((0 : Int32), (0 : Int32), s)
  refine zx_lift (pc' := 30) (fun _ => zq_iload_n rfl rfl dX12_count_29 rfl) ?_
  refine zx_ite (fun hc => ?_) (fun hn4 => ?_)
  · refine zx_tabIn (tgt := 76) hc dX12_count_30 (by decide) (by decide) rfl rfl ?_
    refine zx_lift (pc' := 77) (fun _ => zq_aload_n rfl rfl dX12_count_76 rfl) ?_
    refine zx_lift (pc' := 80) (fun _ => zt_getI zfr_X12_141 zfd_57_6 dX12_count_77 rfl) ?_
    exact zx_iret rfl dX12_count_80
  refine zx_ite (fun hc => ?_) (fun hn5 => ?_)
  · refine zx_tabIn (tgt := 81) hc dX12_count_30 (by decide) (by decide) rfl rfl ?_
    refine zx_lift (pc' := 82) (fun _ => zq_aload_n rfl rfl dX12_count_81 rfl) ?_
    refine zx_lift (pc' := 85) (fun _ => zt_getI zfr_X12_246 zfd_57_5 dX12_count_82 rfl) ?_
    exact zx_iret rfl dX12_count_85
  refine zx_ite (fun hc => ?_) (fun hn6 => ?_)
  · refine zx_tabIn (tgt := 86) hc dX12_count_30 (by decide) (by decide) rfl rfl ?_
    refine zx_lift (pc' := 87) (fun _ => zq_aload_n rfl rfl dX12_count_86 rfl) ?_
    refine zx_lift (pc' := 90) (fun _ => zt_getI zfr_X12_154 zfd_57_16 dX12_count_87 rfl) ?_
    exact zx_iret rfl dX12_count_90
  refine zx_ite (fun hc => ?_) (fun hn7 => ?_)
  · refine zx_tabIn (tgt := 91) hc dX12_count_30 (by decide) (by decide) rfl rfl ?_
    refine zx_lift (pc' := 92) (fun _ => zq_aload_n rfl rfl dX12_count_91 rfl) ?_
    refine zx_lift (pc' := 95) (fun _ => zt_getI zfr_X12_292 zfd_57_52 dX12_count_92 rfl) ?_
    exact zx_iret rfl dX12_count_95
  refine zx_ite (fun hc => ?_) (fun hn8 => ?_)
  · refine zx_tabIn (tgt := 96) hc dX12_count_30 (by decide) (by decide) rfl rfl ?_
    refine zx_lift (pc' := 97) (fun _ => zq_aload_n rfl rfl dX12_count_96 rfl) ?_
    refine zx_lift (pc' := 100) (fun _ => zt_getI zfr_X12_295 zfd_57_54 dX12_count_97 rfl) ?_
    exact zx_iret rfl dX12_count_100
  refine zx_ite (fun hc => ?_) (fun hn9 => ?_)
  · refine zx_tabIn (tgt := 101) hc dX12_count_30 (by decide) (by decide) rfl rfl ?_
    refine zx_lift (pc' := 102) (fun _ => zq_aload_n rfl rfl dX12_count_101 rfl) ?_
    refine zx_lift (pc' := 105) (fun _ => zt_getI zfr_X12_298 zfd_57_59 dX12_count_102 rfl) ?_
    exact zx_iret rfl dX12_count_105
  refine zx_ite (fun hc => ?_) (fun hn12 => ?_)
  · refine zx_tabIn (tgt := 106) hc dX12_count_30 (by decide) (by decide) rfl rfl ?_
    refine zx_lift (pc' := 107) (fun _ => zq_iload_n rfl rfl dX12_count_106 rfl) ?_
    refine zx_cSi (pc' := 110) zcs_X12_301 (cX12_bits_mc N e3.1 e3.2) rfl (by decide) (Nat.le_of_ble_eq_true rfl) dX12_count_107 rfl rfl (fun r10 s11 => ?_)
    exact zx_iret rfl dX12_count_110
  refine zx_ite (fun hc => ?_) (fun hn15 => ?_)
  · refine zx_tabIn (tgt := 111) hc dX12_count_30 (by decide) (by decide) rfl rfl ?_
    refine zx_lift (pc' := 112) (fun _ => zq_aload_n rfl rfl dX12_count_111 rfl) ?_
    refine zx_cVi (pc' := 115) zcv_X12_304 (cX12_fewest_mc N e3.2) zob_57 rfl (by decide) (Nat.le_of_ble_eq_true rfl) dX12_count_112 rfl rfl (fun r13 s14 => ?_)
    exact zx_iret rfl dX12_count_115
  refine zx_tabOut (tgt := 116) dX12_count_30 (by have := zq_tk (k := 0) hn4 (by decide); have := zq_tk (k := 1) hn5 (by decide); have := zq_tk (k := 2) hn6 (by decide); have := zq_tk (k := 3) hn7 (by decide); have := zq_tk (k := 4) hn8 (by decide); have := zq_tk (k := 5) hn9 (by decide); have := zq_tk (k := 6) hn12 (by decide); have := zq_tk (k := 7) hn15 (by decide); omega) rfl ?_
  refine zx_lift (pc' := 119) (fun _ => zq_sipush (v := (-1002)) dX12_count_116 rfl rfl) ?_
  exact zx_iret rfl dX12_count_119
theorem cX12_count_mc (N : Nat)  (p1 : Int32) (s : zq_S) (v : Int32 × zq_S) (h : mX12_count N p1 s = some v) : zq_MC yX12_count cX12_count 4 (some .int) ⟨7, 0, 0, 163⟩ 0 0 [.ref 57, .int p1] (zq_en s) (zv_i v.1, zq_en v.2) := zq_MC_x [.ref 57, .int p1, .null, .null] (by decide +kernel) rfl rfl (Nat.le_of_ble_eq_true rfl) (xX12_count N p1 s) h
