def mX12_drop (N : Nat)   (s : zq_S) : Option (Int32 × zq_S) :=
  if (zgf s 57 54) = (0 : Int32) then
  some ((-1 : Int32), s)
  else
  zq_let (zpf s 57 54 ((zgf s 57 54) - (1 : Int32))) (fun s1 =>
  zq_ck (zgf s1 57 54) 4 (
  some ((zga s1 92 (zgf s1 57 54)), s1)))
set_option maxRecDepth 20000 in
set_option maxHeartbeats 2000000 in
theorem xX12_drop (N : Nat)   (s : zq_S) : zq_X yX12_drop RX12 cX12_drop 1 (some .int) ⟨0, 0, 0, 0⟩ zv_i 0 [.ref 57] [] s (mX12_drop N s) := by
  unfold mX12_drop
  refine zx_lift (pc' := 1) (fun _ => zq_aload_n rfl rfl dX12_drop_0 rfl) ?_
  refine zx_lift (pc' := 4) (fun _ => zt_getI zfr_X12_295 zfd_57_54 dX12_drop_1 rfl) ?_
  refine zx_if_ne (pc' := 7) (tgt := 9) dX12_drop_4 rfl rfl (fun hc => ?_) (fun hc => ?_)
  · refine zx_lift (pc' := 10) (fun _ => zq_aload_n rfl rfl dX12_drop_9 rfl) ?_
    refine zx_lift (pc' := 11) (fun _ => zq_dup rfl dX12_drop_10 rfl) ?_
    refine zx_lift (pc' := 14) (fun _ => zt_getI zfr_X12_295 zfd_57_54 dX12_drop_11 rfl) ?_
    refine zx_lift (pc' := 15) (fun _ => zq_iconst (v := 1) dX12_drop_14 rfl rfl) ?_
    refine zx_lift (pc' := 16) (fun _ => zq_isub dX12_drop_15 rfl) ?_
    refine zx_putI (pc' := 19) zfr_X12_295 (fun _ => ⟨rfl, rfl⟩) zfd_57_54 dX12_drop_16 rfl (fun s1 => ?_)
    refine zx_lift (pc' := 20) (fun _ => zq_aload_n rfl rfl dX12_drop_19 rfl) ?_
    refine zx_lift (pc' := 23) (fun _ => zt_getR zfr_X12_119 zfd_57_55 dX12_drop_20 rfl) ?_
    refine zx_lift (pc' := 24) (fun _ => zq_aload_n rfl rfl dX12_drop_23 rfl) ?_
    refine zx_lift (pc' := 27) (fun _ => zt_getI zfr_X12_295 zfd_57_54 dX12_drop_24 rfl) ?_
    refine zx_iaload (pc' := 28) zsh_92 dX12_drop_27 rfl ?_
    exact zx_iret rfl dX12_drop_28
  · refine zx_lift (pc' := 8) (fun _ => zq_iconst (v := (-1)) dX12_drop_7 rfl rfl) ?_
    exact zx_iret rfl dX12_drop_8
theorem cX12_drop_mc (N : Nat)   (s : zq_S) (v : Int32 × zq_S) (h : mX12_drop N s = some v) : zq_MC yX12_drop cX12_drop 1 (some .int) ⟨0, 0, 0, 0⟩ 0 0 [.ref 57] (zq_en s) (zv_i v.1, zq_en v.2) := zq_MC_x [.ref 57] (by decide +kernel) rfl rfl (Nat.le_of_ble_eq_true rfl) (xX12_drop N s) h
def mX12_isInk (N : Nat)  (p0 : Int32) (s : zq_S) : Option (Int32 × zq_S) :=
  zq_b2 (mX12_in N (Int32.toInt64 p0) (0 : Int64) (3 : Int64) s) (fun r1 s2 =>
  zq_bz r1 (some (r1, s2)))
set_option maxRecDepth 20000 in
set_option maxHeartbeats 2000000 in
theorem xX12_isInk (N : Nat)  (p0 : Int32) (s : zq_S) : zq_X yX12_isInk RX12 cX12_isInk 1 (some .boolean) ⟨1, 0, 0, 25⟩ zv_i 0 [.int p0] [] s (mX12_isInk N p0 s) := by
  unfold mX12_isInk
  refine zx_lift (pc' := 1) (fun _ => zq_iload_n rfl rfl dX12_isInk_0 rfl) ?_
  refine zx_lift (pc' := 2) (fun _ => zq_i2l dX12_isInk_1 rfl) ?_
  refine zx_lift (pc' := 3) (fun _ => zq_lconst (v := 0) dX12_isInk_2 rfl rfl) ?_
  refine zx_lift (pc' := 6) (fun _ => zq_ldc2 zk_X12_287 dX12_isInk_3 rfl) ?_
  refine zx_cSi (pc' := 9) zcs_X12_144 (cX12_in_mc N (Int32.toInt64 p0) (0 : Int64) (3 : Int64) s) rfl (by decide) (Nat.le_of_ble_eq_true rfl) dX12_isInk_6 rfl rfl (fun r1 s2 => ?_)
  exact zx_zretg rfl dX12_isInk_9
theorem cX12_isInk_mc (N : Nat)  (p0 : Int32) (s : zq_S) (v : Int32 × zq_S) (h : mX12_isInk N p0 s = some v) : zq_MC yX12_isInk cX12_isInk 1 (some .boolean) ⟨1, 0, 0, 25⟩ 0 0 [.int p0] (zq_en s) (zv_i v.1, zq_en v.2) := zq_MC_x [.int p0] (by decide +kernel) rfl rfl (Nat.le_of_ble_eq_true rfl) (xX12_isInk N p0 s) h
def bX12_findMust_24 (N : Nat)  (f1 : Int32) (k77 : zq_S → Option (Int32 × zq_S)) (self : Int32 × zq_S → Option (Int32 × zq_S)) (v : Int32 × zq_S) : Option (Int32 × zq_S) :=
  if (zgf v.2 57 6) ≤ v.1 then
  k77 v.2
  else
  zq_ck f1 10 (
  zq_ck v.1 10 (
  zq_ck f1 10 (
  zq_ck (((4 : Int32) * (zga v.2 63 v.1)) + (zga v.2 63 f1)) 16 (
  zq_let (if (zga v.2 69 (((4 : Int32) * (zga v.2 63 v.1)) + (zga v.2 63 f1))) = (0 : Int32) then (0 : Int32) else ((1 : Int32) <<< (v.1 &&& 31))) (fun x2 =>
  zq_ck f1 10 (
  zq_let (zpa v.2 65 f1 ((zga v.2 65 f1) ||| x2)) (fun s3 =>
  zq_let (v.1 + (1 : Int32)) (fun x4 =>
  self (x4, s3)))))))))
set_option maxRecDepth 20000 in
set_option maxHeartbeats 2000000 in
theorem xX12_findMust_24 (N : Nat)  (f1 : Int32) (k77 : zq_S → Option (Int32 × zq_S)) (hk77 : ∀ e, zq_X yX12_findMust RX12 cX12_findMust 3 (some .boolean) ⟨1, 0, 0, 21⟩ zv_i 77 [.ref 57, .int f1, .null] [] e (k77 e)) (self : Int32 × zq_S → Option (Int32 × zq_S)) (hself : ∀ v, zq_X yX12_findMust RX12 cX12_findMust 3 (some .boolean) ⟨1, 0, 0, 21⟩ zv_i 24 [.ref 57, .int f1, .int v.1] [] v.2 (self v)) (v : Int32 × zq_S) : zq_X yX12_findMust RX12 cX12_findMust 3 (some .boolean) ⟨1, 0, 0, 21⟩ zv_i 24 [.ref 57, .int f1, .int v.1] [] v.2 (bX12_findMust_24 N f1 k77 self v) := by
  unfold bX12_findMust_24
  refine zx_lift (pc' := 25) (fun _ => zq_iload_n rfl rfl dX12_findMust_24 rfl) ?_
  refine zx_lift (pc' := 26) (fun _ => zq_aload_n rfl rfl dX12_findMust_25 rfl) ?_
  refine zx_lift (pc' := 29) (fun _ => zt_getI zfr_X12_141 zfd_57_6 dX12_findMust_26 rfl) ?_
  refine zx_icmp_ge (pc' := 32) (tgt := 77) dX12_findMust_29 rfl rfl (fun hc => ?_) (fun hc => ?_)
  · refine zx_less [.ref 57, .int f1, .null] (zq_cr (zq_cr (zq_cz zq_cn))) ?_
    exact hk77 v.2
  · refine zx_lift (pc' := 33) (fun _ => zq_aload_n rfl rfl dX12_findMust_32 rfl) ?_
    refine zx_lift (pc' := 36) (fun _ => zt_getR zfr_X12_31 zfd_57_10 dX12_findMust_33 rfl) ?_
    refine zx_lift (pc' := 37) (fun _ => zq_iload_n rfl rfl dX12_findMust_36 rfl) ?_
    refine zx_lift (pc' := 38) (fun _ => zq_dup2 rfl rfl dX12_findMust_37 rfl) ?_
    refine zx_iaload (pc' := 39) zsh_65 dX12_findMust_38 rfl ?_
    refine zx_lift (pc' := 40) (fun _ => zq_aload_n rfl rfl dX12_findMust_39 rfl) ?_
    refine zx_lift (pc' := 43) (fun _ => zt_getR zfr_X12_43 zfd_57_14 dX12_findMust_40 rfl) ?_
    refine zx_lift (pc' := 44) (fun _ => zq_iconst (v := 4) dX12_findMust_43 rfl rfl) ?_
    refine zx_lift (pc' := 45) (fun _ => zq_aload_n rfl rfl dX12_findMust_44 rfl) ?_
    refine zx_lift (pc' := 48) (fun _ => zt_getR zfr_X12_25 zfd_57_8 dX12_findMust_45 rfl) ?_
    refine zx_lift (pc' := 49) (fun _ => zq_iload_n rfl rfl dX12_findMust_48 rfl) ?_
    refine zx_iaload (pc' := 50) zsh_63 dX12_findMust_49 rfl ?_
    refine zx_lift (pc' := 51) (fun _ => zq_imul dX12_findMust_50 rfl) ?_
    refine zx_lift (pc' := 52) (fun _ => zq_aload_n rfl rfl dX12_findMust_51 rfl) ?_
    refine zx_lift (pc' := 55) (fun _ => zt_getR zfr_X12_25 zfd_57_8 dX12_findMust_52 rfl) ?_
    refine zx_lift (pc' := 56) (fun _ => zq_iload_n rfl rfl dX12_findMust_55 rfl) ?_
    refine zx_iaload (pc' := 57) zsh_63 dX12_findMust_56 rfl ?_
    refine zx_lift (pc' := 58) (fun _ => zq_iadd dX12_findMust_57 rfl) ?_
    refine zx_zaload (pc' := 59) zsh_69 dX12_findMust_58 rfl ?_
    refine zx_tern (pcJ := 69) (lsJ := fun x2 => [.ref 57, .int f1, .int v.1]) (stJ := fun x2 => [.int x2, .int (zga v.2 65 f1), .int f1, .ref 65]) (fun x2 => ?_) (fun f hJ => ?_)
    rotate_left
    · refine zx_lif_eq (pc' := 62) (tgt := 68) dX12_findMust_59 rfl rfl (fun _ => ?_) (fun _ => ?_)
      · refine zx_lift (pc' := 69) (fun _ => zq_iconst (v := 0) dX12_findMust_68 rfl rfl) ?_
        exact zx_lessJ (zq_cr (zq_cr (zq_cr zq_cn))) (hJ _)
      · refine zx_lift (pc' := 63) (fun _ => zq_iconst (v := 1) dX12_findMust_62 rfl rfl) ?_
        refine zx_lift (pc' := 64) (fun _ => zq_iload_n rfl rfl dX12_findMust_63 rfl) ?_
        refine zx_lift (pc' := 65) (fun _ => zq_ishl dX12_findMust_64 rfl) ?_
        refine zx_lift (pc' := 69) (fun _ => zq_goto dX12_findMust_65 rfl) ?_
        exact zx_lessJ (zq_cr (zq_cr (zq_cr zq_cn))) (hJ _)
    refine zx_lift (pc' := 70) (fun _ => zq_ior dX12_findMust_69 rfl) ?_
    refine zx_iastore (pc' := 71) zsh_65 dX12_findMust_70 rfl (fun s3 => ?_)
    refine zx_iinc (pc' := 74) (ls' := fun x4 => [.ref 57, .int f1, .int x4]) rfl rfl (by decide) rfl (fun _ => rfl) dX12_findMust_71 rfl (fun x4 => ?_)
    refine zx_lift (pc' := 24) (fun _ => zq_goto dX12_findMust_74 rfl) ?_
    exact hself (x4, s3)
theorem yX12_findMust_24 (N : Nat)  (f1 : Int32) (k77 : zq_S → Option (Int32 × zq_S)) (hk77 : ∀ e, zq_X yX12_findMust RX12 cX12_findMust 3 (some .boolean) ⟨1, 0, 0, 21⟩ zv_i 77 [.ref 57, .int f1, .null] [] e (k77 e)) (n : Nat) : ∀ v : Int32 × zq_S, zq_X yX12_findMust RX12 cX12_findMust 3 (some .boolean) ⟨1, 0, 0, 21⟩ zv_i 24 [.ref 57, .int f1, .int v.1] [] v.2 (zq_loop (bX12_findMust_24 N f1 k77) n v) := by
  induction n with
  | zero => exact fun v u hu => by cases hu
  | succ n ih =>
    intro v
    rw [zq_loop_s]
    exact xX12_findMust_24 N f1 k77 hk77 (zq_loop (bX12_findMust_24 N f1 k77) n) ih v
def bX12_findMust_2 (N : Nat)   (k83 : zq_S → Option (Int32 × zq_S)) (self : Int32 × zq_S → Option (Int32 × zq_S)) (v : Int32 × zq_S) : Option (Int32 × zq_S) :=
  if (zgf v.2 57 6) ≤ v.1 then
  k83 v.2
  else
  zq_ck v.1 10 (
  zq_ck v.1 10 (
  zq_let (zpa v.2 65 v.1 (zga v.2 64 v.1)) (fun s1 =>
  zq_loop (bX12_findMust_24 N v.1 (fun e5 =>
  zq_let (v.1 + (1 : Int32)) (fun x6 =>
  self (x6, e5)))) N ((0 : Int32), s1))))
set_option maxRecDepth 20000 in
set_option maxHeartbeats 2000000 in
theorem xX12_findMust_2 (N : Nat)   (k83 : zq_S → Option (Int32 × zq_S)) (hk83 : ∀ e, zq_X yX12_findMust RX12 cX12_findMust 3 (some .boolean) ⟨1, 0, 0, 21⟩ zv_i 83 [.ref 57, .null, .null] [] e (k83 e)) (self : Int32 × zq_S → Option (Int32 × zq_S)) (hself : ∀ v, zq_X yX12_findMust RX12 cX12_findMust 3 (some .boolean) ⟨1, 0, 0, 21⟩ zv_i 2 [.ref 57, .int v.1, .null] [] v.2 (self v)) (v : Int32 × zq_S) : zq_X yX12_findMust RX12 cX12_findMust 3 (some .boolean) ⟨1, 0, 0, 21⟩ zv_i 2 [.ref 57, .int v.1, .null] [] v.2 (bX12_findMust_2 N k83 self v) := by
  unfold bX12_findMust_2
  refine zx_lift (pc' := 3) (fun _ => zq_iload_n rfl rfl dX12_findMust_2 rfl) ?_
  refine zx_lift (pc' := 4) (fun _ => zq_aload_n rfl rfl dX12_findMust_3 rfl) ?_
  refine zx_lift (pc' := 7) (fun _ => zt_getI zfr_X12_141 zfd_57_6 dX12_findMust_4 rfl) ?_
  refine zx_icmp_ge (pc' := 10) (tgt := 83) dX12_findMust_7 rfl rfl (fun hc => ?_) (fun hc => ?_)
  · refine zx_less [.ref 57, .null, .null] (zq_cr (zq_cz (zq_cz zq_cn))) ?_
    exact hk83 v.2
  · refine zx_lift (pc' := 11) (fun _ => zq_aload_n rfl rfl dX12_findMust_10 rfl) ?_
    refine zx_lift (pc' := 14) (fun _ => zt_getR zfr_X12_31 zfd_57_10 dX12_findMust_11 rfl) ?_
    refine zx_lift (pc' := 15) (fun _ => zq_iload_n rfl rfl dX12_findMust_14 rfl) ?_
    refine zx_lift (pc' := 16) (fun _ => zq_aload_n rfl rfl dX12_findMust_15 rfl) ?_
    refine zx_lift (pc' := 19) (fun _ => zt_getR zfr_X12_28 zfd_57_9 dX12_findMust_16 rfl) ?_
    refine zx_lift (pc' := 20) (fun _ => zq_iload_n rfl rfl dX12_findMust_19 rfl) ?_
    refine zx_iaload (pc' := 21) zsh_64 dX12_findMust_20 rfl ?_
    refine zx_iastore (pc' := 22) zsh_65 dX12_findMust_21 rfl (fun s1 => ?_)
    refine zx_lift (pc' := 23) (fun _ => zq_iconst (v := 0) dX12_findMust_22 rfl rfl) ?_
    refine zx_lift (pc' := 24) (fun _ => zq_istore_n (ls' := [.ref 57, .int v.1, .int (0 : Int32)]) rfl (by decide) rfl rfl dX12_findMust_23 rfl) ?_
    refine yX12_findMust_24 N v.1 _ (fun e5 => ?_) N ((0 : Int32), s1)
    refine zx_iinc (pc' := 80) (ls' := fun x6 => [.ref 57, .int x6, .null]) rfl rfl (by decide) rfl (fun _ => rfl) dX12_findMust_77 rfl (fun x6 => ?_)
    refine zx_lift (pc' := 2) (fun _ => zq_goto dX12_findMust_80 rfl) ?_
    exact hself (x6, e5)
theorem yX12_findMust_2 (N : Nat)   (k83 : zq_S → Option (Int32 × zq_S)) (hk83 : ∀ e, zq_X yX12_findMust RX12 cX12_findMust 3 (some .boolean) ⟨1, 0, 0, 21⟩ zv_i 83 [.ref 57, .null, .null] [] e (k83 e)) (n : Nat) : ∀ v : Int32 × zq_S, zq_X yX12_findMust RX12 cX12_findMust 3 (some .boolean) ⟨1, 0, 0, 21⟩ zv_i 2 [.ref 57, .int v.1, .null] [] v.2 (zq_loop (bX12_findMust_2 N k83) n v) := by
  induction n with
  | zero => exact fun v u hu => by cases hu
  | succ n ih =>
    intro v
    rw [zq_loop_s]
    exact xX12_findMust_2 N k83 hk83 (zq_loop (bX12_findMust_2 N k83) n) ih v
def jX12_findMust_j133 (N : Nat)  (f1 : Int32) (k141 : zq_S → Option (Int32 × zq_S)) (self : Int32 × zq_S → Option (Int32 × zq_S)) (w2 : Int32) (t0 : Int32) (t1 : Int32) (t2 : Int32) (s : zq_S) : Option (Int32 × zq_S) :=
  zq_ck t2 10 (
  zq_let (zpa s 65 t2 (t1 ||| t0)) (fun s10 =>
  zq_let (w2 + (1 : Int32)) (fun x11 =>
  self (x11, s10))))
set_option maxRecDepth 20000 in
set_option maxHeartbeats 2000000 in
theorem xX12_findMust_j133_j (N : Nat)  (f1 : Int32) (k141 : zq_S → Option (Int32 × zq_S)) (hk141 : ∀ e, zq_X yX12_findMust RX12 cX12_findMust 3 (some .boolean) ⟨1, 0, 0, 21⟩ zv_i 141 [.ref 57, .int f1, .null] [] e (k141 e)) (self : Int32 × zq_S → Option (Int32 × zq_S)) (hself : ∀ v, zq_X yX12_findMust RX12 cX12_findMust 3 (some .boolean) ⟨1, 0, 0, 21⟩ zv_i 95 [.ref 57, .int f1, .int v.1] [] v.2 (self v)) (w2 : Int32) (t0 : Int32) (t1 : Int32) (t2 : Int32) (s : zq_S) : zq_X yX12_findMust RX12 cX12_findMust 3 (some .boolean) ⟨1, 0, 0, 21⟩ zv_i 133 [.ref 57, .int f1, .int w2] [.int t0, .int t1, .int t2, .ref 65] s (jX12_findMust_j133 N f1 k141 self w2 t0 t1 t2 s) := by
  unfold jX12_findMust_j133
  refine zx_lift (pc' := 134) (fun _ => zq_ior dX12_findMust_133 rfl) ?_
  refine zx_iastore (pc' := 135) zsh_65 dX12_findMust_134 rfl (fun s10 => ?_)
  refine zx_iinc (pc' := 138) (ls' := fun x11 => [.ref 57, .int f1, .int x11]) rfl rfl (by decide) rfl (fun _ => rfl) dX12_findMust_135 rfl (fun x11 => ?_)
  refine zx_lift (pc' := 95) (fun _ => zq_goto dX12_findMust_138 rfl) ?_
  exact hself (x11, s10)
def bX12_findMust_95 (N : Nat)  (f1 : Int32) (k141 : zq_S → Option (Int32 × zq_S)) (self : Int32 × zq_S → Option (Int32 × zq_S)) (v : Int32 × zq_S) : Option (Int32 × zq_S) :=
  if (zgf v.2 57 6) ≤ v.1 then
  k141 v.2
  else
  zq_ck v.1 10 (
  zq_ck v.1 10 (
  zq_b2 (mX12_has N (zga v.2 65 v.1) f1 v.2) (fun r8 s9 =>
  if r8 = (0 : Int32) then
  jX12_findMust_j133 N f1 k141 self v.1 (0 : Int32) (zga v.2 65 v.1) v.1 s9
  else
  zq_ck f1 10 (
  jX12_findMust_j133 N f1 k141 self v.1 (zga s9 65 f1) (zga v.2 65 v.1) v.1 s9))))
set_option maxRecDepth 20000 in
set_option maxHeartbeats 2000000 in
theorem xX12_findMust_95 (N : Nat)  (f1 : Int32) (k141 : zq_S → Option (Int32 × zq_S)) (hk141 : ∀ e, zq_X yX12_findMust RX12 cX12_findMust 3 (some .boolean) ⟨1, 0, 0, 21⟩ zv_i 141 [.ref 57, .int f1, .null] [] e (k141 e)) (self : Int32 × zq_S → Option (Int32 × zq_S)) (hself : ∀ v, zq_X yX12_findMust RX12 cX12_findMust 3 (some .boolean) ⟨1, 0, 0, 21⟩ zv_i 95 [.ref 57, .int f1, .int v.1] [] v.2 (self v)) (v : Int32 × zq_S) : zq_X yX12_findMust RX12 cX12_findMust 3 (some .boolean) ⟨1, 0, 0, 21⟩ zv_i 95 [.ref 57, .int f1, .int v.1] [] v.2 (bX12_findMust_95 N f1 k141 self v) := by
  unfold bX12_findMust_95
  refine zx_lift (pc' := 96) (fun _ => zq_iload_n rfl rfl dX12_findMust_95 rfl) ?_
  refine zx_lift (pc' := 97) (fun _ => zq_aload_n rfl rfl dX12_findMust_96 rfl) ?_
  refine zx_lift (pc' := 100) (fun _ => zt_getI zfr_X12_141 zfd_57_6 dX12_findMust_97 rfl) ?_
  refine zx_icmp_ge (pc' := 103) (tgt := 141) dX12_findMust_100 rfl rfl (fun hc => ?_) (fun hc => ?_)
  · refine zx_less [.ref 57, .int f1, .null] (zq_cr (zq_cr (zq_cz zq_cn))) ?_
    exact hk141 v.2
  · refine zx_lift (pc' := 104) (fun _ => zq_aload_n rfl rfl dX12_findMust_103 rfl) ?_
    refine zx_lift (pc' := 107) (fun _ => zt_getR zfr_X12_31 zfd_57_10 dX12_findMust_104 rfl) ?_
    refine zx_lift (pc' := 108) (fun _ => zq_iload_n rfl rfl dX12_findMust_107 rfl) ?_
    refine zx_lift (pc' := 109) (fun _ => zq_dup2 rfl rfl dX12_findMust_108 rfl) ?_
    refine zx_iaload (pc' := 110) zsh_65 dX12_findMust_109 rfl ?_
    refine zx_lift (pc' := 111) (fun _ => zq_aload_n rfl rfl dX12_findMust_110 rfl) ?_
    refine zx_lift (pc' := 114) (fun _ => zt_getR zfr_X12_31 zfd_57_10 dX12_findMust_111 rfl) ?_
    refine zx_lift (pc' := 115) (fun _ => zq_iload_n rfl rfl dX12_findMust_114 rfl) ?_
    refine zx_iaload (pc' := 116) zsh_65 dX12_findMust_115 rfl ?_
    refine zx_lift (pc' := 117) (fun _ => zq_iload_n rfl rfl dX12_findMust_116 rfl) ?_
    refine zx_cSi (pc' := 120) zcs_X12_189 (cX12_has_mc N (zga v.2 65 v.1) f1 v.2) rfl (by decide) (Nat.le_of_ble_eq_true rfl) dX12_findMust_117 rfl rfl (fun r8 s9 => ?_)
    refine zx_if_eq (pc' := 123) (tgt := 132) dX12_findMust_120 rfl rfl (fun hc => ?_) (fun hc => ?_)
    · refine zx_lift (pc' := 133) (fun _ => zq_iconst (v := 0) dX12_findMust_132 rfl rfl) ?_
      exact xX12_findMust_j133_j N f1 k141 hk141 self hself v.1 (0 : Int32) (zga v.2 65 v.1) v.1 s9
    · refine zx_lift (pc' := 124) (fun _ => zq_aload_n rfl rfl dX12_findMust_123 rfl) ?_
      refine zx_lift (pc' := 127) (fun _ => zt_getR zfr_X12_31 zfd_57_10 dX12_findMust_124 rfl) ?_
      refine zx_lift (pc' := 128) (fun _ => zq_iload_n rfl rfl dX12_findMust_127 rfl) ?_
      refine zx_iaload (pc' := 129) zsh_65 dX12_findMust_128 rfl ?_
      refine zx_lift (pc' := 133) (fun _ => zq_goto dX12_findMust_129 rfl) ?_
      exact xX12_findMust_j133_j N f1 k141 hk141 self hself v.1 (zga s9 65 f1) (zga v.2 65 v.1) v.1 s9
theorem yX12_findMust_95 (N : Nat)  (f1 : Int32) (k141 : zq_S → Option (Int32 × zq_S)) (hk141 : ∀ e, zq_X yX12_findMust RX12 cX12_findMust 3 (some .boolean) ⟨1, 0, 0, 21⟩ zv_i 141 [.ref 57, .int f1, .null] [] e (k141 e)) (n : Nat) : ∀ v : Int32 × zq_S, zq_X yX12_findMust RX12 cX12_findMust 3 (some .boolean) ⟨1, 0, 0, 21⟩ zv_i 95 [.ref 57, .int f1, .int v.1] [] v.2 (zq_loop (bX12_findMust_95 N f1 k141) n v) := by
  induction n with
  | zero => exact fun v u hu => by cases hu
  | succ n ih =>
    intro v
    rw [zq_loop_s]
    exact xX12_findMust_95 N f1 k141 hk141 (zq_loop (bX12_findMust_95 N f1 k141) n) ih v
def bX12_findMust_85 (N : Nat)   (k147 : zq_S → Option (Int32 × zq_S)) (self : Int32 × zq_S → Option (Int32 × zq_S)) (v : Int32 × zq_S) : Option (Int32 × zq_S) :=
  if (zgf v.2 57 6) ≤ v.1 then
  k147 v.2
  else
  zq_loop (bX12_findMust_95 N v.1 (fun e12 =>
  zq_let (v.1 + (1 : Int32)) (fun x13 =>
  self (x13, e12)))) N ((0 : Int32), v.2)
set_option maxRecDepth 20000 in
set_option maxHeartbeats 2000000 in
theorem xX12_findMust_85 (N : Nat)   (k147 : zq_S → Option (Int32 × zq_S)) (hk147 : ∀ e, zq_X yX12_findMust RX12 cX12_findMust 3 (some .boolean) ⟨1, 0, 0, 21⟩ zv_i 147 [.ref 57, .null, .null] [] e (k147 e)) (self : Int32 × zq_S → Option (Int32 × zq_S)) (hself : ∀ v, zq_X yX12_findMust RX12 cX12_findMust 3 (some .boolean) ⟨1, 0, 0, 21⟩ zv_i 85 [.ref 57, .int v.1, .null] [] v.2 (self v)) (v : Int32 × zq_S) : zq_X yX12_findMust RX12 cX12_findMust 3 (some .boolean) ⟨1, 0, 0, 21⟩ zv_i 85 [.ref 57, .int v.1, .null] [] v.2 (bX12_findMust_85 N k147 self v) := by
  unfold bX12_findMust_85
  refine zx_lift (pc' := 86) (fun _ => zq_iload_n rfl rfl dX12_findMust_85 rfl) ?_
  refine zx_lift (pc' := 87) (fun _ => zq_aload_n rfl rfl dX12_findMust_86 rfl) ?_
  refine zx_lift (pc' := 90) (fun _ => zt_getI zfr_X12_141 zfd_57_6 dX12_findMust_87 rfl) ?_
  refine zx_icmp_ge (pc' := 93) (tgt := 147) dX12_findMust_90 rfl rfl (fun hc => ?_) (fun hc => ?_)
  · refine zx_less [.ref 57, .null, .null] (zq_cr (zq_cz (zq_cz zq_cn))) ?_
    exact hk147 v.2
  · refine zx_lift (pc' := 94) (fun _ => zq_iconst (v := 0) dX12_findMust_93 rfl rfl) ?_
    refine zx_lift (pc' := 95) (fun _ => zq_istore_n (ls' := [.ref 57, .int v.1, .int (0 : Int32)]) rfl (by decide) rfl rfl dX12_findMust_94 rfl) ?_
    refine yX12_findMust_95 N v.1 _ (fun e12 => ?_) N ((0 : Int32), v.2)
    refine zx_iinc (pc' := 144) (ls' := fun x13 => [.ref 57, .int x13, .null]) rfl rfl (by decide) rfl (fun _ => rfl) dX12_findMust_141 rfl (fun x13 => ?_)
    refine zx_lift (pc' := 85) (fun _ => zq_goto dX12_findMust_144 rfl) ?_
    exact hself (x13, e12)
theorem yX12_findMust_85 (N : Nat)   (k147 : zq_S → Option (Int32 × zq_S)) (hk147 : ∀ e, zq_X yX12_findMust RX12 cX12_findMust 3 (some .boolean) ⟨1, 0, 0, 21⟩ zv_i 147 [.ref 57, .null, .null] [] e (k147 e)) (n : Nat) : ∀ v : Int32 × zq_S, zq_X yX12_findMust RX12 cX12_findMust 3 (some .boolean) ⟨1, 0, 0, 21⟩ zv_i 85 [.ref 57, .int v.1, .null] [] v.2 (zq_loop (bX12_findMust_85 N k147) n v) := by
  induction n with
  | zero => exact fun v u hu => by cases hu
  | succ n ih =>
    intro v
    rw [zq_loop_s]
    exact xX12_findMust_85 N k147 hk147 (zq_loop (bX12_findMust_85 N k147) n) ih v
def jX12_findMust_j181 (N : Nat)    (self : Int32 × Int32 × zq_S → Option (Int32 × zq_S)) (w2 : Int32) (t0 : Int32) (s : zq_S) : Option (Int32 × zq_S) :=
  zq_let (w2 + (1 : Int32)) (fun x16 =>
  self (t0, x16, s))
set_option maxRecDepth 20000 in
set_option maxHeartbeats 2000000 in
theorem xX12_findMust_j181_j (N : Nat)    (self : Int32 × Int32 × zq_S → Option (Int32 × zq_S)) (hself : ∀ v, zq_X yX12_findMust RX12 cX12_findMust 3 (some .boolean) ⟨1, 0, 0, 21⟩ zv_i 151 [.ref 57, .int v.1, .int v.2.1] [] v.2.2 (self v)) (w2 : Int32) (t0 : Int32) (s : zq_S) : zq_X yX12_findMust RX12 cX12_findMust 3 (some .boolean) ⟨1, 0, 0, 21⟩ zv_i 181 [.ref 57, .null, .int w2] [.int t0] s (jX12_findMust_j181 N self w2 t0 s) := by
  unfold jX12_findMust_j181
  refine zx_lift (pc' := 182) (fun _ => zq_istore_n (ls' := [.ref 57, .int t0, .int w2]) rfl (by decide) rfl rfl dX12_findMust_181 rfl) ?_
  refine zx_iinc (pc' := 185) (ls' := fun x16 => [.ref 57, .int t0, .int x16]) rfl rfl (by decide) rfl (fun _ => rfl) dX12_findMust_182 rfl (fun x16 => ?_)
  refine zx_lift (pc' := 151) (fun _ => zq_goto dX12_findMust_185 rfl) ?_
  exact hself (t0, x16, s)
def jX12_findMust_j180 (N : Nat)    (self : Int32 × Int32 × zq_S → Option (Int32 × zq_S)) (w2 : Int32) (s : zq_S) : Option (Int32 × zq_S) :=
  jX12_findMust_j181 N self w2 (0 : Int32) s
set_option maxRecDepth 20000 in
set_option maxHeartbeats 2000000 in
theorem xX12_findMust_j180_j (N : Nat)    (self : Int32 × Int32 × zq_S → Option (Int32 × zq_S)) (hself : ∀ v, zq_X yX12_findMust RX12 cX12_findMust 3 (some .boolean) ⟨1, 0, 0, 21⟩ zv_i 151 [.ref 57, .int v.1, .int v.2.1] [] v.2.2 (self v)) (w2 : Int32) (s : zq_S) : zq_X yX12_findMust RX12 cX12_findMust 3 (some .boolean) ⟨1, 0, 0, 21⟩ zv_i 180 [.ref 57, .null, .int w2] [] s (jX12_findMust_j180 N self w2 s) := by
  unfold jX12_findMust_j180
  refine zx_lift (pc' := 181) (fun _ => zq_iconst (v := 0) dX12_findMust_180 rfl rfl) ?_
  exact xX12_findMust_j181_j N self hself w2 (0 : Int32) s
def bX12_findMust_151 (N : Nat)    (self : Int32 × Int32 × zq_S → Option (Int32 × zq_S)) (v : Int32 × Int32 × zq_S) : Option (Int32 × zq_S) :=
  if (zgf v.2.2 57 6) ≤ v.2.1 then
  zq_let (zpf v.2.2 57 37 (0 : Int32)) (fun s15 =>
  zq_bz v.1 (some (v.1, s15)))
  else
  if v.1 = (0 : Int32) then
  jX12_findMust_j180 N self v.2.1 v.2.2
  else
  zq_ck v.2.1 10 (
  zq_b2 (mX12_has N (zga v.2.2 65 v.2.1) v.2.1 v.2.2) (fun r17 s18 =>
  if r17 = (0 : Int32) then
  jX12_findMust_j181 N self v.2.1 (1 : Int32) s18
  else
  jX12_findMust_j180 N self v.2.1 s18))
set_option maxRecDepth 20000 in
set_option maxHeartbeats 2000000 in
theorem xX12_findMust_151 (N : Nat)    (self : Int32 × Int32 × zq_S → Option (Int32 × zq_S)) (hself : ∀ v, zq_X yX12_findMust RX12 cX12_findMust 3 (some .boolean) ⟨1, 0, 0, 21⟩ zv_i 151 [.ref 57, .int v.1, .int v.2.1] [] v.2.2 (self v)) (v : Int32 × Int32 × zq_S) : zq_X yX12_findMust RX12 cX12_findMust 3 (some .boolean) ⟨1, 0, 0, 21⟩ zv_i 151 [.ref 57, .int v.1, .int v.2.1] [] v.2.2 (bX12_findMust_151 N self v) := by
  unfold bX12_findMust_151
  refine zx_lift (pc' := 152) (fun _ => zq_iload_n rfl rfl dX12_findMust_151 rfl) ?_
  refine zx_lift (pc' := 153) (fun _ => zq_aload_n rfl rfl dX12_findMust_152 rfl) ?_
  refine zx_lift (pc' := 156) (fun _ => zt_getI zfr_X12_141 zfd_57_6 dX12_findMust_153 rfl) ?_
  refine zx_icmp_ge (pc' := 159) (tgt := 188) dX12_findMust_156 rfl rfl (fun hc => ?_) (fun hc => ?_)
  · refine zx_lift (pc' := 189) (fun _ => zq_aload_n rfl rfl dX12_findMust_188 rfl) ?_
    refine zx_lift (pc' := 190) (fun _ => zq_iconst (v := 0) dX12_findMust_189 rfl rfl) ?_
    refine zx_putI (pc' := 193) zfr_X12_277 (fun _ => ⟨by decide, rfl⟩) zfd_57_37 dX12_findMust_190 rfl (fun s15 => ?_)
    refine zx_lift (pc' := 194) (fun _ => zq_iload_n rfl rfl dX12_findMust_193 rfl) ?_
    exact zx_zretg rfl dX12_findMust_194
  · refine zx_lift (pc' := 160) (fun _ => zq_iload_n rfl rfl dX12_findMust_159 rfl) ?_
    refine zx_if_eq (pc' := 163) (tgt := 180) dX12_findMust_160 rfl rfl (fun hc => ?_) (fun hc => ?_)
    · refine zx_less [.ref 57, .null, .int v.2.1] (zq_cr (zq_cz (zq_cr zq_cn))) ?_
      exact xX12_findMust_j180_j N self hself v.2.1 v.2.2
    · refine zx_lift (pc' := 164) (fun _ => zq_aload_n rfl rfl dX12_findMust_163 rfl) ?_
      refine zx_lift (pc' := 167) (fun _ => zt_getR zfr_X12_31 zfd_57_10 dX12_findMust_164 rfl) ?_
      refine zx_lift (pc' := 168) (fun _ => zq_iload_n rfl rfl dX12_findMust_167 rfl) ?_
      refine zx_iaload (pc' := 169) zsh_65 dX12_findMust_168 rfl ?_
      refine zx_lift (pc' := 170) (fun _ => zq_iload_n rfl rfl dX12_findMust_169 rfl) ?_
      refine zx_cSi (pc' := 173) zcs_X12_189 (cX12_has_mc N (zga v.2.2 65 v.2.1) v.2.1 v.2.2) rfl (by decide) (Nat.le_of_ble_eq_true rfl) dX12_findMust_170 rfl rfl (fun r17 s18 => ?_)
      refine zx_if_ne (pc' := 176) (tgt := 180) dX12_findMust_173 rfl rfl (fun hc => ?_) (fun hc => ?_)
      · refine zx_less [.ref 57, .null, .int v.2.1] (zq_cr (zq_cz (zq_cr zq_cn))) ?_
        exact xX12_findMust_j180_j N self hself v.2.1 s18
      · refine zx_lift (pc' := 177) (fun _ => zq_iconst (v := 1) dX12_findMust_176 rfl rfl) ?_
        refine zx_lift (pc' := 181) (fun _ => zq_goto dX12_findMust_177 rfl) ?_
        refine zx_less [.ref 57, .null, .int v.2.1] (zq_cr (zq_cz (zq_cr zq_cn))) ?_
        exact xX12_findMust_j181_j N self hself v.2.1 (1 : Int32) s18
theorem yX12_findMust_151 (N : Nat)    (n : Nat) : ∀ v : Int32 × Int32 × zq_S, zq_X yX12_findMust RX12 cX12_findMust 3 (some .boolean) ⟨1, 0, 0, 21⟩ zv_i 151 [.ref 57, .int v.1, .int v.2.1] [] v.2.2 (zq_loop (bX12_findMust_151 N ) n v) := by
  induction n with
  | zero => exact fun v u hu => by cases hu
  | succ n ih =>
    intro v
    rw [zq_loop_s]
    exact xX12_findMust_151 N  (zq_loop (bX12_findMust_151 N ) n) ih v
def mX12_findMust (N : Nat)   (s : zq_S) : Option (Int32 × zq_S) :=
  zq_loop (bX12_findMust_2 N (fun e7 =>
  zq_loop (bX12_findMust_85 N (fun e14 =>
  zq_loop (bX12_findMust_151 N ) N ((1 : Int32), (0 : Int32), e14))) N ((0 : Int32), e7))) N ((0 : Int32), s)
set_option maxRecDepth 20000 in
set_option maxHeartbeats 2000000 in
theorem xX12_findMust (N : Nat)   (s : zq_S) : zq_X yX12_findMust RX12 cX12_findMust 3 (some .boolean) ⟨1, 0, 0, 21⟩ zv_i 0 [.ref 57, .null, .null] [] s (mX12_findMust N s) := by
  unfold mX12_findMust
  refine zx_lift (pc' := 1) (fun _ => zq_iconst (v := 0) dX12_findMust_0 rfl rfl) ?_
  refine zx_lift (pc' := 2) (fun _ => zq_istore_n (ls' := [.ref 57, .int (0 : Int32), .null]) rfl (by decide) rfl rfl dX12_findMust_1 rfl) ?_
  refine yX12_findMust_2 N _ (fun e7 => ?_) N ((0 : Int32), s)
  refine zx_lift (pc' := 84) (fun _ => zq_iconst (v := 0) dX12_findMust_83 rfl rfl) ?_
  refine zx_lift (pc' := 85) (fun _ => zq_istore_n (ls' := [.ref 57, .int (0 : Int32), .null]) rfl (by decide) rfl rfl dX12_findMust_84 rfl) ?_
  refine yX12_findMust_85 N _ (fun e14 => ?_) N ((0 : Int32), e7)
  refine zx_lift (pc' := 148) (fun _ => zq_iconst (v := 1) dX12_findMust_147 rfl rfl) ?_
  refine zx_lift (pc' := 149) (fun _ => zq_istore_n (ls' := [.ref 57, .int (1 : Int32), .null]) rfl (by decide) rfl rfl dX12_findMust_148 rfl) ?_
  refine zx_lift (pc' := 150) (fun _ => zq_iconst (v := 0) dX12_findMust_149 rfl rfl) ?_
  refine zx_lift (pc' := 151) (fun _ => zq_istore_n (ls' := [.ref 57, .int (1 : Int32), .int (0 : Int32)]) rfl (by decide) rfl rfl dX12_findMust_150 rfl) ?_
  refine yX12_findMust_151 N  N ((1 : Int32), (0 : Int32), e14)
theorem cX12_findMust_mc (N : Nat)   (s : zq_S) (v : Int32 × zq_S) (h : mX12_findMust N s = some v) : zq_MC yX12_findMust cX12_findMust 3 (some .boolean) ⟨1, 0, 0, 21⟩ 0 0 [.ref 57] (zq_en s) (zv_i v.1, zq_en v.2) := zq_MC_x [.ref 57, .null, .null] (by decide +kernel) rfl rfl (Nat.le_of_ble_eq_true rfl) (xX12_findMust N s) h
def jX12_earlier_j19 (N : Nat)    (s : zq_S) : Option (Int32 × zq_S) :=
  some ((-1001 : Int32), s)
set_option maxRecDepth 20000 in
set_option maxHeartbeats 2000000 in
theorem xX12_earlier_j19_j (N : Nat)    (s : zq_S) : zq_X yX12_earlier RX12 cX12_earlier 5 (some .int) ⟨2, 0, 0, 45⟩ zv_i 19 [.null, .null, .null, .null, .null] [] s (jX12_earlier_j19 N s) := by
  unfold jX12_earlier_j19
  refine zx_lift (pc' := 22) (fun _ => zq_sipush (v := (-1001)) dX12_earlier_19 rfl rfl) ?_
  exact zx_iret rfl dX12_earlier_22
def mX12_earlier (N : Nat)  (p1 : Int32) (p2 : Int32) (p3 : Int32) (s : zq_S) : Option (Int32 × zq_S) :=
  zq_b2 (mX12_isInk N p1 s) (fun r1 s2 =>
  if r1 = (0 : Int32) then
  jX12_earlier_j19 N s2
  else
  zq_b2 (mX12_isInk N p2 s2) (fun r3 s4 =>
  if r3 = (0 : Int32) then
  jX12_earlier_j19 N s4
  else
  if p1 = p2 then
  jX12_earlier_j19 N s4
  else
  zq_ck (((4 : Int32) * p1) + p2) 16 (
  zq_let (zga s4 69 (((4 : Int32) * p1) + p2)) (fun x5 =>
  zq_ck (((4 : Int32) * p1) + p2) 16 (
  zq_let (zpaz s4 69 (((4 : Int32) * p1) + p2) p3) (fun s6 =>
  zq_b2 (mX12_findMust N s6) (fun r7 s8 =>
  if r7 = (0 : Int32) then
  zq_ck (((4 : Int32) * p1) + p2) 16 (
  zq_let (zpaz s8 69 (((4 : Int32) * p1) + p2) x5) (fun s10 =>
  zq_b2 (mX12_findMust N s10) (fun r11 s12 =>
  zq_let (if r11 = (0 : Int32) then (-1001 : Int32) else (-1003 : Int32)) (fun x13 =>
  some (x13, s12)))))
  else
  zq_let (if x5 = (0 : Int32) then (0 : Int32) else (1 : Int32)) (fun x9 =>
  some (x9, s8)))))))))
set_option maxRecDepth 20000 in
set_option maxHeartbeats 2000000 in
theorem xX12_earlier (N : Nat)  (p1 : Int32) (p2 : Int32) (p3 : Int32) (s : zq_S) : zq_X yX12_earlier RX12 cX12_earlier 5 (some .int) ⟨2, 0, 0, 45⟩ zv_i 0 [.ref 57, .int p1, .int p2, .int p3, .null] [] s (mX12_earlier N p1 p2 p3 s) := by
  unfold mX12_earlier
  refine zx_lift (pc' := 1) (fun _ => zq_iload_n rfl rfl dX12_earlier_0 rfl) ?_
  refine zx_cSi (pc' := 4) zcs_X12_289 (cX12_isInk_mc N p1 s) rfl (by decide) (Nat.le_of_ble_eq_true rfl) dX12_earlier_1 rfl rfl (fun r1 s2 => ?_)
  refine zx_if_eq (pc' := 7) (tgt := 19) dX12_earlier_4 rfl rfl (fun hc => ?_) (fun hc => ?_)
  · refine zx_less [.null, .null, .null, .null, .null] (zq_cz (zq_cz (zq_cz (zq_cz (zq_cz zq_cn))))) ?_
    exact xX12_earlier_j19_j N s2
  · refine zx_lift (pc' := 8) (fun _ => zq_iload_n rfl rfl dX12_earlier_7 rfl) ?_
    refine zx_cSi (pc' := 11) zcs_X12_289 (cX12_isInk_mc N p2 s2) rfl (by decide) (Nat.le_of_ble_eq_true rfl) dX12_earlier_8 rfl rfl (fun r3 s4 => ?_)
    refine zx_if_eq (pc' := 14) (tgt := 19) dX12_earlier_11 rfl rfl (fun hc => ?_) (fun hc => ?_)
    · refine zx_less [.null, .null, .null, .null, .null] (zq_cz (zq_cz (zq_cz (zq_cz (zq_cz zq_cn))))) ?_
      exact xX12_earlier_j19_j N s4
    · refine zx_lift (pc' := 15) (fun _ => zq_iload_n rfl rfl dX12_earlier_14 rfl) ?_
      refine zx_lift (pc' := 16) (fun _ => zq_iload_n rfl rfl dX12_earlier_15 rfl) ?_
      refine zx_icmp_ne (pc' := 19) (tgt := 23) dX12_earlier_16 rfl rfl (fun hc => ?_) (fun hc => ?_)
      · refine zx_lift (pc' := 24) (fun _ => zq_aload_n rfl rfl dX12_earlier_23 rfl) ?_
        refine zx_lift (pc' := 27) (fun _ => zt_getR zfr_X12_43 zfd_57_14 dX12_earlier_24 rfl) ?_
        refine zx_lift (pc' := 28) (fun _ => zq_iconst (v := 4) dX12_earlier_27 rfl rfl) ?_
        refine zx_lift (pc' := 29) (fun _ => zq_iload_n rfl rfl dX12_earlier_28 rfl) ?_
        refine zx_lift (pc' := 30) (fun _ => zq_imul dX12_earlier_29 rfl) ?_
        refine zx_lift (pc' := 31) (fun _ => zq_iload_n rfl rfl dX12_earlier_30 rfl) ?_
        refine zx_lift (pc' := 32) (fun _ => zq_iadd dX12_earlier_31 rfl) ?_
        refine zx_zaload (pc' := 33) zsh_69 dX12_earlier_32 rfl ?_
        refine zx_istore (pc' := 35) (ls' := fun x5 => [.ref 57, .int p1, .int p2, .int p3, .int x5]) (by decide) rfl (fun _ => rfl) dX12_earlier_33 rfl (fun x5 => ?_)
        refine zx_lift (pc' := 36) (fun _ => zq_aload_n rfl rfl dX12_earlier_35 rfl) ?_
        refine zx_lift (pc' := 39) (fun _ => zt_getR zfr_X12_43 zfd_57_14 dX12_earlier_36 rfl) ?_
        refine zx_lift (pc' := 40) (fun _ => zq_iconst (v := 4) dX12_earlier_39 rfl rfl) ?_
        refine zx_lift (pc' := 41) (fun _ => zq_iload_n rfl rfl dX12_earlier_40 rfl) ?_
        refine zx_lift (pc' := 42) (fun _ => zq_imul dX12_earlier_41 rfl) ?_
        refine zx_lift (pc' := 43) (fun _ => zq_iload_n rfl rfl dX12_earlier_42 rfl) ?_
        refine zx_lift (pc' := 44) (fun _ => zq_iadd dX12_earlier_43 rfl) ?_
        refine zx_lift (pc' := 45) (fun _ => zq_iload_n rfl rfl dX12_earlier_44 rfl) ?_
        refine zx_zastore (pc' := 46) zsh_69 dX12_earlier_45 rfl (fun s6 => ?_)
        refine zx_lift (pc' := 47) (fun _ => zq_aload_n rfl rfl dX12_earlier_46 rfl) ?_
        refine zx_cVi (pc' := 50) zcv_X12_137 (cX12_findMust_mc N s6) zob_57 rfl (by decide) (Nat.le_of_ble_eq_true rfl) dX12_earlier_47 rfl rfl (fun r7 s8 => ?_)
        refine zx_if_ne (pc' := 53) (tgt := 82) dX12_earlier_50 rfl rfl (fun hc => ?_) (fun hc => ?_)
        · refine zx_lift (pc' := 84) (fun _ => zq_iload rfl dX12_earlier_82 rfl) ?_
          refine zx_tern (pcJ := 92) (lsJ := fun x9 => [.null, .null, .null, .null, .null]) (stJ := fun x9 => [.int x9]) (fun x9 => ?_) (fun f hJ => ?_)
          rotate_left
          · refine zx_lif_eq (pc' := 87) (tgt := 91) dX12_earlier_84 rfl rfl (fun _ => ?_) (fun _ => ?_)
            · refine zx_lift (pc' := 92) (fun _ => zq_iconst (v := 0) dX12_earlier_91 rfl rfl) ?_
              exact zx_lessJ (zq_cz (zq_cz (zq_cz (zq_cz (zq_cz zq_cn))))) (hJ _)
            · refine zx_lift (pc' := 88) (fun _ => zq_iconst (v := 1) dX12_earlier_87 rfl rfl) ?_
              refine zx_lift (pc' := 92) (fun _ => zq_goto dX12_earlier_88 rfl) ?_
              exact zx_lessJ (zq_cz (zq_cz (zq_cz (zq_cz (zq_cz zq_cn))))) (hJ _)
          exact zx_iret rfl dX12_earlier_92
        · refine zx_lift (pc' := 54) (fun _ => zq_aload_n rfl rfl dX12_earlier_53 rfl) ?_
          refine zx_lift (pc' := 57) (fun _ => zt_getR zfr_X12_43 zfd_57_14 dX12_earlier_54 rfl) ?_
          refine zx_lift (pc' := 58) (fun _ => zq_iconst (v := 4) dX12_earlier_57 rfl rfl) ?_
          refine zx_lift (pc' := 59) (fun _ => zq_iload_n rfl rfl dX12_earlier_58 rfl) ?_
          refine zx_lift (pc' := 60) (fun _ => zq_imul dX12_earlier_59 rfl) ?_
          refine zx_lift (pc' := 61) (fun _ => zq_iload_n rfl rfl dX12_earlier_60 rfl) ?_
          refine zx_lift (pc' := 62) (fun _ => zq_iadd dX12_earlier_61 rfl) ?_
          refine zx_lift (pc' := 64) (fun _ => zq_iload rfl dX12_earlier_62 rfl) ?_
          refine zx_zastore (pc' := 65) zsh_69 dX12_earlier_64 rfl (fun s10 => ?_)
          refine zx_lift (pc' := 66) (fun _ => zq_aload_n rfl rfl dX12_earlier_65 rfl) ?_
          refine zx_cVi (pc' := 69) zcv_X12_137 (cX12_findMust_mc N s10) zob_57 rfl (by decide) (Nat.le_of_ble_eq_true rfl) dX12_earlier_66 rfl rfl (fun r11 s12 => ?_)
          refine zx_tern (pcJ := 81) (lsJ := fun x13 => [.null, .null, .null, .null, .null]) (stJ := fun x13 => [.int x13]) (fun x13 => ?_) (fun f hJ => ?_)
          rotate_left
          · refine zx_lif_eq (pc' := 72) (tgt := 78) dX12_earlier_69 rfl rfl (fun _ => ?_) (fun _ => ?_)
            · refine zx_lift (pc' := 81) (fun _ => zq_sipush (v := (-1001)) dX12_earlier_78 rfl rfl) ?_
              exact zx_lessJ (zq_cz (zq_cz (zq_cz (zq_cz (zq_cz zq_cn))))) (hJ _)
            · refine zx_lift (pc' := 75) (fun _ => zq_sipush (v := (-1003)) dX12_earlier_72 rfl rfl) ?_
              refine zx_lift (pc' := 81) (fun _ => zq_goto dX12_earlier_75 rfl) ?_
              exact zx_lessJ (zq_cz (zq_cz (zq_cz (zq_cz (zq_cz zq_cn))))) (hJ _)
          exact zx_iret rfl dX12_earlier_81
      · refine zx_less [.null, .null, .null, .null, .null] (zq_cz (zq_cz (zq_cz (zq_cz (zq_cz zq_cn))))) ?_
        exact xX12_earlier_j19_j N s4
theorem cX12_earlier_mc (N : Nat)  (p1 : Int32) (p2 : Int32) (p3 : Int32) (s : zq_S) (v : Int32 × zq_S) (h : mX12_earlier N p1 p2 p3 s = some v) : zq_MC yX12_earlier cX12_earlier 5 (some .int) ⟨2, 0, 0, 45⟩ 0 0 [.ref 57, .int p1, .int p2, .int p3] (zq_en s) (zv_i v.1, zq_en v.2) := zq_MC_x [.ref 57, .int p1, .int p2, .int p3, .null] (by decide +kernel) rfl rfl (Nat.le_of_ble_eq_true rfl) (xX12_earlier N p1 p2 p3 s) h
def mX12_fault (N : Nat)   (s : zq_S) : Option (Int32 × zq_S) :=
  some ((zgf s 57 17), s)
set_option maxRecDepth 20000 in
set_option maxHeartbeats 2000000 in
theorem xX12_fault (N : Nat)   (s : zq_S) : zq_X yX12_fault RX12 cX12_fault 1 (some .int) ⟨0, 0, 0, 0⟩ zv_i 0 [.ref 57] [] s (mX12_fault N s) := by
  unfold mX12_fault
  refine zx_lift (pc' := 1) (fun _ => zq_aload_n rfl rfl dX12_fault_0 rfl) ?_
  refine zx_lift (pc' := 4) (fun _ => zt_getI zfr_X12_50 zfd_57_17 dX12_fault_1 rfl) ?_
  exact zx_iret rfl dX12_fault_4
theorem cX12_fault_mc (N : Nat)   (s : zq_S) (v : Int32 × zq_S) (h : mX12_fault N s = some v) : zq_MC yX12_fault cX12_fault 1 (some .int) ⟨0, 0, 0, 0⟩ 0 0 [.ref 57] (zq_en s) (zv_i v.1, zq_en v.2) := zq_MC_x [.ref 57] (by decide +kernel) rfl rfl (Nat.le_of_ble_eq_true rfl) (xX12_fault N s) h
def bX12_feed_37 (N : Nat)  (f2 : Int64)  (self : Int32 × zq_S → Option (Int32 × zq_S)) (v : Int32 × zq_S) : Option (Int32 × zq_S) :=
  if v.1 < (0 : Int32) then
  some ((zgf v.2 57 16), v.2)
  else
  zq_ck (zgf v.2 57 16) 400 (
  zq_let (zpa v.2 70 (zgf v.2 57 16) (Int64.toInt32 ((f2 >>> (Int32.toInt64 ((8 : Int32) * v.1) &&& 63)) &&& (255 : Int64)))) (fun s4 =>
  zq_let (zpf s4 57 16 ((zgf s4 57 16) + (1 : Int32))) (fun s5 =>
  zq_let (v.1 + (-1 : Int32)) (fun x6 =>
  self (x6, s5)))))
set_option maxRecDepth 20000 in
set_option maxHeartbeats 2000000 in
theorem xX12_feed_37 (N : Nat)  (f2 : Int64)  (self : Int32 × zq_S → Option (Int32 × zq_S)) (hself : ∀ v, zq_X yX12_feed RX12 cX12_feed 5 (some .int) ⟨1, 0, 0, 25⟩ zv_i 37 [.ref 57, .null, .long f2, .null, .int v.1] [] v.2 (self v)) (v : Int32 × zq_S) : zq_X yX12_feed RX12 cX12_feed 5 (some .int) ⟨1, 0, 0, 25⟩ zv_i 37 [.ref 57, .null, .long f2, .null, .int v.1] [] v.2 (bX12_feed_37 N f2 self v) := by
  unfold bX12_feed_37
  refine zx_lift (pc' := 39) (fun _ => zq_iload rfl dX12_feed_37 rfl) ?_
  refine zx_if_lt (pc' := 42) (tgt := 79) dX12_feed_39 rfl rfl (fun hc => ?_) (fun hc => ?_)
  · refine zx_lift (pc' := 80) (fun _ => zq_aload_n rfl rfl dX12_feed_79 rfl) ?_
    refine zx_lift (pc' := 83) (fun _ => zt_getI zfr_X12_154 zfd_57_16 dX12_feed_80 rfl) ?_
    exact zx_iret rfl dX12_feed_83
  · refine zx_lift (pc' := 43) (fun _ => zq_aload_n rfl rfl dX12_feed_42 rfl) ?_
    refine zx_lift (pc' := 46) (fun _ => zt_getR zfr_X12_47 zfd_57_15 dX12_feed_43 rfl) ?_
    refine zx_lift (pc' := 47) (fun _ => zq_aload_n rfl rfl dX12_feed_46 rfl) ?_
    refine zx_lift (pc' := 50) (fun _ => zt_getI zfr_X12_154 zfd_57_16 dX12_feed_47 rfl) ?_
    refine zx_lift (pc' := 51) (fun _ => zq_lload_n rfl rfl dX12_feed_50 rfl) ?_
    refine zx_lift (pc' := 53) (fun _ => zq_bipush (v := 8) dX12_feed_51 rfl rfl) ?_
    refine zx_lift (pc' := 55) (fun _ => zq_iload rfl dX12_feed_53 rfl) ?_
    refine zx_lift (pc' := 56) (fun _ => zq_imul dX12_feed_55 rfl) ?_
    refine zx_lift (pc' := 57) (fun _ => zq_lshr dX12_feed_56 rfl) ?_
    refine zx_lift (pc' := 60) (fun _ => zq_ldc2 zk_X12_157 dX12_feed_57 rfl) ?_
    refine zx_lift (pc' := 61) (fun _ => zq_land dX12_feed_60 rfl) ?_
    refine zx_lift (pc' := 62) (fun _ => zq_l2i dX12_feed_61 rfl) ?_
    refine zx_iastore (pc' := 63) zsh_70 dX12_feed_62 rfl (fun s4 => ?_)
    refine zx_lift (pc' := 64) (fun _ => zq_aload_n rfl rfl dX12_feed_63 rfl) ?_
    refine zx_lift (pc' := 65) (fun _ => zq_dup rfl dX12_feed_64 rfl) ?_
    refine zx_lift (pc' := 68) (fun _ => zt_getI zfr_X12_154 zfd_57_16 dX12_feed_65 rfl) ?_
    refine zx_lift (pc' := 69) (fun _ => zq_iconst (v := 1) dX12_feed_68 rfl rfl) ?_
    refine zx_lift (pc' := 70) (fun _ => zq_iadd dX12_feed_69 rfl) ?_
    refine zx_putI (pc' := 73) zfr_X12_154 (fun _ => ⟨rfl, rfl⟩) zfd_57_16 dX12_feed_70 rfl (fun s5 => ?_)
    refine zx_iinc (pc' := 76) (ls' := fun x6 => [.ref 57, .null, .long f2, .null, .int x6]) rfl rfl (by decide) rfl (fun _ => rfl) dX12_feed_73 rfl (fun x6 => ?_)
    refine zx_lift (pc' := 37) (fun _ => zq_goto dX12_feed_76 rfl) ?_
    exact hself (x6, s5)
theorem yX12_feed_37 (N : Nat)  (f2 : Int64)  (n : Nat) : ∀ v : Int32 × zq_S, zq_X yX12_feed RX12 cX12_feed 5 (some .int) ⟨1, 0, 0, 25⟩ zv_i 37 [.ref 57, .null, .long f2, .null, .int v.1] [] v.2 (zq_loop (bX12_feed_37 N f2 ) n v) := by
  induction n with
  | zero => exact fun v u hu => by cases hu
  | succ n ih =>
    intro v
    rw [zq_loop_s]
    exact xX12_feed_37 N f2  (zq_loop (bX12_feed_37 N f2 ) n) ih v
def mX12_feed (N : Nat)  (p1 : Int32) (p2 : Int64) (s : zq_S) : Option (Int32 × zq_S) :=
  zq_b2 (mX12_in N (Int32.toInt64 p1) (1 : Int64) (8 : Int64) s) (fun r1 s2 =>
  if r1 = (0 : Int32) then
  some ((-1002 : Int32), s2)
  else
  if ((zgf s2 57 16) + p1) ≤ (400 : Int32) then
  zq_let (p1 - (1 : Int32)) (fun x3 =>
  zq_loop (bX12_feed_37 N p2 ) N (x3, s2))
  else
  some ((-1004 : Int32), s2))
set_option maxRecDepth 20000 in
set_option maxHeartbeats 2000000 in
theorem xX12_feed (N : Nat)  (p1 : Int32) (p2 : Int64) (s : zq_S) : zq_X yX12_feed RX12 cX12_feed 5 (some .int) ⟨1, 0, 0, 25⟩ zv_i 0 [.ref 57, .int p1, .long p2, .null, .null] [] s (mX12_feed N p1 p2 s) := by
  unfold mX12_feed
  refine zx_lift (pc' := 1) (fun _ => zq_iload_n rfl rfl dX12_feed_0 rfl) ?_
  refine zx_lift (pc' := 2) (fun _ => zq_i2l dX12_feed_1 rfl) ?_
  refine zx_lift (pc' := 3) (fun _ => zq_lconst (v := 1) dX12_feed_2 rfl rfl) ?_
  refine zx_lift (pc' := 6) (fun _ => zq_ldc2 zk_X12_152 dX12_feed_3 rfl) ?_
  refine zx_cSi (pc' := 9) zcs_X12_144 (cX12_in_mc N (Int32.toInt64 p1) (1 : Int64) (8 : Int64) s) rfl (by decide) (Nat.le_of_ble_eq_true rfl) dX12_feed_6 rfl rfl (fun r1 s2 => ?_)
  refine zx_if_ne (pc' := 12) (tgt := 16) dX12_feed_9 rfl rfl (fun hc => ?_) (fun hc => ?_)
  · refine zx_lift (pc' := 17) (fun _ => zq_aload_n rfl rfl dX12_feed_16 rfl) ?_
    refine zx_lift (pc' := 20) (fun _ => zt_getI zfr_X12_154 zfd_57_16 dX12_feed_17 rfl) ?_
    refine zx_lift (pc' := 21) (fun _ => zq_iload_n rfl rfl dX12_feed_20 rfl) ?_
    refine zx_lift (pc' := 22) (fun _ => zq_iadd dX12_feed_21 rfl) ?_
    refine zx_lift (pc' := 25) (fun _ => zq_sipush (v := 400) dX12_feed_22 rfl rfl) ?_
    refine zx_icmp_le (pc' := 28) (tgt := 32) dX12_feed_25 rfl rfl (fun hc => ?_) (fun hc => ?_)
    · refine zx_lift (pc' := 33) (fun _ => zq_iload_n rfl rfl dX12_feed_32 rfl) ?_
      refine zx_lift (pc' := 34) (fun _ => zq_iconst (v := 1) dX12_feed_33 rfl rfl) ?_
      refine zx_lift (pc' := 35) (fun _ => zq_isub dX12_feed_34 rfl) ?_
      refine zx_istore (pc' := 37) (ls' := fun x3 => [.ref 57, .int p1, .long p2, .null, .int x3]) (by decide) rfl (fun _ => rfl) dX12_feed_35 rfl (fun x3 => ?_)
      refine zx_less [.ref 57, .null, .long p2, .null, .int x3] (zq_cr (zq_cz (zq_cr (zq_cz (zq_cr zq_cn))))) ?_
      refine yX12_feed_37 N p2  N (x3, s2)
    · refine zx_lift (pc' := 31) (fun _ => zq_sipush (v := (-1004)) dX12_feed_28 rfl rfl) ?_
      exact zx_iret rfl dX12_feed_31
  · refine zx_lift (pc' := 15) (fun _ => zq_sipush (v := (-1002)) dX12_feed_12 rfl rfl) ?_
    exact zx_iret rfl dX12_feed_15
theorem cX12_feed_mc (N : Nat)  (p1 : Int32) (p2 : Int64) (s : zq_S) (v : Int32 × zq_S) (h : mX12_feed N p1 p2 s = some v) : zq_MC yX12_feed cX12_feed 5 (some .int) ⟨1, 0, 0, 25⟩ 0 0 [.ref 57, .int p1, .long p2] (zq_en s) (zv_i v.1, zq_en v.2) := zq_MC_x [.ref 57, .int p1, .long p2, .null, .null] (by decide +kernel) rfl rfl (Nat.le_of_ble_eq_true rfl) (xX12_feed N p1 p2 s) h
def jX12_good_j35 (N : Nat)  (f1 : Int32)  (self : Int32 × Int32 × zq_S → Option (Int32 × zq_S)) (w2 : Int32) (w3 : Int32) (s : zq_S) : Option (Int32 × zq_S) :=
  zq_let (w3 + (1 : Int32)) (fun x6 =>
  self (w2, x6, s))
set_option maxRecDepth 20000 in
set_option maxHeartbeats 2000000 in
theorem xX12_good_j35_j (N : Nat)  (f1 : Int32)  (self : Int32 × Int32 × zq_S → Option (Int32 × zq_S)) (hself : ∀ v, zq_X yX12_good RX12 cX12_good 4 (some .int) ⟨2, 0, 0, 44⟩ zv_i 8 [.ref 57, .int f1, .int v.1, .int v.2.1] [] v.2.2 (self v)) (w2 : Int32) (w3 : Int32) (s : zq_S) : zq_X yX12_good RX12 cX12_good 4 (some .int) ⟨2, 0, 0, 44⟩ zv_i 35 [.ref 57, .int f1, .int w2, .int w3] [] s (jX12_good_j35 N f1 self w2 w3 s) := by
  unfold jX12_good_j35
  refine zx_iinc (pc' := 38) (ls' := fun x6 => [.ref 57, .int f1, .int w2, .int x6]) rfl rfl (by decide) rfl (fun _ => rfl) dX12_good_35 rfl (fun x6 => ?_)
  refine zx_lift (pc' := 8) (fun _ => zq_goto dX12_good_38 rfl) ?_
  exact hself (w2, x6, s)
def bX12_good_8 (N : Nat)  (f1 : Int32)  (self : Int32 × Int32 × zq_S → Option (Int32 × zq_S)) (v : Int32 × Int32 × zq_S) : Option (Int32 × zq_S) :=
  zq_b2 (mX12_all N v.2.2) (fun r3 s4 =>
  if r3 < v.2.1 then
  zq_let (if f1 = (-1 : Int32) then v.1 else (-1 : Int32)) (fun x5 =>
  some (x5, s4))
  else
  zq_ck v.2.1 1024 (
  if (zga s4 78 v.2.1) = (0 : Int32) then
  jX12_good_j35 N f1 self v.1 v.2.1 s4
  else
  if v.1 = f1 then
  some (v.2.1, s4)
  else
  zq_let (v.1 + (1 : Int32)) (fun x7 =>
  jX12_good_j35 N f1 self x7 v.2.1 s4)))
set_option maxRecDepth 20000 in
set_option maxHeartbeats 2000000 in
theorem xX12_good_8 (N : Nat)  (f1 : Int32)  (self : Int32 × Int32 × zq_S → Option (Int32 × zq_S)) (hself : ∀ v, zq_X yX12_good RX12 cX12_good 4 (some .int) ⟨2, 0, 0, 44⟩ zv_i 8 [.ref 57, .int f1, .int v.1, .int v.2.1] [] v.2.2 (self v)) (v : Int32 × Int32 × zq_S) : zq_X yX12_good RX12 cX12_good 4 (some .int) ⟨2, 0, 0, 44⟩ zv_i 8 [.ref 57, .int f1, .int v.1, .int v.2.1] [] v.2.2 (bX12_good_8 N f1 self v) := by
  unfold bX12_good_8
  refine zx_lift (pc' := 9) (fun _ => zq_iload_n rfl rfl dX12_good_8 rfl) ?_
  refine zx_lift (pc' := 10) (fun _ => zq_aload_n rfl rfl dX12_good_9 rfl) ?_
  refine zx_cVi (pc' := 13) zcv_X12_148 (cX12_all_mc N v.2.2) zob_57 rfl (by decide) (Nat.le_of_ble_eq_true rfl) dX12_good_10 rfl rfl (fun r3 s4 => ?_)
  refine zx_icmp_gt (pc' := 16) (tgt := 41) dX12_good_13 rfl rfl (fun hc => ?_) (fun hc => ?_)
  · refine zx_lift (pc' := 42) (fun _ => zq_iload_n rfl rfl dX12_good_41 rfl) ?_
    refine zx_lift (pc' := 43) (fun _ => zq_iconst (v := (-1)) dX12_good_42 rfl rfl) ?_
    refine zx_tern (pcJ := 51) (lsJ := fun x5 => [.null, .null, .null, .null]) (stJ := fun x5 => [.int x5]) (fun x5 => ?_) (fun f hJ => ?_)
    rotate_left
    · refine zx_licmp_ne (pc' := 46) (tgt := 50) dX12_good_43 rfl rfl (fun _ => ?_) (fun _ => ?_)
      · refine zx_lift (pc' := 51) (fun _ => zq_iconst (v := (-1)) dX12_good_50 rfl rfl) ?_
        exact zx_lessJ (zq_cz (zq_cz (zq_cz (zq_cz zq_cn)))) (hJ _)
      · refine zx_lift (pc' := 47) (fun _ => zq_iload_n rfl rfl dX12_good_46 rfl) ?_
        refine zx_lift (pc' := 51) (fun _ => zq_goto dX12_good_47 rfl) ?_
        exact zx_lessJ (zq_cz (zq_cz (zq_cz (zq_cz zq_cn)))) (hJ _)
    exact zx_iret rfl dX12_good_51
  · refine zx_lift (pc' := 17) (fun _ => zq_aload_n rfl rfl dX12_good_16 rfl) ?_
    refine zx_lift (pc' := 20) (fun _ => zt_getR zfr_X12_75 zfd_57_38 dX12_good_17 rfl) ?_
    refine zx_lift (pc' := 21) (fun _ => zq_iload_n rfl rfl dX12_good_20 rfl) ?_
    refine zx_zaload (pc' := 22) zsh_78 dX12_good_21 rfl ?_
    refine zx_if_eq (pc' := 25) (tgt := 35) dX12_good_22 rfl rfl (fun hc => ?_) (fun hc => ?_)
    · exact xX12_good_j35_j N f1 self hself v.1 v.2.1 s4
    · refine zx_lift (pc' := 26) (fun _ => zq_iload_n rfl rfl dX12_good_25 rfl) ?_
      refine zx_lift (pc' := 27) (fun _ => zq_iload_n rfl rfl dX12_good_26 rfl) ?_
      refine zx_icmp_ne (pc' := 30) (tgt := 32) dX12_good_27 rfl rfl (fun hc => ?_) (fun hc => ?_)
      · refine zx_iinc (pc' := 35) (ls' := fun x7 => [.ref 57, .int f1, .int x7, .int v.2.1]) rfl rfl (by decide) rfl (fun _ => rfl) dX12_good_32 rfl (fun x7 => ?_)
        exact xX12_good_j35_j N f1 self hself x7 v.2.1 s4
      · refine zx_lift (pc' := 31) (fun _ => zq_iload_n rfl rfl dX12_good_30 rfl) ?_
        exact zx_iret rfl dX12_good_31
theorem yX12_good_8 (N : Nat)  (f1 : Int32)  (n : Nat) : ∀ v : Int32 × Int32 × zq_S, zq_X yX12_good RX12 cX12_good 4 (some .int) ⟨2, 0, 0, 44⟩ zv_i 8 [.ref 57, .int f1, .int v.1, .int v.2.1] [] v.2.2 (zq_loop (bX12_good_8 N f1 ) n v) := by
  induction n with
  | zero => exact fun v u hu => by cases hu
  | succ n ih =>
    intro v
    rw [zq_loop_s]
    exact xX12_good_8 N f1  (zq_loop (bX12_good_8 N f1 ) n) ih v
def mX12_good (N : Nat)  (p1 : Int32) (s : zq_S) : Option (Int32 × zq_S) :=
  zq_b2 (mX12_find N s) (fun r1 s2 =>
  zq_loop (bX12_good_8 N p1 ) N ((0 : Int32), (0 : Int32), s2))
set_option maxRecDepth 20000 in
set_option maxHeartbeats 2000000 in
theorem xX12_good (N : Nat)  (p1 : Int32) (s : zq_S) : zq_X yX12_good RX12 cX12_good 4 (some .int) ⟨2, 0, 0, 44⟩ zv_i 0 [.ref 57, .int p1, .null, .null] [] s (mX12_good N p1 s) := by
  unfold mX12_good
  refine zx_lift (pc' := 1) (fun _ => zq_aload_n rfl rfl dX12_good_0 rfl) ?_
  refine zx_cVv (pc' := 4) zcv_X12_307 (cX12_find_mc N s) zob_57 rfl (by decide) (Nat.le_of_ble_eq_true rfl) dX12_good_1 rfl rfl (fun r1 s2 => ?_)
  refine zx_lift (pc' := 5) (fun _ => zq_iconst (v := 0) dX12_good_4 rfl rfl) ?_
  refine zx_lift (pc' := 6) (fun _ => zq_istore_n (ls' := [.ref 57, .int p1, .int (0 : Int32), .null]) rfl (by decide) rfl rfl dX12_good_5 rfl) ?_
  refine zx_lift (pc' := 7) (fun _ => zq_iconst (v := 0) dX12_good_6 rfl rfl) ?_
  refine zx_lift (pc' := 8) (fun _ => zq_istore_n (ls' := [.ref 57, .int p1, .int (0 : Int32), .int (0 : Int32)]) rfl (by decide) rfl rfl dX12_good_7 rfl) ?_
  refine yX12_good_8 N p1  N ((0 : Int32), (0 : Int32), s2)
theorem cX12_good_mc (N : Nat)  (p1 : Int32) (s : zq_S) (v : Int32 × zq_S) (h : mX12_good N p1 s = some v) : zq_MC yX12_good cX12_good 4 (some .int) ⟨2, 0, 0, 44⟩ 0 0 [.ref 57, .int p1] (zq_en s) (zv_i v.1, zq_en v.2) := zq_MC_x [.ref 57, .int p1, .null, .null] (by decide +kernel) rfl rfl (Nat.le_of_ble_eq_true rfl) (xX12_good N p1 s) h
def bX12_isTime_33 (N : Nat)  (f1 : Int32) (f2 : Int32) (k87 : Int32 × zq_S → Option (Int32 × zq_S)) (self : Int32 × Int32 × zq_S → Option (Int32 × zq_S)) (v : Int32 × Int32 × zq_S) : Option (Int32 × zq_S) :=
  zq_ck f1 4 (
  if (zga v.2.2 92 f1) ≤ v.2.1 then
  k87 (v.1, v.2.2)
  else
  if v.1 = (0 : Int32) then
  k87 (v.1, v.2.2)
  else
  zq_ck (((40 : Int32) * f2) + v.2.1) 40960 (
  zq_ck (((40 : Int32) * f1) + v.2.1) 160 (
  zq_let (if (zga v.2.2 85 (((40 : Int32) * f2) + v.2.1)) = (zga v.2.2 93 (((40 : Int32) * f1) + v.2.1)) then (1 : Int32) else (0 : Int32)) (fun x1 =>
  zq_let (v.2.1 + (1 : Int32)) (fun x2 =>
  self (x1, x2, v.2.2))))))
set_option maxRecDepth 20000 in
set_option maxHeartbeats 2000000 in
theorem xX12_isTime_33 (N : Nat)  (f1 : Int32) (f2 : Int32) (k87 : Int32 × zq_S → Option (Int32 × zq_S)) (hk87 : ∀ e, zq_X yX12_isTime RX12 cX12_isTime 5 (some .boolean) ⟨0, 0, 0, 0⟩ zv_i 87 [.null, .null, .null, .int e.1, .null] [] e.2 (k87 e)) (self : Int32 × Int32 × zq_S → Option (Int32 × zq_S)) (hself : ∀ v, zq_X yX12_isTime RX12 cX12_isTime 5 (some .boolean) ⟨0, 0, 0, 0⟩ zv_i 33 [.ref 57, .int f1, .int f2, .int v.1, .int v.2.1] [] v.2.2 (self v)) (v : Int32 × Int32 × zq_S) : zq_X yX12_isTime RX12 cX12_isTime 5 (some .boolean) ⟨0, 0, 0, 0⟩ zv_i 33 [.ref 57, .int f1, .int f2, .int v.1, .int v.2.1] [] v.2.2 (bX12_isTime_33 N f1 f2 k87 self v) := by
  unfold bX12_isTime_33
  refine zx_lift (pc' := 35) (fun _ => zq_iload rfl dX12_isTime_33 rfl) ?_
  refine zx_lift (pc' := 36) (fun _ => zq_aload_n rfl rfl dX12_isTime_35 rfl) ?_
  refine zx_lift (pc' := 39) (fun _ => zt_getR zfr_X12_119 zfd_57_55 dX12_isTime_36 rfl) ?_
  refine zx_lift (pc' := 40) (fun _ => zq_iload_n rfl rfl dX12_isTime_39 rfl) ?_
  refine zx_iaload (pc' := 41) zsh_92 dX12_isTime_40 rfl ?_
  refine zx_icmp_ge (pc' := 44) (tgt := 87) dX12_isTime_41 rfl rfl (fun hc => ?_) (fun hc => ?_)
  · refine zx_less [.null, .null, .null, .int v.1, .null] (zq_cz (zq_cz (zq_cz (zq_cr (zq_cz zq_cn))))) ?_
    exact hk87 (v.1, v.2.2)
  · refine zx_lift (pc' := 45) (fun _ => zq_iload_n rfl rfl dX12_isTime_44 rfl) ?_
    refine zx_if_eq (pc' := 48) (tgt := 87) dX12_isTime_45 rfl rfl (fun hc => ?_) (fun hc => ?_)
    · refine zx_less [.null, .null, .null, .int v.1, .null] (zq_cz (zq_cz (zq_cz (zq_cr (zq_cz zq_cn))))) ?_
      exact hk87 (v.1, v.2.2)
    · refine zx_lift (pc' := 49) (fun _ => zq_aload_n rfl rfl dX12_isTime_48 rfl) ?_
      refine zx_lift (pc' := 52) (fun _ => zt_getR zfr_X12_98 zfd_57_46 dX12_isTime_49 rfl) ?_
      refine zx_lift (pc' := 54) (fun _ => zq_bipush (v := 40) dX12_isTime_52 rfl rfl) ?_
      refine zx_lift (pc' := 55) (fun _ => zq_iload_n rfl rfl dX12_isTime_54 rfl) ?_
      refine zx_lift (pc' := 56) (fun _ => zq_imul dX12_isTime_55 rfl) ?_
      refine zx_lift (pc' := 58) (fun _ => zq_iload rfl dX12_isTime_56 rfl) ?_
      refine zx_lift (pc' := 59) (fun _ => zq_iadd dX12_isTime_58 rfl) ?_
      refine zx_iaload (pc' := 60) zsh_85 dX12_isTime_59 rfl ?_
      refine zx_lift (pc' := 61) (fun _ => zq_aload_n rfl rfl dX12_isTime_60 rfl) ?_
      refine zx_lift (pc' := 64) (fun _ => zt_getR zfr_X12_122 zfd_57_56 dX12_isTime_61 rfl) ?_
      refine zx_lift (pc' := 66) (fun _ => zq_bipush (v := 40) dX12_isTime_64 rfl rfl) ?_
      refine zx_lift (pc' := 67) (fun _ => zq_iload_n rfl rfl dX12_isTime_66 rfl) ?_
      refine zx_lift (pc' := 68) (fun _ => zq_imul dX12_isTime_67 rfl) ?_
      refine zx_lift (pc' := 70) (fun _ => zq_iload rfl dX12_isTime_68 rfl) ?_
      refine zx_lift (pc' := 71) (fun _ => zq_iadd dX12_isTime_70 rfl) ?_
      refine zx_iaload (pc' := 72) zsh_93 dX12_isTime_71 rfl ?_
      refine zx_tern (pcJ := 80) (lsJ := fun x1 => [.ref 57, .int f1, .int f2, .null, .int v.2.1]) (stJ := fun x1 => [.int x1]) (fun x1 => ?_) (fun f hJ => ?_)
      rotate_left
      · refine zx_licmp_ne (pc' := 75) (tgt := 79) dX12_isTime_72 rfl rfl (fun _ => ?_) (fun _ => ?_)
        · refine zx_lift (pc' := 80) (fun _ => zq_iconst (v := 0) dX12_isTime_79 rfl rfl) ?_
          exact zx_lessJ (zq_cr (zq_cr (zq_cr (zq_cz (zq_cr zq_cn))))) (hJ _)
        · refine zx_lift (pc' := 76) (fun _ => zq_iconst (v := 1) dX12_isTime_75 rfl rfl) ?_
          refine zx_lift (pc' := 80) (fun _ => zq_goto dX12_isTime_76 rfl) ?_
          exact zx_lessJ (zq_cr (zq_cr (zq_cr (zq_cz (zq_cr zq_cn))))) (hJ _)
      refine zx_lift (pc' := 81) (fun _ => zq_istore_n (ls' := [.ref 57, .int f1, .int f2, .int x1, .int v.2.1]) rfl (by decide) rfl rfl dX12_isTime_80 rfl) ?_
      refine zx_iinc (pc' := 84) (ls' := fun x2 => [.ref 57, .int f1, .int f2, .int x1, .int x2]) rfl rfl (by decide) rfl (fun _ => rfl) dX12_isTime_81 rfl (fun x2 => ?_)
      refine zx_lift (pc' := 33) (fun _ => zq_goto dX12_isTime_84 rfl) ?_
      exact hself (x1, x2, v.2.2)
theorem yX12_isTime_33 (N : Nat)  (f1 : Int32) (f2 : Int32) (k87 : Int32 × zq_S → Option (Int32 × zq_S)) (hk87 : ∀ e, zq_X yX12_isTime RX12 cX12_isTime 5 (some .boolean) ⟨0, 0, 0, 0⟩ zv_i 87 [.null, .null, .null, .int e.1, .null] [] e.2 (k87 e)) (n : Nat) : ∀ v : Int32 × Int32 × zq_S, zq_X yX12_isTime RX12 cX12_isTime 5 (some .boolean) ⟨0, 0, 0, 0⟩ zv_i 33 [.ref 57, .int f1, .int f2, .int v.1, .int v.2.1] [] v.2.2 (zq_loop (bX12_isTime_33 N f1 f2 k87) n v) := by
  induction n with
  | zero => exact fun v u hu => by cases hu
  | succ n ih =>
    intro v
    rw [zq_loop_s]
    exact xX12_isTime_33 N f1 f2 k87 hk87 (zq_loop (bX12_isTime_33 N f1 f2 k87) n) ih v
def jX12_isTime_j87 (N : Nat)   (w3 : Int32) (s : zq_S) : Option (Int32 × zq_S) :=
  zq_bz w3 (some (w3, s))
set_option maxRecDepth 20000 in
set_option maxHeartbeats 2000000 in
theorem xX12_isTime_j87_j (N : Nat)   (w3 : Int32) (s : zq_S) : zq_X yX12_isTime RX12 cX12_isTime 5 (some .boolean) ⟨0, 0, 0, 0⟩ zv_i 87 [.null, .null, .null, .int w3, .null] [] s (jX12_isTime_j87 N w3 s) := by
  unfold jX12_isTime_j87
  refine zx_lift (pc' := 88) (fun _ => zq_iload_n rfl rfl dX12_isTime_87 rfl) ?_
  exact zx_zretg rfl dX12_isTime_88
def jX12_isTime_j29 (N : Nat)   (w1 : Int32) (w2 : Int32) (t0 : Int32) (s : zq_S) : Option (Int32 × zq_S) :=
  zq_loop (bX12_isTime_33 N w1 w2 (fun e3 =>
  jX12_isTime_j87 N e3.1 e3.2)) N (t0, (0 : Int32), s)
set_option maxRecDepth 20000 in
set_option maxHeartbeats 2000000 in
theorem xX12_isTime_j29_j (N : Nat)   (w1 : Int32) (w2 : Int32) (t0 : Int32) (s : zq_S) : zq_X yX12_isTime RX12 cX12_isTime 5 (some .boolean) ⟨0, 0, 0, 0⟩ zv_i 29 [.ref 57, .int w1, .int w2, .null, .null] [.int t0] s (jX12_isTime_j29 N w1 w2 t0 s) := by
  unfold jX12_isTime_j29
  refine zx_lift (pc' := 30) (fun _ => zq_istore_n (ls' := [.ref 57, .int w1, .int w2, .int t0, .null]) rfl (by decide) rfl rfl dX12_isTime_29 rfl) ?_
  refine zx_lift (pc' := 31) (fun _ => zq_iconst (v := 0) dX12_isTime_30 rfl rfl) ?_
  refine zx_lift (pc' := 33) (fun _ => zq_istore (ls' := [.ref 57, .int w1, .int w2, .int t0, .int (0 : Int32)]) (by decide) rfl rfl dX12_isTime_31 rfl) ?_
  refine yX12_isTime_33 N w1 w2 _ (fun e3 => ?_) N (t0, (0 : Int32), s)
  exact xX12_isTime_j87_j N e3.1 e3.2
def jX12_isTime_j28 (N : Nat)   (w1 : Int32) (w2 : Int32) (s : zq_S) : Option (Int32 × zq_S) :=
  jX12_isTime_j29 N w1 w2 (0 : Int32) s
set_option maxRecDepth 20000 in
set_option maxHeartbeats 2000000 in
theorem xX12_isTime_j28_j (N : Nat)   (w1 : Int32) (w2 : Int32) (s : zq_S) : zq_X yX12_isTime RX12 cX12_isTime 5 (some .boolean) ⟨0, 0, 0, 0⟩ zv_i 28 [.ref 57, .int w1, .int w2, .null, .null] [] s (jX12_isTime_j28 N w1 w2 s) := by
  unfold jX12_isTime_j28
  refine zx_lift (pc' := 29) (fun _ => zq_iconst (v := 0) dX12_isTime_28 rfl rfl) ?_
  exact xX12_isTime_j29_j N w1 w2 (0 : Int32) s
def mX12_isTime (N : Nat)  (p1 : Int32) (p2 : Int32) (s : zq_S) : Option (Int32 × zq_S) :=
  zq_ck p2 1024 (
  if (zga s 78 p2) = (0 : Int32) then
  jX12_isTime_j28 N p1 p2 s
  else
  zq_ck p2 1024 (
  zq_ck p1 4 (
  if (zga s 84 p2) = (zga s 92 p1) then
  jX12_isTime_j29 N p1 p2 (1 : Int32) s
  else
  jX12_isTime_j28 N p1 p2 s)))
set_option maxRecDepth 20000 in
set_option maxHeartbeats 2000000 in
theorem xX12_isTime (N : Nat)  (p1 : Int32) (p2 : Int32) (s : zq_S) : zq_X yX12_isTime RX12 cX12_isTime 5 (some .boolean) ⟨0, 0, 0, 0⟩ zv_i 0 [.ref 57, .int p1, .int p2, .null, .null] [] s (mX12_isTime N p1 p2 s) := by
  unfold mX12_isTime
  refine zx_lift (pc' := 1) (fun _ => zq_aload_n rfl rfl dX12_isTime_0 rfl) ?_
  refine zx_lift (pc' := 4) (fun _ => zt_getR zfr_X12_75 zfd_57_38 dX12_isTime_1 rfl) ?_
  refine zx_lift (pc' := 5) (fun _ => zq_iload_n rfl rfl dX12_isTime_4 rfl) ?_
  refine zx_zaload (pc' := 6) zsh_78 dX12_isTime_5 rfl ?_
  refine zx_if_eq (pc' := 9) (tgt := 28) dX12_isTime_6 rfl rfl (fun hc => ?_) (fun hc => ?_)
  · exact xX12_isTime_j28_j N p1 p2 s
  · refine zx_lift (pc' := 10) (fun _ => zq_aload_n rfl rfl dX12_isTime_9 rfl) ?_
    refine zx_lift (pc' := 13) (fun _ => zt_getR zfr_X12_94 zfd_57_45 dX12_isTime_10 rfl) ?_
    refine zx_lift (pc' := 14) (fun _ => zq_iload_n rfl rfl dX12_isTime_13 rfl) ?_
    refine zx_iaload (pc' := 15) zsh_84 dX12_isTime_14 rfl ?_
    refine zx_lift (pc' := 16) (fun _ => zq_aload_n rfl rfl dX12_isTime_15 rfl) ?_
    refine zx_lift (pc' := 19) (fun _ => zt_getR zfr_X12_119 zfd_57_55 dX12_isTime_16 rfl) ?_
    refine zx_lift (pc' := 20) (fun _ => zq_iload_n rfl rfl dX12_isTime_19 rfl) ?_
    refine zx_iaload (pc' := 21) zsh_92 dX12_isTime_20 rfl ?_
    refine zx_icmp_ne (pc' := 24) (tgt := 28) dX12_isTime_21 rfl rfl (fun hc => ?_) (fun hc => ?_)
    · exact xX12_isTime_j28_j N p1 p2 s
    · refine zx_lift (pc' := 25) (fun _ => zq_iconst (v := 1) dX12_isTime_24 rfl rfl) ?_
      refine zx_lift (pc' := 29) (fun _ => zq_goto dX12_isTime_25 rfl) ?_
      exact xX12_isTime_j29_j N p1 p2 (1 : Int32) s
theorem cX12_isTime_mc (N : Nat)  (p1 : Int32) (p2 : Int32) (s : zq_S) (v : Int32 × zq_S) (h : mX12_isTime N p1 p2 s = some v) : zq_MC yX12_isTime cX12_isTime 5 (some .boolean) ⟨0, 0, 0, 0⟩ 0 0 [.ref 57, .int p1, .int p2] (zq_en s) (zv_i v.1, zq_en v.2) := zq_MC_x [.ref 57, .int p1, .int p2, .null, .null] (by decide +kernel) rfl rfl (Nat.le_of_ble_eq_true rfl) (xX12_isTime N p1 p2 s) h
