def bX12_view_27 (N : Nat)  (f1 : Int32) (f2 : Int32) (f3 : Int32) (k66 : Int32 × zq_S → Option (Int32 × zq_S)) (self : Int32 × Int32 × zq_S → Option (Int32 × zq_S)) (v : Int32 × Int32 × zq_S) : Option (Int32 × zq_S) :=
  if f2 ≤ v.2.1 then
  k66 (v.1, v.2.2)
  else
  if v.1 = (0 : Int32) then
  k66 (v.1, v.2.2)
  else
  zq_ck v.2.1 1024 (
  zq_b2 (mX12_areLike N (zga v.2.2 87 v.2.1) f3 v.2.2) (fun r6 s7 =>
  zq_let (if r6 = (0 : Int32) then (1 : Int32) else (0 : Int32)) (fun x8 =>
  zq_let (v.2.1 + (1 : Int32)) (fun x9 =>
  self (x8, x9, s7)))))
set_option maxRecDepth 20000 in
set_option maxHeartbeats 2000000 in
theorem xX12_view_27 (N : Nat)  (f1 : Int32) (f2 : Int32) (f3 : Int32) (k66 : Int32 × zq_S → Option (Int32 × zq_S)) (hk66 : ∀ e, zq_X yX12_view RX12 cX12_view 6 (some .int) ⟨4, 0, 0, 91⟩ zv_i 66 [.ref 57, .int f1, .int f2, .int f3, .int e.1, .null] [] e.2 (k66 e)) (self : Int32 × Int32 × zq_S → Option (Int32 × zq_S)) (hself : ∀ v, zq_X yX12_view RX12 cX12_view 6 (some .int) ⟨4, 0, 0, 91⟩ zv_i 27 [.ref 57, .int f1, .int f2, .int f3, .int v.1, .int v.2.1] [] v.2.2 (self v)) (v : Int32 × Int32 × zq_S) : zq_X yX12_view RX12 cX12_view 6 (some .int) ⟨4, 0, 0, 91⟩ zv_i 27 [.ref 57, .int f1, .int f2, .int f3, .int v.1, .int v.2.1] [] v.2.2 (bX12_view_27 N f1 f2 f3 k66 self v) := by
  unfold bX12_view_27
  refine zx_lift (pc' := 29) (fun _ => zq_iload rfl dX12_view_27 rfl) ?_
  refine zx_lift (pc' := 30) (fun _ => zq_iload_n rfl rfl dX12_view_29 rfl) ?_
  refine zx_icmp_ge (pc' := 33) (tgt := 66) dX12_view_30 rfl rfl (fun hc => ?_) (fun hc => ?_)
  · refine zx_less [.ref 57, .int f1, .int f2, .int f3, .int v.1, .null] (zq_cr (zq_cr (zq_cr (zq_cr (zq_cr (zq_cz zq_cn)))))) ?_
    exact hk66 (v.1, v.2.2)
  · refine zx_lift (pc' := 35) (fun _ => zq_iload rfl dX12_view_33 rfl) ?_
    refine zx_if_eq (pc' := 38) (tgt := 66) dX12_view_35 rfl rfl (fun hc => ?_) (fun hc => ?_)
    · refine zx_less [.ref 57, .int f1, .int f2, .int f3, .int v.1, .null] (zq_cr (zq_cr (zq_cr (zq_cr (zq_cr (zq_cz zq_cn)))))) ?_
      exact hk66 (v.1, v.2.2)
    · refine zx_lift (pc' := 39) (fun _ => zq_aload_n rfl rfl dX12_view_38 rfl) ?_
      refine zx_lift (pc' := 40) (fun _ => zq_aload_n rfl rfl dX12_view_39 rfl) ?_
      refine zx_lift (pc' := 43) (fun _ => zt_getR zfr_X12_104 zfd_57_48 dX12_view_40 rfl) ?_
      refine zx_lift (pc' := 45) (fun _ => zq_iload rfl dX12_view_43 rfl) ?_
      refine zx_iaload (pc' := 46) zsh_87 dX12_view_45 rfl ?_
      refine zx_lift (pc' := 47) (fun _ => zq_iload_n rfl rfl dX12_view_46 rfl) ?_
      refine zx_cVi (pc' := 50) zcv_X12_346 (cX12_areLike_mc N (zga v.2.2 87 v.2.1) f3 v.2.2) zob_57 rfl (by decide) (Nat.le_of_ble_eq_true rfl) dX12_view_47 rfl rfl (fun r6 s7 => ?_)
      refine zx_tern (pcJ := 58) (lsJ := fun x8 => [.ref 57, .int f1, .int f2, .int f3, .null, .int v.2.1]) (stJ := fun x8 => [.int x8]) (fun x8 => ?_) (fun f hJ => ?_)
      rotate_left
      · refine zx_lif_ne (pc' := 53) (tgt := 57) dX12_view_50 rfl rfl (fun _ => ?_) (fun _ => ?_)
        · refine zx_lift (pc' := 58) (fun _ => zq_iconst (v := 0) dX12_view_57 rfl rfl) ?_
          exact zx_lessJ (zq_cr (zq_cr (zq_cr (zq_cr (zq_cz (zq_cr zq_cn)))))) (hJ _)
        · refine zx_lift (pc' := 54) (fun _ => zq_iconst (v := 1) dX12_view_53 rfl rfl) ?_
          refine zx_lift (pc' := 58) (fun _ => zq_goto dX12_view_54 rfl) ?_
          exact zx_lessJ (zq_cr (zq_cr (zq_cr (zq_cr (zq_cz (zq_cr zq_cn)))))) (hJ _)
      refine zx_lift (pc' := 60) (fun _ => zq_istore (ls' := [.ref 57, .int f1, .int f2, .int f3, .int x8, .int v.2.1]) (by decide) rfl rfl dX12_view_58 rfl) ?_
      refine zx_iinc (pc' := 63) (ls' := fun x9 => [.ref 57, .int f1, .int f2, .int f3, .int x8, .int x9]) rfl rfl (by decide) rfl (fun _ => rfl) dX12_view_60 rfl (fun x9 => ?_)
      refine zx_lift (pc' := 27) (fun _ => zq_goto dX12_view_63 rfl) ?_
      exact hself (x8, x9, s7)
theorem yX12_view_27 (N : Nat)  (f1 : Int32) (f2 : Int32) (f3 : Int32) (k66 : Int32 × zq_S → Option (Int32 × zq_S)) (hk66 : ∀ e, zq_X yX12_view RX12 cX12_view 6 (some .int) ⟨4, 0, 0, 91⟩ zv_i 66 [.ref 57, .int f1, .int f2, .int f3, .int e.1, .null] [] e.2 (k66 e)) (n : Nat) : ∀ v : Int32 × Int32 × zq_S, zq_X yX12_view RX12 cX12_view 6 (some .int) ⟨4, 0, 0, 91⟩ zv_i 27 [.ref 57, .int f1, .int f2, .int f3, .int v.1, .int v.2.1] [] v.2.2 (zq_loop (bX12_view_27 N f1 f2 f3 k66) n v) := by
  induction n with
  | zero => exact fun v u hu => by cases hu
  | succ n ih =>
    intro v
    rw [zq_loop_s]
    exact xX12_view_27 N f1 f2 f3 k66 hk66 (zq_loop (bX12_view_27 N f1 f2 f3 k66) n) ih v
def jX12_view_j81 (N : Nat)  (f1 : Int32) (k87 : Int32 × zq_S → Option (Int32 × zq_S)) (self : Int32 × Int32 × zq_S → Option (Int32 × zq_S)) (w2 : Int32) (w3 : Int32) (s : zq_S) : Option (Int32 × zq_S) :=
  zq_let (w3 + (1 : Int32)) (fun x11 =>
  self (w2, x11, s))
set_option maxRecDepth 20000 in
set_option maxHeartbeats 2000000 in
theorem xX12_view_j81_j (N : Nat)  (f1 : Int32) (k87 : Int32 × zq_S → Option (Int32 × zq_S)) (hk87 : ∀ e, zq_X yX12_view RX12 cX12_view 6 (some .int) ⟨4, 0, 0, 91⟩ zv_i 87 [.ref 57, .int f1, .int e.1, .null, .null, .null] [] e.2 (k87 e)) (self : Int32 × Int32 × zq_S → Option (Int32 × zq_S)) (hself : ∀ v, zq_X yX12_view RX12 cX12_view 6 (some .int) ⟨4, 0, 0, 91⟩ zv_i 8 [.ref 57, .int f1, .int v.1, .int v.2.1, .null, .null] [] v.2.2 (self v)) (w2 : Int32) (w3 : Int32) (s : zq_S) : zq_X yX12_view RX12 cX12_view 6 (some .int) ⟨4, 0, 0, 91⟩ zv_i 81 [.ref 57, .int f1, .int w2, .int w3, .null, .null] [] s (jX12_view_j81 N f1 k87 self w2 w3 s) := by
  unfold jX12_view_j81
  refine zx_iinc (pc' := 84) (ls' := fun x11 => [.ref 57, .int f1, .int w2, .int x11, .null, .null]) rfl rfl (by decide) rfl (fun _ => rfl) dX12_view_81 rfl (fun x11 => ?_)
  refine zx_lift (pc' := 8) (fun _ => zq_goto dX12_view_84 rfl) ?_
  exact hself (w2, x11, s)
def jX12_view_j66 (N : Nat)  (f1 : Int32) (k87 : Int32 × zq_S → Option (Int32 × zq_S)) (self : Int32 × Int32 × zq_S → Option (Int32 × zq_S)) (w2 : Int32) (w3 : Int32) (w4 : Int32) (s : zq_S) : Option (Int32 × zq_S) :=
  if w4 = (0 : Int32) then
  jX12_view_j81 N f1 k87 self w2 w3 s
  else
  zq_ck w2 1024 (
  zq_let (zpa s 87 w2 w3) (fun s12 =>
  zq_let (w2 + (1 : Int32)) (fun x13 =>
  jX12_view_j81 N f1 k87 self x13 w3 s12)))
set_option maxRecDepth 20000 in
set_option maxHeartbeats 2000000 in
theorem xX12_view_j66_j (N : Nat)  (f1 : Int32) (k87 : Int32 × zq_S → Option (Int32 × zq_S)) (hk87 : ∀ e, zq_X yX12_view RX12 cX12_view 6 (some .int) ⟨4, 0, 0, 91⟩ zv_i 87 [.ref 57, .int f1, .int e.1, .null, .null, .null] [] e.2 (k87 e)) (self : Int32 × Int32 × zq_S → Option (Int32 × zq_S)) (hself : ∀ v, zq_X yX12_view RX12 cX12_view 6 (some .int) ⟨4, 0, 0, 91⟩ zv_i 8 [.ref 57, .int f1, .int v.1, .int v.2.1, .null, .null] [] v.2.2 (self v)) (w2 : Int32) (w3 : Int32) (w4 : Int32) (s : zq_S) : zq_X yX12_view RX12 cX12_view 6 (some .int) ⟨4, 0, 0, 91⟩ zv_i 66 [.ref 57, .int f1, .int w2, .int w3, .int w4, .null] [] s (jX12_view_j66 N f1 k87 self w2 w3 w4 s) := by
  unfold jX12_view_j66
  refine zx_lift (pc' := 68) (fun _ => zq_iload rfl dX12_view_66 rfl) ?_
  refine zx_if_eq (pc' := 71) (tgt := 81) dX12_view_68 rfl rfl (fun hc => ?_) (fun hc => ?_)
  · refine zx_less [.ref 57, .int f1, .int w2, .int w3, .null, .null] (zq_cr (zq_cr (zq_cr (zq_cr (zq_cz (zq_cz zq_cn)))))) ?_
    exact xX12_view_j81_j N f1 k87 hk87 self hself w2 w3 s
  · refine zx_lift (pc' := 72) (fun _ => zq_aload_n rfl rfl dX12_view_71 rfl) ?_
    refine zx_lift (pc' := 75) (fun _ => zt_getR zfr_X12_104 zfd_57_48 dX12_view_72 rfl) ?_
    refine zx_lift (pc' := 76) (fun _ => zq_iload_n rfl rfl dX12_view_75 rfl) ?_
    refine zx_lift (pc' := 77) (fun _ => zq_iload_n rfl rfl dX12_view_76 rfl) ?_
    refine zx_iastore (pc' := 78) zsh_87 dX12_view_77 rfl (fun s12 => ?_)
    refine zx_iinc (pc' := 81) (ls' := fun x13 => [.ref 57, .int f1, .int x13, .int w3, .int w4, .null]) rfl rfl (by decide) rfl (fun _ => rfl) dX12_view_78 rfl (fun x13 => ?_)
    refine zx_less [.ref 57, .int f1, .int x13, .int w3, .null, .null] (zq_cr (zq_cr (zq_cr (zq_cr (zq_cz (zq_cz zq_cn)))))) ?_
    exact xX12_view_j81_j N f1 k87 hk87 self hself x13 w3 s12
def bX12_view_8 (N : Nat)  (f1 : Int32) (k87 : Int32 × zq_S → Option (Int32 × zq_S)) (self : Int32 × Int32 × zq_S → Option (Int32 × zq_S)) (v : Int32 × Int32 × zq_S) : Option (Int32 × zq_S) :=
  zq_b2 (mX12_all N v.2.2) (fun r3 s4 =>
  if r3 < v.2.1 then
  k87 (v.1, s4)
  else
  zq_ck v.2.1 1024 (
  zq_let (zga s4 78 v.2.1) (fun x5 =>
  zq_loop (bX12_view_27 N f1 v.1 v.2.1 (fun e10 =>
  jX12_view_j66 N f1 k87 self v.1 v.2.1 e10.1 e10.2)) N (x5, (0 : Int32), s4))))
set_option maxRecDepth 20000 in
set_option maxHeartbeats 2000000 in
theorem xX12_view_8 (N : Nat)  (f1 : Int32) (k87 : Int32 × zq_S → Option (Int32 × zq_S)) (hk87 : ∀ e, zq_X yX12_view RX12 cX12_view 6 (some .int) ⟨4, 0, 0, 91⟩ zv_i 87 [.ref 57, .int f1, .int e.1, .null, .null, .null] [] e.2 (k87 e)) (self : Int32 × Int32 × zq_S → Option (Int32 × zq_S)) (hself : ∀ v, zq_X yX12_view RX12 cX12_view 6 (some .int) ⟨4, 0, 0, 91⟩ zv_i 8 [.ref 57, .int f1, .int v.1, .int v.2.1, .null, .null] [] v.2.2 (self v)) (v : Int32 × Int32 × zq_S) : zq_X yX12_view RX12 cX12_view 6 (some .int) ⟨4, 0, 0, 91⟩ zv_i 8 [.ref 57, .int f1, .int v.1, .int v.2.1, .null, .null] [] v.2.2 (bX12_view_8 N f1 k87 self v) := by
  unfold bX12_view_8
  refine zx_lift (pc' := 9) (fun _ => zq_iload_n rfl rfl dX12_view_8 rfl) ?_
  refine zx_lift (pc' := 10) (fun _ => zq_aload_n rfl rfl dX12_view_9 rfl) ?_
  refine zx_cVi (pc' := 13) zcv_X12_148 (cX12_all_mc N v.2.2) zob_57 rfl (by decide) (Nat.le_of_ble_eq_true rfl) dX12_view_10 rfl rfl (fun r3 s4 => ?_)
  refine zx_icmp_gt (pc' := 16) (tgt := 87) dX12_view_13 rfl rfl (fun hc => ?_) (fun hc => ?_)
  · refine zx_less [.ref 57, .int f1, .int v.1, .null, .null, .null] (zq_cr (zq_cr (zq_cr (zq_cz (zq_cz (zq_cz zq_cn)))))) ?_
    exact hk87 (v.1, s4)
  · refine zx_lift (pc' := 17) (fun _ => zq_aload_n rfl rfl dX12_view_16 rfl) ?_
    refine zx_lift (pc' := 20) (fun _ => zt_getR zfr_X12_75 zfd_57_38 dX12_view_17 rfl) ?_
    refine zx_lift (pc' := 21) (fun _ => zq_iload_n rfl rfl dX12_view_20 rfl) ?_
    refine zx_zaload (pc' := 22) zsh_78 dX12_view_21 rfl ?_
    refine zx_istore (pc' := 24) (ls' := fun x5 => [.ref 57, .int f1, .int v.1, .int v.2.1, .int x5, .null]) (by decide) rfl (fun _ => rfl) dX12_view_22 rfl (fun x5 => ?_)
    refine zx_lift (pc' := 25) (fun _ => zq_iconst (v := 0) dX12_view_24 rfl rfl) ?_
    refine zx_lift (pc' := 27) (fun _ => zq_istore (ls' := [.ref 57, .int f1, .int v.1, .int v.2.1, .int x5, .int (0 : Int32)]) (by decide) rfl rfl dX12_view_25 rfl) ?_
    refine yX12_view_27 N f1 v.1 v.2.1 _ (fun e10 => ?_) N (x5, (0 : Int32), s4)
    exact xX12_view_j66_j N f1 k87 hk87 self hself v.1 v.2.1 e10.1 e10.2
theorem yX12_view_8 (N : Nat)  (f1 : Int32) (k87 : Int32 × zq_S → Option (Int32 × zq_S)) (hk87 : ∀ e, zq_X yX12_view RX12 cX12_view 6 (some .int) ⟨4, 0, 0, 91⟩ zv_i 87 [.ref 57, .int f1, .int e.1, .null, .null, .null] [] e.2 (k87 e)) (n : Nat) : ∀ v : Int32 × Int32 × zq_S, zq_X yX12_view RX12 cX12_view 6 (some .int) ⟨4, 0, 0, 91⟩ zv_i 8 [.ref 57, .int f1, .int v.1, .int v.2.1, .null, .null] [] v.2.2 (zq_loop (bX12_view_8 N f1 k87) n v) := by
  induction n with
  | zero => exact fun v u hu => by cases hu
  | succ n ih =>
    intro v
    rw [zq_loop_s]
    exact xX12_view_8 N f1 k87 hk87 (zq_loop (bX12_view_8 N f1 k87) n) ih v
def jX12_view_j119 (N : Nat)   (t0 : Int32) (s : zq_S) : Option (Int32 × zq_S) :=
  some (t0, s)
set_option maxRecDepth 20000 in
set_option maxHeartbeats 2000000 in
theorem xX12_view_j119_j (N : Nat)   (t0 : Int32) (s : zq_S) : zq_X yX12_view RX12 cX12_view 6 (some .int) ⟨4, 0, 0, 91⟩ zv_i 119 [.null, .null, .null, .null, .null, .null] [.int t0] s (jX12_view_j119 N t0 s) := by
  unfold jX12_view_j119
  exact zx_iret rfl dX12_view_119
def mX12_view (N : Nat)  (p1 : Int32) (s : zq_S) : Option (Int32 × zq_S) :=
  zq_b2 (mX12_findTexts N s) (fun r1 s2 =>
  zq_loop (bX12_view_8 N p1 (fun e14 =>
  if p1 = (-1 : Int32) then
  jX12_view_j119 N e14.1 e14.2
  else
  zq_b2 (mX12_in N (Int32.toInt64 p1) (0 : Int64) (Int32.toInt64 (e14.1 - (1 : Int32))) e14.2) (fun r15 s16 =>
  if r15 = (0 : Int32) then
  jX12_view_j119 N (-1 : Int32) s16
  else
  zq_ck p1 1024 (
  jX12_view_j119 N (zga s16 87 p1) s16)))) N ((0 : Int32), (0 : Int32), s2))
set_option maxRecDepth 20000 in
set_option maxHeartbeats 2000000 in
theorem xX12_view (N : Nat)  (p1 : Int32) (s : zq_S) : zq_X yX12_view RX12 cX12_view 6 (some .int) ⟨4, 0, 0, 91⟩ zv_i 0 [.ref 57, .int p1, .null, .null, .null, .null] [] s (mX12_view N p1 s) := by
  unfold mX12_view
  refine zx_lift (pc' := 1) (fun _ => zq_aload_n rfl rfl dX12_view_0 rfl) ?_
  refine zx_cVv (pc' := 4) zcv_X12_340 (cX12_findTexts_mc N s) zob_57 rfl (by decide) (Nat.le_of_ble_eq_true rfl) dX12_view_1 rfl rfl (fun r1 s2 => ?_)
  refine zx_lift (pc' := 5) (fun _ => zq_iconst (v := 0) dX12_view_4 rfl rfl) ?_
  refine zx_lift (pc' := 6) (fun _ => zq_istore_n (ls' := [.ref 57, .int p1, .int (0 : Int32), .null, .null, .null]) rfl (by decide) rfl rfl dX12_view_5 rfl) ?_
  refine zx_lift (pc' := 7) (fun _ => zq_iconst (v := 0) dX12_view_6 rfl rfl) ?_
  refine zx_lift (pc' := 8) (fun _ => zq_istore_n (ls' := [.ref 57, .int p1, .int (0 : Int32), .int (0 : Int32), .null, .null]) rfl (by decide) rfl rfl dX12_view_7 rfl) ?_
  refine yX12_view_8 N p1 _ (fun e14 => ?_) N ((0 : Int32), (0 : Int32), s2)
  refine zx_lift (pc' := 88) (fun _ => zq_iload_n rfl rfl dX12_view_87 rfl) ?_
  refine zx_lift (pc' := 89) (fun _ => zq_iconst (v := (-1)) dX12_view_88 rfl rfl) ?_
  refine zx_icmp_ne (pc' := 92) (tgt := 96) dX12_view_89 rfl rfl (fun hc => ?_) (fun hc => ?_)
  · refine zx_lift (pc' := 97) (fun _ => zq_iload_n rfl rfl dX12_view_96 rfl) ?_
    refine zx_lift (pc' := 98) (fun _ => zq_i2l dX12_view_97 rfl) ?_
    refine zx_lift (pc' := 99) (fun _ => zq_lconst (v := 0) dX12_view_98 rfl rfl) ?_
    refine zx_lift (pc' := 100) (fun _ => zq_iload_n rfl rfl dX12_view_99 rfl) ?_
    refine zx_lift (pc' := 101) (fun _ => zq_iconst (v := 1) dX12_view_100 rfl rfl) ?_
    refine zx_lift (pc' := 102) (fun _ => zq_isub dX12_view_101 rfl) ?_
    refine zx_lift (pc' := 103) (fun _ => zq_i2l dX12_view_102 rfl) ?_
    refine zx_cSi (pc' := 106) zcs_X12_144 (cX12_in_mc N (Int32.toInt64 p1) (0 : Int64) (Int32.toInt64 (e14.1 - (1 : Int32))) e14.2) rfl (by decide) (Nat.le_of_ble_eq_true rfl) dX12_view_103 rfl rfl (fun r15 s16 => ?_)
    refine zx_if_eq (pc' := 109) (tgt := 118) dX12_view_106 rfl rfl (fun hc => ?_) (fun hc => ?_)
    · refine zx_lift (pc' := 119) (fun _ => zq_iconst (v := (-1)) dX12_view_118 rfl rfl) ?_
      refine zx_less [.null, .null, .null, .null, .null, .null] (zq_cz (zq_cz (zq_cz (zq_cz (zq_cz (zq_cz zq_cn)))))) ?_
      exact xX12_view_j119_j N (-1 : Int32) s16
    · refine zx_lift (pc' := 110) (fun _ => zq_aload_n rfl rfl dX12_view_109 rfl) ?_
      refine zx_lift (pc' := 113) (fun _ => zt_getR zfr_X12_104 zfd_57_48 dX12_view_110 rfl) ?_
      refine zx_lift (pc' := 114) (fun _ => zq_iload_n rfl rfl dX12_view_113 rfl) ?_
      refine zx_iaload (pc' := 115) zsh_87 dX12_view_114 rfl ?_
      refine zx_lift (pc' := 119) (fun _ => zq_goto dX12_view_115 rfl) ?_
      refine zx_less [.null, .null, .null, .null, .null, .null] (zq_cz (zq_cz (zq_cz (zq_cz (zq_cz (zq_cz zq_cn)))))) ?_
      exact xX12_view_j119_j N (zga s16 87 p1) s16
  · refine zx_lift (pc' := 93) (fun _ => zq_iload_n rfl rfl dX12_view_92 rfl) ?_
    refine zx_lift (pc' := 119) (fun _ => zq_goto dX12_view_93 rfl) ?_
    refine zx_less [.null, .null, .null, .null, .null, .null] (zq_cz (zq_cz (zq_cz (zq_cz (zq_cz (zq_cz zq_cn)))))) ?_
    exact xX12_view_j119_j N e14.1 e14.2
theorem cX12_view_mc (N : Nat)  (p1 : Int32) (s : zq_S) (v : Int32 × zq_S) (h : mX12_view N p1 s = some v) : zq_MC yX12_view cX12_view 6 (some .int) ⟨4, 0, 0, 91⟩ 0 0 [.ref 57, .int p1] (zq_en s) (zv_i v.1, zq_en v.2) := zq_MC_x [.ref 57, .int p1, .null, .null, .null, .null] (by decide +kernel) rfl rfl (Nat.le_of_ble_eq_true rfl) (xX12_view N p1 s) h
def jX12_when_j129 (N : Nat)  (f1 : Int32) (f2 : Int32)  (self : Int32 × Int32 × zq_S → Option (Int32 × zq_S)) (w3 : Int32) (w4 : Int32) (s : zq_S) : Option (Int32 × zq_S) :=
  zq_let (w4 + (1 : Int32)) (fun x9 =>
  self (w3, x9, s))
set_option maxRecDepth 20000 in
set_option maxHeartbeats 2000000 in
theorem xX12_when_j129_j (N : Nat)  (f1 : Int32) (f2 : Int32)  (self : Int32 × Int32 × zq_S → Option (Int32 × zq_S)) (hself : ∀ v, zq_X yX12_when RX12 cX12_when 6 (some .int) ⟨5, 0, 0, 116⟩ zv_i 35 [.ref 57, .int f1, .int f2, .int v.1, .int v.2.1, .null] [] v.2.2 (self v)) (w3 : Int32) (w4 : Int32) (s : zq_S) : zq_X yX12_when RX12 cX12_when 6 (some .int) ⟨5, 0, 0, 116⟩ zv_i 129 [.ref 57, .int f1, .int f2, .int w3, .int w4, .null] [] s (jX12_when_j129 N f1 f2 self w3 w4 s) := by
  unfold jX12_when_j129
  refine zx_iinc (pc' := 132) (ls' := fun x9 => [.ref 57, .int f1, .int f2, .int w3, .int x9, .null]) rfl rfl (by decide) rfl (fun _ => rfl) dX12_when_129 rfl (fun x9 => ?_)
  refine zx_lift (pc' := 35) (fun _ => zq_goto dX12_when_132 rfl) ?_
  exact hself (w3, x9, s)
def jX12_when_j115 (N : Nat)  (f1 : Int32) (f2 : Int32)  (self : Int32 × Int32 × zq_S → Option (Int32 × zq_S)) (w3 : Int32) (w4 : Int32) (t0 : Int32) (s : zq_S) : Option (Int32 × zq_S) :=
  zq_let (if t0 ≤ (0 : Int32) then w3 else w4) (fun x14 =>
  jX12_when_j129 N f1 f2 self x14 w4 s)
set_option maxRecDepth 20000 in
set_option maxHeartbeats 2000000 in
theorem xX12_when_j115_j (N : Nat)  (f1 : Int32) (f2 : Int32)  (self : Int32 × Int32 × zq_S → Option (Int32 × zq_S)) (hself : ∀ v, zq_X yX12_when RX12 cX12_when 6 (some .int) ⟨5, 0, 0, 116⟩ zv_i 35 [.ref 57, .int f1, .int f2, .int v.1, .int v.2.1, .null] [] v.2.2 (self v)) (w3 : Int32) (w4 : Int32) (t0 : Int32) (s : zq_S) : zq_X yX12_when RX12 cX12_when 6 (some .int) ⟨5, 0, 0, 116⟩ zv_i 115 [.ref 57, .int f1, .int f2, .int w3, .int w4, .null] [.int t0] s (jX12_when_j115 N f1 f2 self w3 w4 t0 s) := by
  unfold jX12_when_j115
  refine zx_lift (pc' := 117) (fun _ => zq_istore (ls' := [.ref 57, .int f1, .int f2, .int w3, .int w4, .int t0]) (by decide) rfl rfl dX12_when_115 rfl) ?_
  refine zx_lift (pc' := 119) (fun _ => zq_iload rfl dX12_when_117 rfl) ?_
  refine zx_tern (pcJ := 128) (lsJ := fun x14 => [.ref 57, .int f1, .int f2, .null, .int w4, .null]) (stJ := fun x14 => [.int x14]) (fun x14 => ?_) (fun f hJ => ?_)
  rotate_left
  · refine zx_lif_le (pc' := 122) (tgt := 127) dX12_when_119 rfl rfl (fun _ => ?_) (fun _ => ?_)
    · refine zx_lift (pc' := 128) (fun _ => zq_iload_n rfl rfl dX12_when_127 rfl) ?_
      exact zx_lessJ (zq_cr (zq_cr (zq_cr (zq_cz (zq_cr (zq_cz zq_cn)))))) (hJ _)
    · refine zx_lift (pc' := 124) (fun _ => zq_iload rfl dX12_when_122 rfl) ?_
      refine zx_lift (pc' := 128) (fun _ => zq_goto dX12_when_124 rfl) ?_
      exact zx_lessJ (zq_cr (zq_cr (zq_cr (zq_cz (zq_cr (zq_cz zq_cn)))))) (hJ _)
  refine zx_lift (pc' := 129) (fun _ => zq_istore_n (ls' := [.ref 57, .int f1, .int f2, .int x14, .int w4, .null]) rfl (by decide) rfl rfl dX12_when_128 rfl) ?_
  exact xX12_when_j129_j N f1 f2 self hself x14 w4 s
def bX12_when_35 (N : Nat)  (f1 : Int32) (f2 : Int32)  (self : Int32 × Int32 × zq_S → Option (Int32 × zq_S)) (v : Int32 × Int32 × zq_S) : Option (Int32 × zq_S) :=
  zq_b2 (mX12_all N v.2.2) (fun r7 s8 =>
  if r7 < v.2.1 then
  some (v.1, s8)
  else
  zq_ck (((1024 : Int32) * f1) + v.2.1) 4096 (
  if (lg_cmp (zgl s8 94 (((1024 : Int32) * f1) + v.2.1)) (0 : Int64)) ≤ (0 : Int32) then
  jX12_when_j129 N f1 f2 self v.1 v.2.1 s8
  else
  zq_ck (((1024 : Int32) * f1) + v.2.1) 4096 (
  if (lg_cmp (zgl s8 95 (((1024 : Int32) * f1) + v.2.1)) (0 : Int64)) ≤ (0 : Int32) then
  jX12_when_j129 N f1 f2 self v.1 v.2.1 s8
  else
  if (0 : Int32) ≤ v.1 then
  if f2 = (0 : Int32) then
  zq_b2 (mX12_bits N v.1 s8) (fun r15 s16 =>
  zq_b2 (mX12_bits N v.2.1 s16) (fun r17 s18 =>
  jX12_when_j115 N f1 f2 self v.1 v.2.1 (r15 - r17) s18))
  else
  zq_b2 (mX12_bits N v.2.1 s8) (fun r10 s11 =>
  zq_b2 (mX12_bits N v.1 s11) (fun r12 s13 =>
  jX12_when_j115 N f1 f2 self v.1 v.2.1 (r10 - r12) s13))
  else
  jX12_when_j115 N f1 f2 self v.1 v.2.1 (1 : Int32) s8)))
set_option maxRecDepth 20000 in
set_option maxHeartbeats 2000000 in
theorem xX12_when_35 (N : Nat)  (f1 : Int32) (f2 : Int32)  (self : Int32 × Int32 × zq_S → Option (Int32 × zq_S)) (hself : ∀ v, zq_X yX12_when RX12 cX12_when 6 (some .int) ⟨5, 0, 0, 116⟩ zv_i 35 [.ref 57, .int f1, .int f2, .int v.1, .int v.2.1, .null] [] v.2.2 (self v)) (v : Int32 × Int32 × zq_S) : zq_X yX12_when RX12 cX12_when 6 (some .int) ⟨5, 0, 0, 116⟩ zv_i 35 [.ref 57, .int f1, .int f2, .int v.1, .int v.2.1, .null] [] v.2.2 (bX12_when_35 N f1 f2 self v) := by
  unfold bX12_when_35
  refine zx_lift (pc' := 37) (fun _ => zq_iload rfl dX12_when_35 rfl) ?_
  refine zx_lift (pc' := 38) (fun _ => zq_aload_n rfl rfl dX12_when_37 rfl) ?_
  refine zx_cVi (pc' := 41) zcv_X12_148 (cX12_all_mc N v.2.2) zob_57 rfl (by decide) (Nat.le_of_ble_eq_true rfl) dX12_when_38 rfl rfl (fun r7 s8 => ?_)
  refine zx_icmp_gt (pc' := 44) (tgt := 135) dX12_when_41 rfl rfl (fun hc => ?_) (fun hc => ?_)
  · refine zx_lift (pc' := 136) (fun _ => zq_iload_n rfl rfl dX12_when_135 rfl) ?_
    exact zx_iret rfl dX12_when_136
  · refine zx_lift (pc' := 45) (fun _ => zq_aload_n rfl rfl dX12_when_44 rfl) ?_
    refine zx_lift (pc' := 48) (fun _ => zt_getR zfr_X12_125 zfd_57_57 dX12_when_45 rfl) ?_
    refine zx_lift (pc' := 51) (fun _ => zq_sipush (v := 1024) dX12_when_48 rfl rfl) ?_
    refine zx_lift (pc' := 52) (fun _ => zq_iload_n rfl rfl dX12_when_51 rfl) ?_
    refine zx_lift (pc' := 53) (fun _ => zq_imul dX12_when_52 rfl) ?_
    refine zx_lift (pc' := 55) (fun _ => zq_iload rfl dX12_when_53 rfl) ?_
    refine zx_lift (pc' := 56) (fun _ => zq_iadd dX12_when_55 rfl) ?_
    refine zx_laload (pc' := 57) zsh_94 dX12_when_56 rfl ?_
    refine zx_lift (pc' := 58) (fun _ => zq_lconst (v := 0) dX12_when_57 rfl rfl) ?_
    refine zx_lift (pc' := 59) (fun _ => zq_lcmp dX12_when_58 rfl) ?_
    refine zx_if_le (pc' := 62) (tgt := 129) dX12_when_59 rfl rfl (fun hc => ?_) (fun hc => ?_)
    · exact xX12_when_j129_j N f1 f2 self hself v.1 v.2.1 s8
    · refine zx_lift (pc' := 63) (fun _ => zq_aload_n rfl rfl dX12_when_62 rfl) ?_
      refine zx_lift (pc' := 66) (fun _ => zt_getR zfr_X12_128 zfd_57_58 dX12_when_63 rfl) ?_
      refine zx_lift (pc' := 69) (fun _ => zq_sipush (v := 1024) dX12_when_66 rfl rfl) ?_
      refine zx_lift (pc' := 70) (fun _ => zq_iload_n rfl rfl dX12_when_69 rfl) ?_
      refine zx_lift (pc' := 71) (fun _ => zq_imul dX12_when_70 rfl) ?_
      refine zx_lift (pc' := 73) (fun _ => zq_iload rfl dX12_when_71 rfl) ?_
      refine zx_lift (pc' := 74) (fun _ => zq_iadd dX12_when_73 rfl) ?_
      refine zx_laload (pc' := 75) zsh_95 dX12_when_74 rfl ?_
      refine zx_lift (pc' := 76) (fun _ => zq_lconst (v := 0) dX12_when_75 rfl rfl) ?_
      refine zx_lift (pc' := 77) (fun _ => zq_lcmp dX12_when_76 rfl) ?_
      refine zx_if_le (pc' := 80) (tgt := 129) dX12_when_77 rfl rfl (fun hc => ?_) (fun hc => ?_)
      · exact xX12_when_j129_j N f1 f2 self hself v.1 v.2.1 s8
      · refine zx_lift (pc' := 81) (fun _ => zq_iload_n rfl rfl dX12_when_80 rfl) ?_
        refine zx_if_ge (pc' := 84) (tgt := 88) dX12_when_81 rfl rfl (fun hc => ?_) (fun hc => ?_)
        · refine zx_lift (pc' := 89) (fun _ => zq_iload_n rfl rfl dX12_when_88 rfl) ?_
          refine zx_if_ne (pc' := 92) (tgt := 105) dX12_when_89 rfl rfl (fun hc => ?_) (fun hc => ?_)
          · refine zx_lift (pc' := 107) (fun _ => zq_iload rfl dX12_when_105 rfl) ?_
            refine zx_cSi (pc' := 110) zcs_X12_301 (cX12_bits_mc N v.2.1 s8) rfl (by decide) (Nat.le_of_ble_eq_true rfl) dX12_when_107 rfl rfl (fun r10 s11 => ?_)
            refine zx_lift (pc' := 111) (fun _ => zq_iload_n rfl rfl dX12_when_110 rfl) ?_
            refine zx_cSi (pc' := 114) zcs_X12_301 (cX12_bits_mc N v.1 s11) rfl (by decide) (Nat.le_of_ble_eq_true rfl) dX12_when_111 rfl rfl (fun r12 s13 => ?_)
            refine zx_lift (pc' := 115) (fun _ => zq_isub dX12_when_114 rfl) ?_
            exact xX12_when_j115_j N f1 f2 self hself v.1 v.2.1 (r10 - r12) s13
          · refine zx_lift (pc' := 93) (fun _ => zq_iload_n rfl rfl dX12_when_92 rfl) ?_
            refine zx_cSi (pc' := 96) zcs_X12_301 (cX12_bits_mc N v.1 s8) rfl (by decide) (Nat.le_of_ble_eq_true rfl) dX12_when_93 rfl rfl (fun r15 s16 => ?_)
            refine zx_lift (pc' := 98) (fun _ => zq_iload rfl dX12_when_96 rfl) ?_
            refine zx_cSi (pc' := 101) zcs_X12_301 (cX12_bits_mc N v.2.1 s16) rfl (by decide) (Nat.le_of_ble_eq_true rfl) dX12_when_98 rfl rfl (fun r17 s18 => ?_)
            refine zx_lift (pc' := 102) (fun _ => zq_isub dX12_when_101 rfl) ?_
            refine zx_lift (pc' := 115) (fun _ => zq_goto dX12_when_102 rfl) ?_
            exact xX12_when_j115_j N f1 f2 self hself v.1 v.2.1 (r15 - r17) s18
        · refine zx_lift (pc' := 85) (fun _ => zq_iconst (v := 1) dX12_when_84 rfl rfl) ?_
          refine zx_lift (pc' := 115) (fun _ => zq_goto dX12_when_85 rfl) ?_
          exact xX12_when_j115_j N f1 f2 self hself v.1 v.2.1 (1 : Int32) s8
theorem yX12_when_35 (N : Nat)  (f1 : Int32) (f2 : Int32)  (n : Nat) : ∀ v : Int32 × Int32 × zq_S, zq_X yX12_when RX12 cX12_when 6 (some .int) ⟨5, 0, 0, 116⟩ zv_i 35 [.ref 57, .int f1, .int f2, .int v.1, .int v.2.1, .null] [] v.2.2 (zq_loop (bX12_when_35 N f1 f2 ) n v) := by
  induction n with
  | zero => exact fun v u hu => by cases hu
  | succ n ih =>
    intro v
    rw [zq_loop_s]
    exact xX12_when_35 N f1 f2  (zq_loop (bX12_when_35 N f1 f2 ) n) ih v
def mX12_when (N : Nat)  (p1 : Int32) (p2 : Int32) (s : zq_S) : Option (Int32 × zq_S) :=
  zq_b2 (mX12_isCopy N p1 s) (fun r1 s2 =>
  if r1 = (0 : Int32) then
  some ((-1001 : Int32), s2)
  else
  zq_b2 (mX12_in N (Int32.toInt64 p2) (0 : Int64) (1 : Int64) s2) (fun r3 s4 =>
  if r3 = (0 : Int32) then
  some ((-1002 : Int32), s4)
  else
  zq_b2 (mX12_findRows N s4) (fun r5 s6 =>
  zq_loop (bX12_when_35 N p1 p2 ) N ((-1 : Int32), (0 : Int32), s6))))
set_option maxRecDepth 20000 in
set_option maxHeartbeats 2000000 in
theorem xX12_when (N : Nat)  (p1 : Int32) (p2 : Int32) (s : zq_S) : zq_X yX12_when RX12 cX12_when 6 (some .int) ⟨5, 0, 0, 116⟩ zv_i 0 [.ref 57, .int p1, .int p2, .null, .null, .null] [] s (mX12_when N p1 p2 s) := by
  unfold mX12_when
  refine zx_lift (pc' := 1) (fun _ => zq_aload_n rfl rfl dX12_when_0 rfl) ?_
  refine zx_lift (pc' := 2) (fun _ => zq_iload_n rfl rfl dX12_when_1 rfl) ?_
  refine zx_cVi (pc' := 5) zcv_X12_363 (cX12_isCopy_mc N p1 s) zob_57 rfl (by decide) (Nat.le_of_ble_eq_true rfl) dX12_when_2 rfl rfl (fun r1 s2 => ?_)
  refine zx_if_ne (pc' := 8) (tgt := 12) dX12_when_5 rfl rfl (fun hc => ?_) (fun hc => ?_)
  · refine zx_lift (pc' := 13) (fun _ => zq_iload_n rfl rfl dX12_when_12 rfl) ?_
    refine zx_lift (pc' := 14) (fun _ => zq_i2l dX12_when_13 rfl) ?_
    refine zx_lift (pc' := 15) (fun _ => zq_lconst (v := 0) dX12_when_14 rfl rfl) ?_
    refine zx_lift (pc' := 16) (fun _ => zq_lconst (v := 1) dX12_when_15 rfl rfl) ?_
    refine zx_cSi (pc' := 19) zcs_X12_144 (cX12_in_mc N (Int32.toInt64 p2) (0 : Int64) (1 : Int64) s2) rfl (by decide) (Nat.le_of_ble_eq_true rfl) dX12_when_16 rfl rfl (fun r3 s4 => ?_)
    refine zx_if_ne (pc' := 22) (tgt := 26) dX12_when_19 rfl rfl (fun hc => ?_) (fun hc => ?_)
    · refine zx_lift (pc' := 27) (fun _ => zq_aload_n rfl rfl dX12_when_26 rfl) ?_
      refine zx_cVv (pc' := 30) zcv_X12_369 (cX12_findRows_mc N s4) zob_57 rfl (by decide) (Nat.le_of_ble_eq_true rfl) dX12_when_27 rfl rfl (fun r5 s6 => ?_)
      refine zx_lift (pc' := 31) (fun _ => zq_iconst (v := (-1)) dX12_when_30 rfl rfl) ?_
      refine zx_lift (pc' := 32) (fun _ => zq_istore_n (ls' := [.ref 57, .int p1, .int p2, .int (-1 : Int32), .null, .null]) rfl (by decide) rfl rfl dX12_when_31 rfl) ?_
      refine zx_lift (pc' := 33) (fun _ => zq_iconst (v := 0) dX12_when_32 rfl rfl) ?_
      refine zx_lift (pc' := 35) (fun _ => zq_istore (ls' := [.ref 57, .int p1, .int p2, .int (-1 : Int32), .int (0 : Int32), .null]) (by decide) rfl rfl dX12_when_33 rfl) ?_
      refine yX12_when_35 N p1 p2  N ((-1 : Int32), (0 : Int32), s6)
    · refine zx_lift (pc' := 25) (fun _ => zq_sipush (v := (-1002)) dX12_when_22 rfl rfl) ?_
      exact zx_iret rfl dX12_when_25
  · refine zx_lift (pc' := 11) (fun _ => zq_sipush (v := (-1001)) dX12_when_8 rfl rfl) ?_
    exact zx_iret rfl dX12_when_11
theorem cX12_when_mc (N : Nat)  (p1 : Int32) (p2 : Int32) (s : zq_S) (v : Int32 × zq_S) (h : mX12_when N p1 p2 s = some v) : zq_MC yX12_when cX12_when 6 (some .int) ⟨5, 0, 0, 116⟩ 0 0 [.ref 57, .int p1, .int p2] (zq_en s) (zv_i v.1, zq_en v.2) := zq_MC_x [.ref 57, .int p1, .int p2, .null, .null, .null] (by decide +kernel) rfl rfl (Nat.le_of_ble_eq_true rfl) (xX12_when N p1 p2 s) h
def mX12_without (N : Nat)  (p1 : Int32) (p2 : Int32) (s : zq_S) : Option (Int32 × zq_S) :=
  zq_b2 (mX12_isMark N p1 s) (fun r1 s2 =>
  if r1 = (0 : Int32) then
  some ((-1001 : Int32), s2)
  else
  zq_b2 (mX12_findTexts N s2) (fun r3 s4 =>
  zq_b2 (mX12_all N s4) (fun r5 s6 =>
  zq_b2 (mX12_behind N p1 s6) (fun r7 s8 =>
  zq_b2 (mX12_wordAt N ((r5 &&& (((1 : Int32) <<< (p1 &&& 31)) ^^^ (-1 : Int32))) &&& (r7 ^^^ (-1 : Int32))) p2 s8) (fun r9 s10 =>
  some (r9, s10))))))
set_option maxRecDepth 20000 in
set_option maxHeartbeats 2000000 in
theorem xX12_without (N : Nat)  (p1 : Int32) (p2 : Int32) (s : zq_S) : zq_X yX12_without RX12 cX12_without 3 (some .int) ⟨4, 0, 0, 91⟩ zv_i 0 [.ref 57, .int p1, .int p2] [] s (mX12_without N p1 p2 s) := by
  unfold mX12_without
  refine zx_lift (pc' := 1) (fun _ => zq_aload_n rfl rfl dX12_without_0 rfl) ?_
  refine zx_lift (pc' := 2) (fun _ => zq_iload_n rfl rfl dX12_without_1 rfl) ?_
  refine zx_cVi (pc' := 5) zcv_X12_280 (cX12_isMark_mc N p1 s) zob_57 rfl (by decide) (Nat.le_of_ble_eq_true rfl) dX12_without_2 rfl rfl (fun r1 s2 => ?_)
  refine zx_if_ne (pc' := 8) (tgt := 12) dX12_without_5 rfl rfl (fun hc => ?_) (fun hc => ?_)
  · refine zx_lift (pc' := 13) (fun _ => zq_aload_n rfl rfl dX12_without_12 rfl) ?_
    refine zx_cVv (pc' := 16) zcv_X12_340 (cX12_findTexts_mc N s2) zob_57 rfl (by decide) (Nat.le_of_ble_eq_true rfl) dX12_without_13 rfl rfl (fun r3 s4 => ?_)
    refine zx_lift (pc' := 17) (fun _ => zq_aload_n rfl rfl dX12_without_16 rfl) ?_
    refine zx_lift (pc' := 18) (fun _ => zq_aload_n rfl rfl dX12_without_17 rfl) ?_
    refine zx_cVi (pc' := 21) zcv_X12_148 (cX12_all_mc N s4) zob_57 rfl (by decide) (Nat.le_of_ble_eq_true rfl) dX12_without_18 rfl rfl (fun r5 s6 => ?_)
    refine zx_lift (pc' := 22) (fun _ => zq_iconst (v := 1) dX12_without_21 rfl rfl) ?_
    refine zx_lift (pc' := 23) (fun _ => zq_iload_n rfl rfl dX12_without_22 rfl) ?_
    refine zx_lift (pc' := 24) (fun _ => zq_ishl dX12_without_23 rfl) ?_
    refine zx_lift (pc' := 25) (fun _ => zq_iconst (v := (-1)) dX12_without_24 rfl rfl) ?_
    refine zx_lift (pc' := 26) (fun _ => zq_ixor dX12_without_25 rfl) ?_
    refine zx_lift (pc' := 27) (fun _ => zq_iand dX12_without_26 rfl) ?_
    refine zx_lift (pc' := 28) (fun _ => zq_aload_n rfl rfl dX12_without_27 rfl) ?_
    refine zx_lift (pc' := 29) (fun _ => zq_iload_n rfl rfl dX12_without_28 rfl) ?_
    refine zx_cVi (pc' := 32) zcv_X12_284 (cX12_behind_mc N p1 s6) zob_57 rfl (by decide) (Nat.le_of_ble_eq_true rfl) dX12_without_29 rfl rfl (fun r7 s8 => ?_)
    refine zx_lift (pc' := 33) (fun _ => zq_iconst (v := (-1)) dX12_without_32 rfl rfl) ?_
    refine zx_lift (pc' := 34) (fun _ => zq_ixor dX12_without_33 rfl) ?_
    refine zx_lift (pc' := 35) (fun _ => zq_iand dX12_without_34 rfl) ?_
    refine zx_lift (pc' := 36) (fun _ => zq_iload_n rfl rfl dX12_without_35 rfl) ?_
    refine zx_cVi (pc' := 39) zcv_X12_343 (cX12_wordAt_mc N ((r5 &&& (((1 : Int32) <<< (p1 &&& 31)) ^^^ (-1 : Int32))) &&& (r7 ^^^ (-1 : Int32))) p2 s8) zob_57 rfl (by decide) (Nat.le_of_ble_eq_true rfl) dX12_without_36 rfl rfl (fun r9 s10 => ?_)
    exact zx_iret rfl dX12_without_39
  · refine zx_lift (pc' := 11) (fun _ => zq_sipush (v := (-1001)) dX12_without_8 rfl rfl) ?_
    exact zx_iret rfl dX12_without_11
theorem cX12_without_mc (N : Nat)  (p1 : Int32) (p2 : Int32) (s : zq_S) (v : Int32 × zq_S) (h : mX12_without N p1 p2 s = some v) : zq_MC yX12_without cX12_without 3 (some .int) ⟨4, 0, 0, 91⟩ 0 0 [.ref 57, .int p1, .int p2] (zq_en s) (zv_i v.1, zq_en v.2) := zq_MC_x [.ref 57, .int p1, .int p2] (by decide +kernel) rfl rfl (Nat.le_of_ble_eq_true rfl) (xX12_without N p1 p2 s) h
def jX12_stands_j41 (N : Nat)  (f1 : Int32) (f2 : Int32)  (self : Int32 × Int32 × zq_S → Option (Int32 × zq_S)) (w4 : Int32) (t0 : Int32) (s : zq_S) : Option (Int32 × zq_S) :=
  zq_let (w4 + (1 : Int32)) (fun x1 =>
  self (t0, x1, s))
set_option maxRecDepth 20000 in
set_option maxHeartbeats 2000000 in
theorem xX12_stands_j41_j (N : Nat)  (f1 : Int32) (f2 : Int32)  (self : Int32 × Int32 × zq_S → Option (Int32 × zq_S)) (hself : ∀ v, zq_X yX12_stands RX12 cX12_stands 5 (some .boolean) ⟨0, 0, 0, 0⟩ zv_i 5 [.ref 57, .int f1, .int f2, .int v.1, .int v.2.1] [] v.2.2 (self v)) (w4 : Int32) (t0 : Int32) (s : zq_S) : zq_X yX12_stands RX12 cX12_stands 5 (some .boolean) ⟨0, 0, 0, 0⟩ zv_i 41 [.ref 57, .int f1, .int f2, .null, .int w4] [.int t0] s (jX12_stands_j41 N f1 f2 self w4 t0 s) := by
  unfold jX12_stands_j41
  refine zx_lift (pc' := 42) (fun _ => zq_istore_n (ls' := [.ref 57, .int f1, .int f2, .int t0, .int w4]) rfl (by decide) rfl rfl dX12_stands_41 rfl) ?_
  refine zx_iinc (pc' := 45) (ls' := fun x1 => [.ref 57, .int f1, .int f2, .int t0, .int x1]) rfl rfl (by decide) rfl (fun _ => rfl) dX12_stands_42 rfl (fun x1 => ?_)
  refine zx_lift (pc' := 5) (fun _ => zq_goto dX12_stands_45 rfl) ?_
  exact hself (t0, x1, s)
def jX12_stands_j36 (N : Nat)  (f1 : Int32) (f2 : Int32)  (self : Int32 × Int32 × zq_S → Option (Int32 × zq_S)) (w4 : Int32) (s : zq_S) : Option (Int32 × zq_S) :=
  jX12_stands_j41 N f1 f2 self w4 (1 : Int32) s
set_option maxRecDepth 20000 in
set_option maxHeartbeats 2000000 in
theorem xX12_stands_j36_j (N : Nat)  (f1 : Int32) (f2 : Int32)  (self : Int32 × Int32 × zq_S → Option (Int32 × zq_S)) (hself : ∀ v, zq_X yX12_stands RX12 cX12_stands 5 (some .boolean) ⟨0, 0, 0, 0⟩ zv_i 5 [.ref 57, .int f1, .int f2, .int v.1, .int v.2.1] [] v.2.2 (self v)) (w4 : Int32) (s : zq_S) : zq_X yX12_stands RX12 cX12_stands 5 (some .boolean) ⟨0, 0, 0, 0⟩ zv_i 36 [.ref 57, .int f1, .int f2, .null, .int w4] [] s (jX12_stands_j36 N f1 f2 self w4 s) := by
  unfold jX12_stands_j36
  refine zx_lift (pc' := 37) (fun _ => zq_iconst (v := 1) dX12_stands_36 rfl rfl) ?_
  refine zx_lift (pc' := 41) (fun _ => zq_goto dX12_stands_37 rfl) ?_
  exact xX12_stands_j41_j N f1 f2 self hself w4 (1 : Int32) s
def bX12_stands_5 (N : Nat)  (f1 : Int32) (f2 : Int32)  (self : Int32 × Int32 × zq_S → Option (Int32 × zq_S)) (v : Int32 × Int32 × zq_S) : Option (Int32 × zq_S) :=
  zq_ck f1 1024 (
  if (zga v.2.2 84 f1) ≤ v.2.1 then
  zq_bz v.1 (some (v.1, v.2.2))
  else
  if v.1 = (0 : Int32) then
  zq_ck (((40 : Int32) * f1) + v.2.1) 40960 (
  if (zga v.2.2 85 (((40 : Int32) * f1) + v.2.1)) = f2 then
  jX12_stands_j36 N f1 f2 self v.2.1 v.2.2
  else
  jX12_stands_j41 N f1 f2 self v.2.1 (0 : Int32) v.2.2)
  else
  jX12_stands_j36 N f1 f2 self v.2.1 v.2.2)
set_option maxRecDepth 20000 in
set_option maxHeartbeats 2000000 in
theorem xX12_stands_5 (N : Nat)  (f1 : Int32) (f2 : Int32)  (self : Int32 × Int32 × zq_S → Option (Int32 × zq_S)) (hself : ∀ v, zq_X yX12_stands RX12 cX12_stands 5 (some .boolean) ⟨0, 0, 0, 0⟩ zv_i 5 [.ref 57, .int f1, .int f2, .int v.1, .int v.2.1] [] v.2.2 (self v)) (v : Int32 × Int32 × zq_S) : zq_X yX12_stands RX12 cX12_stands 5 (some .boolean) ⟨0, 0, 0, 0⟩ zv_i 5 [.ref 57, .int f1, .int f2, .int v.1, .int v.2.1] [] v.2.2 (bX12_stands_5 N f1 f2 self v) := by
  unfold bX12_stands_5
  refine zx_lift (pc' := 7) (fun _ => zq_iload rfl dX12_stands_5 rfl) ?_
  refine zx_lift (pc' := 8) (fun _ => zq_aload_n rfl rfl dX12_stands_7 rfl) ?_
  refine zx_lift (pc' := 11) (fun _ => zt_getR zfr_X12_94 zfd_57_45 dX12_stands_8 rfl) ?_
  refine zx_lift (pc' := 12) (fun _ => zq_iload_n rfl rfl dX12_stands_11 rfl) ?_
  refine zx_iaload (pc' := 13) zsh_84 dX12_stands_12 rfl ?_
  refine zx_icmp_ge (pc' := 16) (tgt := 48) dX12_stands_13 rfl rfl (fun hc => ?_) (fun hc => ?_)
  · refine zx_lift (pc' := 49) (fun _ => zq_iload_n rfl rfl dX12_stands_48 rfl) ?_
    exact zx_zretg rfl dX12_stands_49
  · refine zx_lift (pc' := 17) (fun _ => zq_iload_n rfl rfl dX12_stands_16 rfl) ?_
    refine zx_if_ne (pc' := 20) (tgt := 36) dX12_stands_17 rfl rfl (fun hc => ?_) (fun hc => ?_)
    · refine zx_less [.ref 57, .int f1, .int f2, .null, .int v.2.1] (zq_cr (zq_cr (zq_cr (zq_cz (zq_cr zq_cn))))) ?_
      exact xX12_stands_j36_j N f1 f2 self hself v.2.1 v.2.2
    · refine zx_lift (pc' := 21) (fun _ => zq_aload_n rfl rfl dX12_stands_20 rfl) ?_
      refine zx_lift (pc' := 24) (fun _ => zt_getR zfr_X12_98 zfd_57_46 dX12_stands_21 rfl) ?_
      refine zx_lift (pc' := 26) (fun _ => zq_bipush (v := 40) dX12_stands_24 rfl rfl) ?_
      refine zx_lift (pc' := 27) (fun _ => zq_iload_n rfl rfl dX12_stands_26 rfl) ?_
      refine zx_lift (pc' := 28) (fun _ => zq_imul dX12_stands_27 rfl) ?_
      refine zx_lift (pc' := 30) (fun _ => zq_iload rfl dX12_stands_28 rfl) ?_
      refine zx_lift (pc' := 31) (fun _ => zq_iadd dX12_stands_30 rfl) ?_
      refine zx_iaload (pc' := 32) zsh_85 dX12_stands_31 rfl ?_
      refine zx_lift (pc' := 33) (fun _ => zq_iload_n rfl rfl dX12_stands_32 rfl) ?_
      refine zx_icmp_ne (pc' := 36) (tgt := 40) dX12_stands_33 rfl rfl (fun hc => ?_) (fun hc => ?_)
      · refine zx_lift (pc' := 41) (fun _ => zq_iconst (v := 0) dX12_stands_40 rfl rfl) ?_
        refine zx_less [.ref 57, .int f1, .int f2, .null, .int v.2.1] (zq_cr (zq_cr (zq_cr (zq_cz (zq_cr zq_cn))))) ?_
        exact xX12_stands_j41_j N f1 f2 self hself v.2.1 (0 : Int32) v.2.2
      · refine zx_less [.ref 57, .int f1, .int f2, .null, .int v.2.1] (zq_cr (zq_cr (zq_cr (zq_cz (zq_cr zq_cn))))) ?_
        exact xX12_stands_j36_j N f1 f2 self hself v.2.1 v.2.2
theorem yX12_stands_5 (N : Nat)  (f1 : Int32) (f2 : Int32)  (n : Nat) : ∀ v : Int32 × Int32 × zq_S, zq_X yX12_stands RX12 cX12_stands 5 (some .boolean) ⟨0, 0, 0, 0⟩ zv_i 5 [.ref 57, .int f1, .int f2, .int v.1, .int v.2.1] [] v.2.2 (zq_loop (bX12_stands_5 N f1 f2 ) n v) := by
  induction n with
  | zero => exact fun v u hu => by cases hu
  | succ n ih =>
    intro v
    rw [zq_loop_s]
    exact xX12_stands_5 N f1 f2  (zq_loop (bX12_stands_5 N f1 f2 ) n) ih v
def mX12_stands (N : Nat)  (p1 : Int32) (p2 : Int32) (s : zq_S) : Option (Int32 × zq_S) :=
  zq_loop (bX12_stands_5 N p1 p2 ) N ((0 : Int32), (0 : Int32), s)
set_option maxRecDepth 20000 in
set_option maxHeartbeats 2000000 in
theorem xX12_stands (N : Nat)  (p1 : Int32) (p2 : Int32) (s : zq_S) : zq_X yX12_stands RX12 cX12_stands 5 (some .boolean) ⟨0, 0, 0, 0⟩ zv_i 0 [.ref 57, .int p1, .int p2, .null, .null] [] s (mX12_stands N p1 p2 s) := by
  unfold mX12_stands
  refine zx_lift (pc' := 1) (fun _ => zq_iconst (v := 0) dX12_stands_0 rfl rfl) ?_
  refine zx_lift (pc' := 2) (fun _ => zq_istore_n (ls' := [.ref 57, .int p1, .int p2, .int (0 : Int32), .null]) rfl (by decide) rfl rfl dX12_stands_1 rfl) ?_
  refine zx_lift (pc' := 3) (fun _ => zq_iconst (v := 0) dX12_stands_2 rfl rfl) ?_
  refine zx_lift (pc' := 5) (fun _ => zq_istore (ls' := [.ref 57, .int p1, .int p2, .int (0 : Int32), .int (0 : Int32)]) (by decide) rfl rfl dX12_stands_3 rfl) ?_
  refine yX12_stands_5 N p1 p2  N ((0 : Int32), (0 : Int32), s)
theorem cX12_stands_mc (N : Nat)  (p1 : Int32) (p2 : Int32) (s : zq_S) (v : Int32 × zq_S) (h : mX12_stands N p1 p2 s = some v) : zq_MC yX12_stands cX12_stands 5 (some .boolean) ⟨0, 0, 0, 0⟩ 0 0 [.ref 57, .int p1, .int p2] (zq_en s) (zv_i v.1, zq_en v.2) := zq_MC_x [.ref 57, .int p1, .int p2, .null, .null] (by decide +kernel) rfl rfl (Nat.le_of_ble_eq_true rfl) (xX12_stands N p1 p2 s) h
def jX12_word_j24 (N : Nat)    (s : zq_S) : Option (Int32 × zq_S) :=
  some ((-1002 : Int32), s)
set_option maxRecDepth 20000 in
set_option maxHeartbeats 2000000 in
theorem xX12_word_j24_j (N : Nat)    (s : zq_S) : zq_X yX12_word RX12 cX12_word 8 (some .int) ⟨4, 0, 0, 91⟩ zv_i 24 [.null, .null, .null, .null, .null, .null, .null, .null] [] s (jX12_word_j24 N s) := by
  unfold jX12_word_j24
  refine zx_lift (pc' := 27) (fun _ => zq_sipush (v := (-1002)) dX12_word_24 rfl rfl) ?_
  exact zx_iret rfl dX12_word_27
def jX12_word_j146 (N : Nat)  (f1 : Int32) (f2 : Int32)  (self : Int32 × Int32 × Int32 × Int32 × zq_S → Option (Int32 × zq_S)) (w3 : Int32) (w4 : Int32) (w5 : Int32) (w6 : Int32) (s : zq_S) : Option (Int32 × zq_S) :=
  zq_let (w6 + (1 : Int32)) (fun x10 =>
  self (w3, w4, w5, x10, s))
set_option maxRecDepth 20000 in
set_option maxHeartbeats 2000000 in
theorem xX12_word_j146_j (N : Nat)  (f1 : Int32) (f2 : Int32)  (self : Int32 × Int32 × Int32 × Int32 × zq_S → Option (Int32 × zq_S)) (hself : ∀ v, zq_X yX12_word RX12 cX12_word 8 (some .int) ⟨4, 0, 0, 91⟩ zv_i 74 [.ref 57, .int f1, .int f2, .int v.1, .int v.2.1, .int v.2.2.1, .int v.2.2.2.1, .null] [] v.2.2.2.2 (self v)) (w3 : Int32) (w4 : Int32) (w5 : Int32) (w6 : Int32) (s : zq_S) : zq_X yX12_word RX12 cX12_word 8 (some .int) ⟨4, 0, 0, 91⟩ zv_i 146 [.ref 57, .int f1, .int f2, .int w3, .int w4, .int w5, .int w6, .null] [] s (jX12_word_j146 N f1 f2 self w3 w4 w5 w6 s) := by
  unfold jX12_word_j146
  refine zx_iinc (pc' := 149) (ls' := fun x10 => [.ref 57, .int f1, .int f2, .int w3, .int w4, .int w5, .int x10, .null]) rfl rfl (by decide) rfl (fun _ => rfl) dX12_word_146 rfl (fun x10 => ?_)
  refine zx_lift (pc' := 74) (fun _ => zq_goto dX12_word_149 rfl) ?_
  exact hself (w3, w4, w5, x10, s)
def bX12_word_74 (N : Nat)  (f1 : Int32) (f2 : Int32)  (self : Int32 × Int32 × Int32 × Int32 × zq_S → Option (Int32 × zq_S)) (v : Int32 × Int32 × Int32 × Int32 × zq_S) : Option (Int32 × zq_S) :=
  zq_b2 (mX12_all N v.2.2.2.2) (fun r7 s8 =>
  if r7 < v.2.2.2.1 then
  zq_let (if f2 = (2 : Int32) then v.1 else (if f2 = (3 : Int32) then v.2.1 else v.2.2.1)) (fun x9 =>
  some (x9, s8))
  else
  zq_ck v.2.2.2.1 1024 (
  if (zga s8 78 v.2.2.2.1) = (0 : Int32) then
  jX12_word_j146 N f1 f2 self v.1 v.2.1 v.2.2.1 v.2.2.2.1 s8
  else
  zq_b2 (mX12_stands N v.2.2.2.1 f1 s8) (fun r11 s12 =>
  if r11 = (0 : Int32) then
  jX12_word_j146 N f1 f2 self v.1 v.2.1 v.2.2.1 v.2.2.2.1 s12
  else
  zq_b2 (mX12_bits N v.2.2.2.1 s12) (fun r13 s14 =>
  zq_let (if v.1 < (0 : Int32) then r13 else (if v.1 ≤ r13 then v.1 else r13)) (fun x15 =>
  zq_let (if r13 ≤ v.2.1 then v.2.1 else r13) (fun x16 =>
  zq_let (v.2.2.1 + (1 : Int32)) (fun x17 =>
  jX12_word_j146 N f1 f2 self x15 x16 x17 v.2.2.2.1 s14)))))))
set_option maxRecDepth 20000 in
set_option maxHeartbeats 2000000 in
theorem xX12_word_74 (N : Nat)  (f1 : Int32) (f2 : Int32)  (self : Int32 × Int32 × Int32 × Int32 × zq_S → Option (Int32 × zq_S)) (hself : ∀ v, zq_X yX12_word RX12 cX12_word 8 (some .int) ⟨4, 0, 0, 91⟩ zv_i 74 [.ref 57, .int f1, .int f2, .int v.1, .int v.2.1, .int v.2.2.1, .int v.2.2.2.1, .null] [] v.2.2.2.2 (self v)) (v : Int32 × Int32 × Int32 × Int32 × zq_S) : zq_X yX12_word RX12 cX12_word 8 (some .int) ⟨4, 0, 0, 91⟩ zv_i 74 [.ref 57, .int f1, .int f2, .int v.1, .int v.2.1, .int v.2.2.1, .int v.2.2.2.1, .null] [] v.2.2.2.2 (bX12_word_74 N f1 f2 self v) := by
  unfold bX12_word_74
  refine zx_lift (pc' := 76) (fun _ => zq_iload rfl dX12_word_74 rfl) ?_
  refine zx_lift (pc' := 77) (fun _ => zq_aload_n rfl rfl dX12_word_76 rfl) ?_
  refine zx_cVi (pc' := 80) zcv_X12_148 (cX12_all_mc N v.2.2.2.2) zob_57 rfl (by decide) (Nat.le_of_ble_eq_true rfl) dX12_word_77 rfl rfl (fun r7 s8 => ?_)
  refine zx_icmp_gt (pc' := 83) (tgt := 152) dX12_word_80 rfl rfl (fun hc => ?_) (fun hc => ?_)
  · refine zx_lift (pc' := 153) (fun _ => zq_iload_n rfl rfl dX12_word_152 rfl) ?_
    refine zx_lift (pc' := 154) (fun _ => zq_iconst (v := 2) dX12_word_153 rfl rfl) ?_
    refine zx_tern (pcJ := 173) (lsJ := fun x9 => [.null, .null, .null, .null, .null, .null, .null, .null]) (stJ := fun x9 => [.int x9]) (fun x9 => ?_) (fun f hJ => ?_)
    rotate_left
    · refine zx_licmp_ne (pc' := 157) (tgt := 161) dX12_word_154 rfl rfl (fun _ => ?_) (fun _ => ?_)
      · refine zx_lift (pc' := 162) (fun _ => zq_iload_n rfl rfl dX12_word_161 rfl) ?_
        refine zx_lift (pc' := 163) (fun _ => zq_iconst (v := 3) dX12_word_162 rfl rfl) ?_
        refine zx_licmp_ne (pc' := 166) (tgt := 171) dX12_word_163 rfl rfl (fun _ => ?_) (fun _ => ?_)
        · refine zx_lift (pc' := 173) (fun _ => zq_iload rfl dX12_word_171 rfl) ?_
          exact zx_lessJ (zq_cz (zq_cz (zq_cz (zq_cz (zq_cz (zq_cz (zq_cz (zq_cz zq_cn)))))))) (hJ _)
        · refine zx_lift (pc' := 168) (fun _ => zq_iload rfl dX12_word_166 rfl) ?_
          refine zx_lift (pc' := 173) (fun _ => zq_goto dX12_word_168 rfl) ?_
          exact zx_lessJ (zq_cz (zq_cz (zq_cz (zq_cz (zq_cz (zq_cz (zq_cz (zq_cz zq_cn)))))))) (hJ _)
      · refine zx_lift (pc' := 158) (fun _ => zq_iload_n rfl rfl dX12_word_157 rfl) ?_
        refine zx_lift (pc' := 173) (fun _ => zq_goto dX12_word_158 rfl) ?_
        exact zx_lessJ (zq_cz (zq_cz (zq_cz (zq_cz (zq_cz (zq_cz (zq_cz (zq_cz zq_cn)))))))) (hJ _)
    exact zx_iret rfl dX12_word_173
  · refine zx_lift (pc' := 84) (fun _ => zq_aload_n rfl rfl dX12_word_83 rfl) ?_
    refine zx_lift (pc' := 87) (fun _ => zt_getR zfr_X12_75 zfd_57_38 dX12_word_84 rfl) ?_
    refine zx_lift (pc' := 89) (fun _ => zq_iload rfl dX12_word_87 rfl) ?_
    refine zx_zaload (pc' := 90) zsh_78 dX12_word_89 rfl ?_
    refine zx_if_eq (pc' := 93) (tgt := 146) dX12_word_90 rfl rfl (fun hc => ?_) (fun hc => ?_)
    · exact xX12_word_j146_j N f1 f2 self hself v.1 v.2.1 v.2.2.1 v.2.2.2.1 s8
    · refine zx_lift (pc' := 94) (fun _ => zq_aload_n rfl rfl dX12_word_93 rfl) ?_
      refine zx_lift (pc' := 96) (fun _ => zq_iload rfl dX12_word_94 rfl) ?_
      refine zx_lift (pc' := 97) (fun _ => zq_iload_n rfl rfl dX12_word_96 rfl) ?_
      refine zx_cVi (pc' := 100) zcv_X12_353 (cX12_stands_mc N v.2.2.2.1 f1 s8) zob_57 rfl (by decide) (Nat.le_of_ble_eq_true rfl) dX12_word_97 rfl rfl (fun r11 s12 => ?_)
      refine zx_if_eq (pc' := 103) (tgt := 146) dX12_word_100 rfl rfl (fun hc => ?_) (fun hc => ?_)
      · exact xX12_word_j146_j N f1 f2 self hself v.1 v.2.1 v.2.2.1 v.2.2.2.1 s12
      · refine zx_lift (pc' := 105) (fun _ => zq_iload rfl dX12_word_103 rfl) ?_
        refine zx_cSi (pc' := 108) zcs_X12_301 (cX12_bits_mc N v.2.2.2.1 s12) rfl (by decide) (Nat.le_of_ble_eq_true rfl) dX12_word_105 rfl rfl (fun r13 s14 => ?_)
        refine zx_lift (pc' := 110) (fun _ => zq_istore (ls' := [.ref 57, .int f1, .int f2, .int v.1, .int v.2.1, .int v.2.2.1, .int v.2.2.2.1, .int r13]) (by decide) rfl rfl dX12_word_108 rfl) ?_
        refine zx_lift (pc' := 111) (fun _ => zq_iload_n rfl rfl dX12_word_110 rfl) ?_
        refine zx_tern (pcJ := 126) (lsJ := fun x15 => [.ref 57, .int f1, .int f2, .null, .int v.2.1, .int v.2.2.1, .int v.2.2.2.1, .int r13]) (stJ := fun x15 => [.int x15]) (fun x15 => ?_) (fun f hJ => ?_)
        rotate_left
        · refine zx_lif_lt (pc' := 114) (tgt := 120) dX12_word_111 rfl rfl (fun _ => ?_) (fun _ => ?_)
          · refine zx_lift (pc' := 122) (fun _ => zq_iload rfl dX12_word_120 rfl) ?_
            refine zx_lift (pc' := 126) (fun _ => zq_goto dX12_word_122 rfl) ?_
            exact zx_lessJ (zq_cr (zq_cr (zq_cr (zq_cz (zq_cr (zq_cr (zq_cr (zq_cr zq_cn)))))))) (hJ _)
          · refine zx_lift (pc' := 116) (fun _ => zq_iload rfl dX12_word_114 rfl) ?_
            refine zx_lift (pc' := 117) (fun _ => zq_iload_n rfl rfl dX12_word_116 rfl) ?_
            refine zx_licmp_ge (pc' := 120) (tgt := 125) dX12_word_117 rfl rfl (fun _ => ?_) (fun _ => ?_)
            · refine zx_lift (pc' := 126) (fun _ => zq_iload_n rfl rfl dX12_word_125 rfl) ?_
              exact zx_lessJ (zq_cr (zq_cr (zq_cr (zq_cz (zq_cr (zq_cr (zq_cr (zq_cr zq_cn)))))))) (hJ _)
            · refine zx_lift (pc' := 122) (fun _ => zq_iload rfl dX12_word_120 rfl) ?_
              refine zx_lift (pc' := 126) (fun _ => zq_goto dX12_word_122 rfl) ?_
              exact zx_lessJ (zq_cr (zq_cr (zq_cr (zq_cz (zq_cr (zq_cr (zq_cr (zq_cr zq_cn)))))))) (hJ _)
        refine zx_lift (pc' := 127) (fun _ => zq_istore_n (ls' := [.ref 57, .int f1, .int f2, .int x15, .int v.2.1, .int v.2.2.1, .int v.2.2.2.1, .int r13]) rfl (by decide) rfl rfl dX12_word_126 rfl) ?_
        refine zx_lift (pc' := 129) (fun _ => zq_iload rfl dX12_word_127 rfl) ?_
        refine zx_lift (pc' := 131) (fun _ => zq_iload rfl dX12_word_129 rfl) ?_
        refine zx_tern (pcJ := 141) (lsJ := fun x16 => [.ref 57, .int f1, .int f2, .int x15, .null, .int v.2.2.1, .int v.2.2.2.1, .null]) (stJ := fun x16 => [.int x16]) (fun x16 => ?_) (fun f hJ => ?_)
        rotate_left
        · refine zx_licmp_le (pc' := 134) (tgt := 139) dX12_word_131 rfl rfl (fun _ => ?_) (fun _ => ?_)
          · refine zx_lift (pc' := 141) (fun _ => zq_iload rfl dX12_word_139 rfl) ?_
            exact zx_lessJ (zq_cr (zq_cr (zq_cr (zq_cr (zq_cz (zq_cr (zq_cr (zq_cz zq_cn)))))))) (hJ _)
          · refine zx_lift (pc' := 136) (fun _ => zq_iload rfl dX12_word_134 rfl) ?_
            refine zx_lift (pc' := 141) (fun _ => zq_goto dX12_word_136 rfl) ?_
            exact zx_lessJ (zq_cr (zq_cr (zq_cr (zq_cr (zq_cz (zq_cr (zq_cr (zq_cz zq_cn)))))))) (hJ _)
        refine zx_lift (pc' := 143) (fun _ => zq_istore (ls' := [.ref 57, .int f1, .int f2, .int x15, .int x16, .int v.2.2.1, .int v.2.2.2.1, .null]) (by decide) rfl rfl dX12_word_141 rfl) ?_
        refine zx_iinc (pc' := 146) (ls' := fun x17 => [.ref 57, .int f1, .int f2, .int x15, .int x16, .int x17, .int v.2.2.2.1, .null]) rfl rfl (by decide) rfl (fun _ => rfl) dX12_word_143 rfl (fun x17 => ?_)
        exact xX12_word_j146_j N f1 f2 self hself x15 x16 x17 v.2.2.2.1 s14
theorem yX12_word_74 (N : Nat)  (f1 : Int32) (f2 : Int32)  (n : Nat) : ∀ v : Int32 × Int32 × Int32 × Int32 × zq_S, zq_X yX12_word RX12 cX12_word 8 (some .int) ⟨4, 0, 0, 91⟩ zv_i 74 [.ref 57, .int f1, .int f2, .int v.1, .int v.2.1, .int v.2.2.1, .int v.2.2.2.1, .null] [] v.2.2.2.2 (zq_loop (bX12_word_74 N f1 f2 ) n v) := by
  induction n with
  | zero => exact fun v u hu => by cases hu
  | succ n ih =>
    intro v
    rw [zq_loop_s]
    exact xX12_word_74 N f1 f2  (zq_loop (bX12_word_74 N f1 f2 ) n) ih v
def jX12_word_j50 (N : Nat)   (w1 : Int32) (t0 : Int32) (s : zq_S) : Option (Int32 × zq_S) :=
  zq_b2 (mX12_stands N t0 w1 s) (fun r20 s21 =>
  zq_let (if r20 = (0 : Int32) then (0 : Int32) else (1 : Int32)) (fun x22 =>
  some (x22, s21)))
set_option maxRecDepth 20000 in
set_option maxHeartbeats 2000000 in
theorem xX12_word_j50_j (N : Nat)   (w1 : Int32) (t0 : Int32) (s : zq_S) : zq_X yX12_word RX12 cX12_word 8 (some .int) ⟨4, 0, 0, 91⟩ zv_i 50 [.null, .int w1, .null, .null, .null, .null, .null, .null] [.int t0, .ref 57] s (jX12_word_j50 N w1 t0 s) := by
  unfold jX12_word_j50
  refine zx_lift (pc' := 51) (fun _ => zq_iload_n rfl rfl dX12_word_50 rfl) ?_
  refine zx_cVi (pc' := 54) zcv_X12_353 (cX12_stands_mc N t0 w1 s) zob_57 rfl (by decide) (Nat.le_of_ble_eq_true rfl) dX12_word_51 rfl rfl (fun r20 s21 => ?_)
  refine zx_tern (pcJ := 62) (lsJ := fun x22 => [.null, .null, .null, .null, .null, .null, .null, .null]) (stJ := fun x22 => [.int x22]) (fun x22 => ?_) (fun f hJ => ?_)
  rotate_left
  · refine zx_lif_eq (pc' := 57) (tgt := 61) dX12_word_54 rfl rfl (fun _ => ?_) (fun _ => ?_)
    · refine zx_lift (pc' := 62) (fun _ => zq_iconst (v := 0) dX12_word_61 rfl rfl) ?_
      exact zx_lessJ (zq_cz (zq_cz (zq_cz (zq_cz (zq_cz (zq_cz (zq_cz (zq_cz zq_cn)))))))) (hJ _)
    · refine zx_lift (pc' := 58) (fun _ => zq_iconst (v := 1) dX12_word_57 rfl rfl) ?_
      refine zx_lift (pc' := 62) (fun _ => zq_goto dX12_word_58 rfl) ?_
      exact zx_lessJ (zq_cz (zq_cz (zq_cz (zq_cz (zq_cz (zq_cz (zq_cz (zq_cz zq_cn)))))))) (hJ _)
  exact zx_iret rfl dX12_word_62
def mX12_word (N : Nat)  (p1 : Int32) (p2 : Int32) (s : zq_S) : Option (Int32 × zq_S) :=
  zq_b2 (mX12_in N (Int32.toInt64 p1) (0 : Int64) (99 : Int64) s) (fun r1 s2 =>
  if r1 = (0 : Int32) then
  jX12_word_j24 N s2
  else
  zq_b2 (mX12_in N (Int32.toInt64 p2) (0 : Int64) (4 : Int64) s2) (fun r3 s4 =>
  if r3 = (0 : Int32) then
  jX12_word_j24 N s4
  else
  zq_b2 (mX12_findTexts N s4) (fun r5 s6 =>
  if (2 : Int32) ≤ p2 then
  zq_loop (bX12_word_74 N p1 p2 ) N ((-1 : Int32), (-1 : Int32), (0 : Int32), (0 : Int32), s6)
  else
  if p2 = (0 : Int32) then
  jX12_word_j50 N p1 (0 : Int32) s6
  else
  zq_b2 (mX12_all N s6) (fun r18 s19 =>
  jX12_word_j50 N p1 r18 s19))))
set_option maxRecDepth 20000 in
set_option maxHeartbeats 2000000 in
theorem xX12_word (N : Nat)  (p1 : Int32) (p2 : Int32) (s : zq_S) : zq_X yX12_word RX12 cX12_word 8 (some .int) ⟨4, 0, 0, 91⟩ zv_i 0 [.ref 57, .int p1, .int p2, .null, .null, .null, .null, .null] [] s (mX12_word N p1 p2 s) := by
  unfold mX12_word
  refine zx_lift (pc' := 1) (fun _ => zq_iload_n rfl rfl dX12_word_0 rfl) ?_
  refine zx_lift (pc' := 2) (fun _ => zq_i2l dX12_word_1 rfl) ?_
  refine zx_lift (pc' := 3) (fun _ => zq_lconst (v := 0) dX12_word_2 rfl rfl) ?_
  refine zx_lift (pc' := 6) (fun _ => zq_ldc2 zk_X12_349 dX12_word_3 rfl) ?_
  refine zx_cSi (pc' := 9) zcs_X12_144 (cX12_in_mc N (Int32.toInt64 p1) (0 : Int64) (99 : Int64) s) rfl (by decide) (Nat.le_of_ble_eq_true rfl) dX12_word_6 rfl rfl (fun r1 s2 => ?_)
  refine zx_if_eq (pc' := 12) (tgt := 24) dX12_word_9 rfl rfl (fun hc => ?_) (fun hc => ?_)
  · refine zx_less [.null, .null, .null, .null, .null, .null, .null, .null] (zq_cz (zq_cz (zq_cz (zq_cz (zq_cz (zq_cz (zq_cz (zq_cz zq_cn)))))))) ?_
    exact xX12_word_j24_j N s2
  · refine zx_lift (pc' := 13) (fun _ => zq_iload_n rfl rfl dX12_word_12 rfl) ?_
    refine zx_lift (pc' := 14) (fun _ => zq_i2l dX12_word_13 rfl) ?_
    refine zx_lift (pc' := 15) (fun _ => zq_lconst (v := 0) dX12_word_14 rfl rfl) ?_
    refine zx_lift (pc' := 18) (fun _ => zq_ldc2 zk_X12_351 dX12_word_15 rfl) ?_
    refine zx_cSi (pc' := 21) zcs_X12_144 (cX12_in_mc N (Int32.toInt64 p2) (0 : Int64) (4 : Int64) s2) rfl (by decide) (Nat.le_of_ble_eq_true rfl) dX12_word_18 rfl rfl (fun r3 s4 => ?_)
    refine zx_if_ne (pc' := 24) (tgt := 28) dX12_word_21 rfl rfl (fun hc => ?_) (fun hc => ?_)
    · refine zx_lift (pc' := 29) (fun _ => zq_aload_n rfl rfl dX12_word_28 rfl) ?_
      refine zx_cVv (pc' := 32) zcv_X12_340 (cX12_findTexts_mc N s4) zob_57 rfl (by decide) (Nat.le_of_ble_eq_true rfl) dX12_word_29 rfl rfl (fun r5 s6 => ?_)
      refine zx_lift (pc' := 33) (fun _ => zq_iload_n rfl rfl dX12_word_32 rfl) ?_
      refine zx_lift (pc' := 34) (fun _ => zq_iconst (v := 2) dX12_word_33 rfl rfl) ?_
      refine zx_icmp_ge (pc' := 37) (tgt := 63) dX12_word_34 rfl rfl (fun hc => ?_) (fun hc => ?_)
      · refine zx_lift (pc' := 64) (fun _ => zq_iconst (v := (-1)) dX12_word_63 rfl rfl) ?_
        refine zx_lift (pc' := 65) (fun _ => zq_istore_n (ls' := [.ref 57, .int p1, .int p2, .int (-1 : Int32), .null, .null, .null, .null]) rfl (by decide) rfl rfl dX12_word_64 rfl) ?_
        refine zx_lift (pc' := 66) (fun _ => zq_iconst (v := (-1)) dX12_word_65 rfl rfl) ?_
        refine zx_lift (pc' := 68) (fun _ => zq_istore (ls' := [.ref 57, .int p1, .int p2, .int (-1 : Int32), .int (-1 : Int32), .null, .null, .null]) (by decide) rfl rfl dX12_word_66 rfl) ?_
        refine zx_lift (pc' := 69) (fun _ => zq_iconst (v := 0) dX12_word_68 rfl rfl) ?_
        refine zx_lift (pc' := 71) (fun _ => zq_istore (ls' := [.ref 57, .int p1, .int p2, .int (-1 : Int32), .int (-1 : Int32), .int (0 : Int32), .null, .null]) (by decide) rfl rfl dX12_word_69 rfl) ?_
        refine zx_lift (pc' := 72) (fun _ => zq_iconst (v := 0) dX12_word_71 rfl rfl) ?_
        refine zx_lift (pc' := 74) (fun _ => zq_istore (ls' := [.ref 57, .int p1, .int p2, .int (-1 : Int32), .int (-1 : Int32), .int (0 : Int32), .int (0 : Int32), .null]) (by decide) rfl rfl dX12_word_72 rfl) ?_
        refine yX12_word_74 N p1 p2  N ((-1 : Int32), (-1 : Int32), (0 : Int32), (0 : Int32), s6)
      · refine zx_lift (pc' := 38) (fun _ => zq_aload_n rfl rfl dX12_word_37 rfl) ?_
        refine zx_lift (pc' := 39) (fun _ => zq_iload_n rfl rfl dX12_word_38 rfl) ?_
        refine zx_if_ne (pc' := 42) (tgt := 46) dX12_word_39 rfl rfl (fun hc => ?_) (fun hc => ?_)
        · refine zx_lift (pc' := 47) (fun _ => zq_aload_n rfl rfl dX12_word_46 rfl) ?_
          refine zx_cVi (pc' := 50) zcv_X12_148 (cX12_all_mc N s6) zob_57 rfl (by decide) (Nat.le_of_ble_eq_true rfl) dX12_word_47 rfl rfl (fun r18 s19 => ?_)
          refine zx_less [.null, .int p1, .null, .null, .null, .null, .null, .null] (zq_cz (zq_cr (zq_cz (zq_cz (zq_cz (zq_cz (zq_cz (zq_cz zq_cn)))))))) ?_
          exact xX12_word_j50_j N p1 r18 s19
        · refine zx_lift (pc' := 43) (fun _ => zq_iconst (v := 0) dX12_word_42 rfl rfl) ?_
          refine zx_lift (pc' := 50) (fun _ => zq_goto dX12_word_43 rfl) ?_
          refine zx_less [.null, .int p1, .null, .null, .null, .null, .null, .null] (zq_cz (zq_cr (zq_cz (zq_cz (zq_cz (zq_cz (zq_cz (zq_cz zq_cn)))))))) ?_
          exact xX12_word_j50_j N p1 (0 : Int32) s6
    · refine zx_less [.null, .null, .null, .null, .null, .null, .null, .null] (zq_cz (zq_cz (zq_cz (zq_cz (zq_cz (zq_cz (zq_cz (zq_cz zq_cn)))))))) ?_
      exact xX12_word_j24_j N s4
theorem cX12_word_mc (N : Nat)  (p1 : Int32) (p2 : Int32) (s : zq_S) (v : Int32 × zq_S) (h : mX12_word N p1 p2 s = some v) : zq_MC yX12_word cX12_word 8 (some .int) ⟨4, 0, 0, 91⟩ 0 0 [.ref 57, .int p1, .int p2] (zq_en s) (zv_i v.1, zq_en v.2) := zq_MC_x [.ref 57, .int p1, .int p2, .null, .null, .null, .null, .null] (by decide +kernel) rfl rfl (Nat.le_of_ble_eq_true rfl) (xX12_word N p1 p2 s) h
def mX12_write (N : Nat)  (p1 : Int32) (s : zq_S) : Option (Int32 × zq_S) :=
  zq_b2 (mX12_in N (Int32.toInt64 p1) (0 : Int64) (99 : Int64) s) (fun r1 s2 =>
  if r1 = (0 : Int32) then
  some ((-1002 : Int32), s2)
  else
  if (zgf s2 57 52) = (40 : Int32) then
  some ((-1004 : Int32), s2)
  else
  zq_ck (zgf s2 57 52) 40 (
  zq_let (zpa s2 91 (zgf s2 57 52) p1) (fun s3 =>
  zq_let (zpf s3 57 52 ((zgf s3 57 52) + (1 : Int32))) (fun s4 =>
  some ((zgf s4 57 52), s4)))))
set_option maxRecDepth 20000 in
set_option maxHeartbeats 2000000 in
theorem xX12_write (N : Nat)  (p1 : Int32) (s : zq_S) : zq_X yX12_write RX12 cX12_write 2 (some .int) ⟨1, 0, 0, 25⟩ zv_i 0 [.ref 57, .int p1] [] s (mX12_write N p1 s) := by
  unfold mX12_write
  refine zx_lift (pc' := 1) (fun _ => zq_iload_n rfl rfl dX12_write_0 rfl) ?_
  refine zx_lift (pc' := 2) (fun _ => zq_i2l dX12_write_1 rfl) ?_
  refine zx_lift (pc' := 3) (fun _ => zq_lconst (v := 0) dX12_write_2 rfl rfl) ?_
  refine zx_lift (pc' := 6) (fun _ => zq_ldc2 zk_X12_349 dX12_write_3 rfl) ?_
  refine zx_cSi (pc' := 9) zcs_X12_144 (cX12_in_mc N (Int32.toInt64 p1) (0 : Int64) (99 : Int64) s) rfl (by decide) (Nat.le_of_ble_eq_true rfl) dX12_write_6 rfl rfl (fun r1 s2 => ?_)
  refine zx_if_ne (pc' := 12) (tgt := 16) dX12_write_9 rfl rfl (fun hc => ?_) (fun hc => ?_)
  · refine zx_lift (pc' := 17) (fun _ => zq_aload_n rfl rfl dX12_write_16 rfl) ?_
    refine zx_lift (pc' := 20) (fun _ => zt_getI zfr_X12_292 zfd_57_52 dX12_write_17 rfl) ?_
    refine zx_lift (pc' := 22) (fun _ => zq_bipush (v := 40) dX12_write_20 rfl rfl) ?_
    refine zx_icmp_ne (pc' := 25) (tgt := 29) dX12_write_22 rfl rfl (fun hc => ?_) (fun hc => ?_)
    · refine zx_lift (pc' := 30) (fun _ => zq_aload_n rfl rfl dX12_write_29 rfl) ?_
      refine zx_lift (pc' := 33) (fun _ => zt_getR zfr_X12_116 zfd_57_53 dX12_write_30 rfl) ?_
      refine zx_lift (pc' := 34) (fun _ => zq_aload_n rfl rfl dX12_write_33 rfl) ?_
      refine zx_lift (pc' := 37) (fun _ => zt_getI zfr_X12_292 zfd_57_52 dX12_write_34 rfl) ?_
      refine zx_lift (pc' := 38) (fun _ => zq_iload_n rfl rfl dX12_write_37 rfl) ?_
      refine zx_iastore (pc' := 39) zsh_91 dX12_write_38 rfl (fun s3 => ?_)
      refine zx_lift (pc' := 40) (fun _ => zq_aload_n rfl rfl dX12_write_39 rfl) ?_
      refine zx_lift (pc' := 41) (fun _ => zq_dup rfl dX12_write_40 rfl) ?_
      refine zx_lift (pc' := 44) (fun _ => zt_getI zfr_X12_292 zfd_57_52 dX12_write_41 rfl) ?_
      refine zx_lift (pc' := 45) (fun _ => zq_iconst (v := 1) dX12_write_44 rfl rfl) ?_
      refine zx_lift (pc' := 46) (fun _ => zq_iadd dX12_write_45 rfl) ?_
      refine zx_putI (pc' := 49) zfr_X12_292 (fun _ => ⟨rfl, rfl⟩) zfd_57_52 dX12_write_46 rfl (fun s4 => ?_)
      refine zx_lift (pc' := 50) (fun _ => zq_aload_n rfl rfl dX12_write_49 rfl) ?_
      refine zx_lift (pc' := 53) (fun _ => zt_getI zfr_X12_292 zfd_57_52 dX12_write_50 rfl) ?_
      exact zx_iret rfl dX12_write_53
    · refine zx_lift (pc' := 28) (fun _ => zq_sipush (v := (-1004)) dX12_write_25 rfl rfl) ?_
      exact zx_iret rfl dX12_write_28
  · refine zx_lift (pc' := 15) (fun _ => zq_sipush (v := (-1002)) dX12_write_12 rfl rfl) ?_
    exact zx_iret rfl dX12_write_15
theorem cX12_write_mc (N : Nat)  (p1 : Int32) (s : zq_S) (v : Int32 × zq_S) (h : mX12_write N p1 s = some v) : zq_MC yX12_write cX12_write 2 (some .int) ⟨1, 0, 0, 25⟩ 0 0 [.ref 57, .int p1] (zq_en s) (zv_i v.1, zq_en v.2) := zq_MC_x [.ref 57, .int p1] (by decide +kernel) rfl rfl (Nat.le_of_ble_eq_true rfl) (xX12_write N p1 s) h
