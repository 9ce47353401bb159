def jX12_findRows_j94 (N : Nat)  (f1 : Int32) (f2 : Int32) (k102 : Int64 × zq_S → Option (Unit × zq_S)) (self : Int64 × Int32 × zq_S → Option (Unit × zq_S)) (w5 : Int32) (t0 : Int64) (t1 : Int64) (s : zq_S) : Option (Unit × zq_S) :=
  zq_let (t1 + t0) (fun x10 =>
  zq_let (w5 + (1 : Int32)) (fun x11 =>
  self (x10, x11, s)))
set_option maxRecDepth 20000 in
set_option maxHeartbeats 2000000 in
theorem xX12_findRows_j94_j (N : Nat)  (f1 : Int32) (f2 : Int32) (k102 : Int64 × zq_S → Option (Unit × zq_S)) (hk102 : ∀ e, zq_X yX12_findRows RX12 cX12_findRows 6 none ⟨4, 0, 0, 91⟩ zv_v 102 [.ref 57, .int f1, .int f2, .long e.1, .null, .null] [] e.2 (k102 e)) (self : Int64 × Int32 × zq_S → Option (Unit × zq_S)) (hself : ∀ v, zq_X yX12_findRows RX12 cX12_findRows 6 none ⟨4, 0, 0, 91⟩ zv_v 46 [.ref 57, .int f1, .int f2, .long v.1, .null, .int v.2.1] [] v.2.2 (self v)) (w5 : Int32) (t0 : Int64) (t1 : Int64) (s : zq_S) : zq_X yX12_findRows RX12 cX12_findRows 6 none ⟨4, 0, 0, 91⟩ zv_v 94 [.ref 57, .int f1, .int f2, .null, .null, .int w5] [.long t0, .long t1] s (jX12_findRows_j94 N f1 f2 k102 self w5 t0 t1 s) := by
  unfold jX12_findRows_j94
  refine zx_lift (pc' := 95) (fun _ => zq_ladd dX12_findRows_94 rfl) ?_
  refine zx_lstore_n (pc' := 96) (ls' := fun x10 => [.ref 57, .int f1, .int f2, .long x10, .null, .int w5]) rfl (by decide) rfl (fun _ => rfl) dX12_findRows_95 rfl (fun x10 => ?_)
  refine zx_iinc (pc' := 99) (ls' := fun x11 => [.ref 57, .int f1, .int f2, .long x10, .null, .int x11]) rfl rfl (by decide) rfl (fun _ => rfl) dX12_findRows_96 rfl (fun x11 => ?_)
  refine zx_lift (pc' := 46) (fun _ => zq_goto dX12_findRows_99 rfl) ?_
  exact hself (x10, x11, s)
def bX12_findRows_46 (N : Nat)  (f1 : Int32) (f2 : Int32) (k102 : Int64 × zq_S → Option (Unit × zq_S)) (self : Int64 × Int32 × zq_S → Option (Unit × zq_S)) (v : Int64 × Int32 × zq_S) : Option (Unit × zq_S) :=
  if f2 < v.2.1 then
  k102 (v.1, v.2.2)
  else
  if f1 ≤ (0 : Int32) then
  k102 (v.1, v.2.2)
  else
  zq_b2 (mX12_isTime N f1 f2 v.2.2) (fun r8 s9 =>
  if r8 = (0 : Int32) then
  k102 (v.1, s9)
  else
  if (v.2.1 &&& (f2 ^^^ (-1 : Int32))) = (0 : Int32) then
  zq_ck (((1024 : Int32) * (f1 - (1 : Int32))) + v.2.1) 4096 (
  jX12_findRows_j94 N f1 f2 k102 self v.2.1 (zgl s9 94 (((1024 : Int32) * (f1 - (1 : Int32))) + v.2.1)) v.1 s9)
  else
  jX12_findRows_j94 N f1 f2 k102 self v.2.1 (0 : Int64) v.1 s9)
set_option maxRecDepth 20000 in
set_option maxHeartbeats 2000000 in
theorem xX12_findRows_46 (N : Nat)  (f1 : Int32) (f2 : Int32) (k102 : Int64 × zq_S → Option (Unit × zq_S)) (hk102 : ∀ e, zq_X yX12_findRows RX12 cX12_findRows 6 none ⟨4, 0, 0, 91⟩ zv_v 102 [.ref 57, .int f1, .int f2, .long e.1, .null, .null] [] e.2 (k102 e)) (self : Int64 × Int32 × zq_S → Option (Unit × zq_S)) (hself : ∀ v, zq_X yX12_findRows RX12 cX12_findRows 6 none ⟨4, 0, 0, 91⟩ zv_v 46 [.ref 57, .int f1, .int f2, .long v.1, .null, .int v.2.1] [] v.2.2 (self v)) (v : Int64 × Int32 × zq_S) : zq_X yX12_findRows RX12 cX12_findRows 6 none ⟨4, 0, 0, 91⟩ zv_v 46 [.ref 57, .int f1, .int f2, .long v.1, .null, .int v.2.1] [] v.2.2 (bX12_findRows_46 N f1 f2 k102 self v) := by
  unfold bX12_findRows_46
  refine zx_lift (pc' := 48) (fun _ => zq_iload rfl dX12_findRows_46 rfl) ?_
  refine zx_lift (pc' := 49) (fun _ => zq_iload_n rfl rfl dX12_findRows_48 rfl) ?_
  refine zx_icmp_gt (pc' := 52) (tgt := 102) dX12_findRows_49 rfl rfl (fun hc => ?_) (fun hc => ?_)
  · refine zx_less [.ref 57, .int f1, .int f2, .long v.1, .null, .null] (zq_cr (zq_cr (zq_cr (zq_cr (zq_cz (zq_cz zq_cn)))))) ?_
    exact hk102 (v.1, v.2.2)
  · refine zx_lift (pc' := 53) (fun _ => zq_iload_n rfl rfl dX12_findRows_52 rfl) ?_
    refine zx_if_le (pc' := 56) (tgt := 102) dX12_findRows_53 rfl rfl (fun hc => ?_) (fun hc => ?_)
    · refine zx_less [.ref 57, .int f1, .int f2, .long v.1, .null, .null] (zq_cr (zq_cr (zq_cr (zq_cr (zq_cz (zq_cz zq_cn)))))) ?_
      exact hk102 (v.1, v.2.2)
    · refine zx_lift (pc' := 57) (fun _ => zq_aload_n rfl rfl dX12_findRows_56 rfl) ?_
      refine zx_lift (pc' := 58) (fun _ => zq_iload_n rfl rfl dX12_findRows_57 rfl) ?_
      refine zx_lift (pc' := 59) (fun _ => zq_iload_n rfl rfl dX12_findRows_58 rfl) ?_
      refine zx_cVi (pc' := 62) zcv_X12_366 (cX12_isTime_mc N f1 f2 v.2.2) zob_57 rfl (by decide) (Nat.le_of_ble_eq_true rfl) dX12_findRows_59 rfl rfl (fun r8 s9 => ?_)
      refine zx_if_eq (pc' := 65) (tgt := 102) dX12_findRows_62 rfl rfl (fun hc => ?_) (fun hc => ?_)
      · refine zx_less [.ref 57, .int f1, .int f2, .long v.1, .null, .null] (zq_cr (zq_cr (zq_cr (zq_cr (zq_cz (zq_cz zq_cn)))))) ?_
        exact hk102 (v.1, s9)
      · refine zx_lift (pc' := 66) (fun _ => zq_lload_n rfl rfl dX12_findRows_65 rfl) ?_
        refine zx_lift (pc' := 68) (fun _ => zq_iload rfl dX12_findRows_66 rfl) ?_
        refine zx_lift (pc' := 69) (fun _ => zq_iload_n rfl rfl dX12_findRows_68 rfl) ?_
        refine zx_lift (pc' := 70) (fun _ => zq_iconst (v := (-1)) dX12_findRows_69 rfl rfl) ?_
        refine zx_lift (pc' := 71) (fun _ => zq_ixor dX12_findRows_70 rfl) ?_
        refine zx_lift (pc' := 72) (fun _ => zq_iand dX12_findRows_71 rfl) ?_
        refine zx_if_ne (pc' := 75) (tgt := 93) dX12_findRows_72 rfl rfl (fun hc => ?_) (fun hc => ?_)
        · refine zx_lift (pc' := 94) (fun _ => zq_lconst (v := 0) dX12_findRows_93 rfl rfl) ?_
          refine zx_less [.ref 57, .int f1, .int f2, .null, .null, .int v.2.1] (zq_cr (zq_cr (zq_cr (zq_cz (zq_cz (zq_cr zq_cn)))))) ?_
          exact xX12_findRows_j94_j N f1 f2 k102 hk102 self hself v.2.1 (0 : Int64) v.1 s9
        · refine zx_lift (pc' := 76) (fun _ => zq_aload_n rfl rfl dX12_findRows_75 rfl) ?_
          refine zx_lift (pc' := 79) (fun _ => zt_getR zfr_X12_125 zfd_57_57 dX12_findRows_76 rfl) ?_
          refine zx_lift (pc' := 82) (fun _ => zq_sipush (v := 1024) dX12_findRows_79 rfl rfl) ?_
          refine zx_lift (pc' := 83) (fun _ => zq_iload_n rfl rfl dX12_findRows_82 rfl) ?_
          refine zx_lift (pc' := 84) (fun _ => zq_iconst (v := 1) dX12_findRows_83 rfl rfl) ?_
          refine zx_lift (pc' := 85) (fun _ => zq_isub dX12_findRows_84 rfl) ?_
          refine zx_lift (pc' := 86) (fun _ => zq_imul dX12_findRows_85 rfl) ?_
          refine zx_lift (pc' := 88) (fun _ => zq_iload rfl dX12_findRows_86 rfl) ?_
          refine zx_lift (pc' := 89) (fun _ => zq_iadd dX12_findRows_88 rfl) ?_
          refine zx_laload (pc' := 90) zsh_94 dX12_findRows_89 rfl ?_
          refine zx_lift (pc' := 94) (fun _ => zq_goto dX12_findRows_90 rfl) ?_
          refine zx_less [.ref 57, .int f1, .int f2, .null, .null, .int v.2.1] (zq_cr (zq_cr (zq_cr (zq_cz (zq_cz (zq_cr zq_cn)))))) ?_
          exact xX12_findRows_j94_j N f1 f2 k102 hk102 self hself v.2.1 (zgl s9 94 (((1024 : Int32) * (f1 - (1 : Int32))) + v.2.1)) v.1 s9
theorem yX12_findRows_46 (N : Nat)  (f1 : Int32) (f2 : Int32) (k102 : Int64 × zq_S → Option (Unit × zq_S)) (hk102 : ∀ e, zq_X yX12_findRows RX12 cX12_findRows 6 none ⟨4, 0, 0, 91⟩ zv_v 102 [.ref 57, .int f1, .int f2, .long e.1, .null, .null] [] e.2 (k102 e)) (n : Nat) : ∀ v : Int64 × Int32 × zq_S, zq_X yX12_findRows RX12 cX12_findRows 6 none ⟨4, 0, 0, 91⟩ zv_v 46 [.ref 57, .int f1, .int f2, .long v.1, .null, .int v.2.1] [] v.2.2 (zq_loop (bX12_findRows_46 N f1 f2 k102) n v) := by
  induction n with
  | zero => exact fun v u hu => by cases hu
  | succ n ih =>
    intro v
    rw [zq_loop_s]
    exact xX12_findRows_46 N f1 f2 k102 hk102 (zq_loop (bX12_findRows_46 N f1 f2 k102) n) ih v
def jX12_findRows_j102 (N : Nat)  (f1 : Int32) (k121 : zq_S → Option (Unit × zq_S)) (self : Int32 × zq_S → Option (Unit × zq_S)) (w2 : Int32) (w3 : Int64) (s : zq_S) : Option (Unit × zq_S) :=
  zq_ck (((1024 : Int32) * f1) + w2) 4096 (
  zq_let (zpl s 94 (((1024 : Int32) * f1) + w2) w3) (fun s13 =>
  zq_let (w2 + (1 : Int32)) (fun x14 =>
  self (x14, s13))))
set_option maxRecDepth 20000 in
set_option maxHeartbeats 2000000 in
theorem xX12_findRows_j102_j (N : Nat)  (f1 : Int32) (k121 : zq_S → Option (Unit × zq_S)) (hk121 : ∀ e, zq_X yX12_findRows RX12 cX12_findRows 6 none ⟨4, 0, 0, 91⟩ zv_v 121 [.ref 57, .int f1, .null, .null, .null, .null] [] e (k121 e)) (self : Int32 × zq_S → Option (Unit × zq_S)) (hself : ∀ v, zq_X yX12_findRows RX12 cX12_findRows 6 none ⟨4, 0, 0, 91⟩ zv_v 16 [.ref 57, .int f1, .int v.1, .null, .null, .null] [] v.2 (self v)) (w2 : Int32) (w3 : Int64) (s : zq_S) : zq_X yX12_findRows RX12 cX12_findRows 6 none ⟨4, 0, 0, 91⟩ zv_v 102 [.ref 57, .int f1, .int w2, .long w3, .null, .null] [] s (jX12_findRows_j102 N f1 k121 self w2 w3 s) := by
  unfold jX12_findRows_j102
  refine zx_lift (pc' := 103) (fun _ => zq_aload_n rfl rfl dX12_findRows_102 rfl) ?_
  refine zx_lift (pc' := 106) (fun _ => zt_getR zfr_X12_125 zfd_57_57 dX12_findRows_103 rfl) ?_
  refine zx_lift (pc' := 109) (fun _ => zq_sipush (v := 1024) dX12_findRows_106 rfl rfl) ?_
  refine zx_lift (pc' := 110) (fun _ => zq_iload_n rfl rfl dX12_findRows_109 rfl) ?_
  refine zx_lift (pc' := 111) (fun _ => zq_imul dX12_findRows_110 rfl) ?_
  refine zx_lift (pc' := 112) (fun _ => zq_iload_n rfl rfl dX12_findRows_111 rfl) ?_
  refine zx_lift (pc' := 113) (fun _ => zq_iadd dX12_findRows_112 rfl) ?_
  refine zx_lift (pc' := 114) (fun _ => zq_lload_n rfl rfl dX12_findRows_113 rfl) ?_
  refine zx_lastore (pc' := 115) zsh_94 dX12_findRows_114 rfl (fun s13 => ?_)
  refine zx_iinc (pc' := 118) (ls' := fun x14 => [.ref 57, .int f1, .int x14, .long w3, .null, .null]) rfl rfl (by decide) rfl (fun _ => rfl) dX12_findRows_115 rfl (fun x14 => ?_)
  refine zx_lift (pc' := 16) (fun _ => zq_goto dX12_findRows_118 rfl) ?_
  refine zx_less [.ref 57, .int f1, .int x14, .null, .null, .null] (zq_cr (zq_cr (zq_cr (zq_cz (zq_cz (zq_cz zq_cn)))))) ?_
  exact hself (x14, s13)
def bX12_findRows_16 (N : Nat)  (f1 : Int32) (k121 : zq_S → Option (Unit × zq_S)) (self : Int32 × zq_S → Option (Unit × zq_S)) (v : Int32 × zq_S) : Option (Unit × zq_S) :=
  zq_b2 (mX12_all N v.2) (fun r3 s4 =>
  if r3 < v.1 then
  k121 s4
  else
  zq_b2 (mX12_isTime N f1 v.1 s4) (fun r5 s6 =>
  zq_let (if r5 = (0 : Int32) then (0 : Int64) else (if f1 = (0 : Int32) then (1 : Int64) else (0 : Int64))) (fun x7 =>
  zq_loop (bX12_findRows_46 N f1 v.1 (fun e12 =>
  jX12_findRows_j102 N f1 k121 self v.1 e12.1 e12.2)) N (x7, (0 : Int32), s6))))
set_option maxRecDepth 20000 in
set_option maxHeartbeats 2000000 in
theorem xX12_findRows_16 (N : Nat)  (f1 : Int32) (k121 : zq_S → Option (Unit × zq_S)) (hk121 : ∀ e, zq_X yX12_findRows RX12 cX12_findRows 6 none ⟨4, 0, 0, 91⟩ zv_v 121 [.ref 57, .int f1, .null, .null, .null, .null] [] e (k121 e)) (self : Int32 × zq_S → Option (Unit × zq_S)) (hself : ∀ v, zq_X yX12_findRows RX12 cX12_findRows 6 none ⟨4, 0, 0, 91⟩ zv_v 16 [.ref 57, .int f1, .int v.1, .null, .null, .null] [] v.2 (self v)) (v : Int32 × zq_S) : zq_X yX12_findRows RX12 cX12_findRows 6 none ⟨4, 0, 0, 91⟩ zv_v 16 [.ref 57, .int f1, .int v.1, .null, .null, .null] [] v.2 (bX12_findRows_16 N f1 k121 self v) := by
  unfold bX12_findRows_16
  refine zx_lift (pc' := 17) (fun _ => zq_iload_n rfl rfl dX12_findRows_16 rfl) ?_
  refine zx_lift (pc' := 18) (fun _ => zq_aload_n rfl rfl dX12_findRows_17 rfl) ?_
  refine zx_cVi (pc' := 21) zcv_X12_148 (cX12_all_mc N v.2) zob_57 rfl (by decide) (Nat.le_of_ble_eq_true rfl) dX12_findRows_18 rfl rfl (fun r3 s4 => ?_)
  refine zx_icmp_gt (pc' := 24) (tgt := 121) dX12_findRows_21 rfl rfl (fun hc => ?_) (fun hc => ?_)
  · refine zx_less [.ref 57, .int f1, .null, .null, .null, .null] (zq_cr (zq_cr (zq_cz (zq_cz (zq_cz (zq_cz zq_cn)))))) ?_
    exact hk121 s4
  · refine zx_lift (pc' := 25) (fun _ => zq_aload_n rfl rfl dX12_findRows_24 rfl) ?_
    refine zx_lift (pc' := 26) (fun _ => zq_iload_n rfl rfl dX12_findRows_25 rfl) ?_
    refine zx_lift (pc' := 27) (fun _ => zq_iload_n rfl rfl dX12_findRows_26 rfl) ?_
    refine zx_cVi (pc' := 30) zcv_X12_366 (cX12_isTime_mc N f1 v.1 s4) zob_57 rfl (by decide) (Nat.le_of_ble_eq_true rfl) dX12_findRows_27 rfl rfl (fun r5 s6 => ?_)
    refine zx_tern (pcJ := 42) (lsJ := fun x7 => [.ref 57, .int f1, .int v.1, .null, .null, .null]) (stJ := fun x7 => [.long x7]) (fun x7 => ?_) (fun f hJ => ?_)
    rotate_left
    · refine zx_lif_eq (pc' := 33) (tgt := 41) dX12_findRows_30 rfl rfl (fun _ => ?_) (fun _ => ?_)
      · refine zx_lift (pc' := 42) (fun _ => zq_lconst (v := 0) dX12_findRows_41 rfl rfl) ?_
        exact zx_lessJ (zq_cr (zq_cr (zq_cr (zq_cz (zq_cz (zq_cz zq_cn)))))) (hJ _)
      · refine zx_lift (pc' := 34) (fun _ => zq_iload_n rfl rfl dX12_findRows_33 rfl) ?_
        refine zx_lif_ne (pc' := 37) (tgt := 41) dX12_findRows_34 rfl rfl (fun _ => ?_) (fun _ => ?_)
        · refine zx_lift (pc' := 42) (fun _ => zq_lconst (v := 0) dX12_findRows_41 rfl rfl) ?_
          exact zx_lessJ (zq_cr (zq_cr (zq_cr (zq_cz (zq_cz (zq_cz zq_cn)))))) (hJ _)
        · refine zx_lift (pc' := 38) (fun _ => zq_lconst (v := 1) dX12_findRows_37 rfl rfl) ?_
          refine zx_lift (pc' := 42) (fun _ => zq_goto dX12_findRows_38 rfl) ?_
          exact zx_lessJ (zq_cr (zq_cr (zq_cr (zq_cz (zq_cz (zq_cz zq_cn)))))) (hJ _)
    refine zx_lift (pc' := 43) (fun _ => zq_lstore_n (ls' := [.ref 57, .int f1, .int v.1, .long x7, .null, .null]) rfl (by decide) rfl rfl dX12_findRows_42 rfl) ?_
    refine zx_lift (pc' := 44) (fun _ => zq_iconst (v := 0) dX12_findRows_43 rfl rfl) ?_
    refine zx_lift (pc' := 46) (fun _ => zq_istore (ls' := [.ref 57, .int f1, .int v.1, .long x7, .null, .int (0 : Int32)]) (by decide) rfl rfl dX12_findRows_44 rfl) ?_
    refine yX12_findRows_46 N f1 v.1 _ (fun e12 => ?_) N (x7, (0 : Int32), s6)
    exact xX12_findRows_j102_j N f1 k121 hk121 self hself v.1 e12.1 e12.2
theorem yX12_findRows_16 (N : Nat)  (f1 : Int32) (k121 : zq_S → Option (Unit × zq_S)) (hk121 : ∀ e, zq_X yX12_findRows RX12 cX12_findRows 6 none ⟨4, 0, 0, 91⟩ zv_v 121 [.ref 57, .int f1, .null, .null, .null, .null] [] e (k121 e)) (n : Nat) : ∀ v : Int32 × zq_S, zq_X yX12_findRows RX12 cX12_findRows 6 none ⟨4, 0, 0, 91⟩ zv_v 16 [.ref 57, .int f1, .int v.1, .null, .null, .null] [] v.2 (zq_loop (bX12_findRows_16 N f1 k121) n v) := by
  induction n with
  | zero => exact fun v u hu => by cases hu
  | succ n ih =>
    intro v
    rw [zq_loop_s]
    exact xX12_findRows_16 N f1 k121 hk121 (zq_loop (bX12_findRows_16 N f1 k121) n) ih v
def bX12_findRows_6 (N : Nat)   (k127 : zq_S → Option (Unit × zq_S)) (self : Int32 × zq_S → Option (Unit × zq_S)) (v : Int32 × zq_S) : Option (Unit × zq_S) :=
  if (zgf v.2 57 54) ≤ v.1 then
  k127 v.2
  else
  zq_loop (bX12_findRows_16 N v.1 (fun e15 =>
  zq_let (v.1 + (1 : Int32)) (fun x16 =>
  self (x16, e15)))) N ((0 : Int32), v.2)
set_option maxRecDepth 20000 in
set_option maxHeartbeats 2000000 in
theorem xX12_findRows_6 (N : Nat)   (k127 : zq_S → Option (Unit × zq_S)) (hk127 : ∀ e, zq_X yX12_findRows RX12 cX12_findRows 6 none ⟨4, 0, 0, 91⟩ zv_v 127 [.ref 57, .null, .null, .null, .null, .null] [] e (k127 e)) (self : Int32 × zq_S → Option (Unit × zq_S)) (hself : ∀ v, zq_X yX12_findRows RX12 cX12_findRows 6 none ⟨4, 0, 0, 91⟩ zv_v 6 [.ref 57, .int v.1, .null, .null, .null, .null] [] v.2 (self v)) (v : Int32 × zq_S) : zq_X yX12_findRows RX12 cX12_findRows 6 none ⟨4, 0, 0, 91⟩ zv_v 6 [.ref 57, .int v.1, .null, .null, .null, .null] [] v.2 (bX12_findRows_6 N k127 self v) := by
  unfold bX12_findRows_6
  refine zx_lift (pc' := 7) (fun _ => zq_iload_n rfl rfl dX12_findRows_6 rfl) ?_
  refine zx_lift (pc' := 8) (fun _ => zq_aload_n rfl rfl dX12_findRows_7 rfl) ?_
  refine zx_lift (pc' := 11) (fun _ => zt_getI zfr_X12_295 zfd_57_54 dX12_findRows_8 rfl) ?_
  refine zx_icmp_ge (pc' := 14) (tgt := 127) dX12_findRows_11 rfl rfl (fun hc => ?_) (fun hc => ?_)
  · refine zx_less [.ref 57, .null, .null, .null, .null, .null] (zq_cr (zq_cz (zq_cz (zq_cz (zq_cz (zq_cz zq_cn)))))) ?_
    exact hk127 v.2
  · refine zx_lift (pc' := 15) (fun _ => zq_iconst (v := 0) dX12_findRows_14 rfl rfl) ?_
    refine zx_lift (pc' := 16) (fun _ => zq_istore_n (ls' := [.ref 57, .int v.1, .int (0 : Int32), .null, .null, .null]) rfl (by decide) rfl rfl dX12_findRows_15 rfl) ?_
    refine yX12_findRows_16 N v.1 _ (fun e15 => ?_) N ((0 : Int32), v.2)
    refine zx_iinc (pc' := 124) (ls' := fun x16 => [.ref 57, .int x16, .null, .null, .null, .null]) rfl rfl (by decide) rfl (fun _ => rfl) dX12_findRows_121 rfl (fun x16 => ?_)
    refine zx_lift (pc' := 6) (fun _ => zq_goto dX12_findRows_124 rfl) ?_
    exact hself (x16, e15)
theorem yX12_findRows_6 (N : Nat)   (k127 : zq_S → Option (Unit × zq_S)) (hk127 : ∀ e, zq_X yX12_findRows RX12 cX12_findRows 6 none ⟨4, 0, 0, 91⟩ zv_v 127 [.ref 57, .null, .null, .null, .null, .null] [] e (k127 e)) (n : Nat) : ∀ v : Int32 × zq_S, zq_X yX12_findRows RX12 cX12_findRows 6 none ⟨4, 0, 0, 91⟩ zv_v 6 [.ref 57, .int v.1, .null, .null, .null, .null] [] v.2 (zq_loop (bX12_findRows_6 N k127) n v) := by
  induction n with
  | zero => exact fun v u hu => by cases hu
  | succ n ih =>
    intro v
    rw [zq_loop_s]
    exact xX12_findRows_6 N k127 hk127 (zq_loop (bX12_findRows_6 N k127) n) ih v
def jX12_findRows_j233 (N : Nat)  (f1 : Int32) (f2 : Int32) (k241 : Int64 × zq_S → Option (Unit × zq_S)) (self : Int64 × Int32 × zq_S → Option (Unit × zq_S)) (w5 : Int32) (t0 : Int64) (t1 : Int64) (s : zq_S) : Option (Unit × zq_S) :=
  zq_let (t1 + t0) (fun x28 =>
  zq_let (w5 + (1 : Int32)) (fun x29 =>
  self (x28, x29, s)))
set_option maxRecDepth 20000 in
set_option maxHeartbeats 2000000 in
theorem xX12_findRows_j233_j (N : Nat)  (f1 : Int32) (f2 : Int32) (k241 : Int64 × zq_S → Option (Unit × zq_S)) (hk241 : ∀ e, zq_X yX12_findRows RX12 cX12_findRows 6 none ⟨4, 0, 0, 91⟩ zv_v 241 [.ref 57, .int f1, .int f2, .long e.1, .null, .null] [] e.2 (k241 e)) (self : Int64 × Int32 × zq_S → Option (Unit × zq_S)) (hself : ∀ v, zq_X yX12_findRows RX12 cX12_findRows 6 none ⟨4, 0, 0, 91⟩ zv_v 176 [.ref 57, .int f1, .int f2, .long v.1, .null, .int v.2.1] [] v.2.2 (self v)) (w5 : Int32) (t0 : Int64) (t1 : Int64) (s : zq_S) : zq_X yX12_findRows RX12 cX12_findRows 6 none ⟨4, 0, 0, 91⟩ zv_v 233 [.ref 57, .int f1, .int f2, .null, .null, .int w5] [.long t0, .long t1] s (jX12_findRows_j233 N f1 f2 k241 self w5 t0 t1 s) := by
  unfold jX12_findRows_j233
  refine zx_lift (pc' := 234) (fun _ => zq_ladd dX12_findRows_233 rfl) ?_
  refine zx_lstore_n (pc' := 235) (ls' := fun x28 => [.ref 57, .int f1, .int f2, .long x28, .null, .int w5]) rfl (by decide) rfl (fun _ => rfl) dX12_findRows_234 rfl (fun x28 => ?_)
  refine zx_iinc (pc' := 238) (ls' := fun x29 => [.ref 57, .int f1, .int f2, .long x28, .null, .int x29]) rfl rfl (by decide) rfl (fun _ => rfl) dX12_findRows_235 rfl (fun x29 => ?_)
  refine zx_lift (pc' := 176) (fun _ => zq_goto dX12_findRows_238 rfl) ?_
  exact hself (x28, x29, s)
def bX12_findRows_176 (N : Nat)  (f1 : Int32) (f2 : Int32) (k241 : Int64 × zq_S → Option (Unit × zq_S)) (self : Int64 × Int32 × zq_S → Option (Unit × zq_S)) (v : Int64 × Int32 × zq_S) : Option (Unit × zq_S) :=
  zq_b2 (mX12_all N v.2.2) (fun r24 s25 =>
  if r24 < v.2.1 then
  k241 (v.1, s25)
  else
  if ((zgf s25 57 54) - (1 : Int32)) ≤ f1 then
  k241 (v.1, s25)
  else
  zq_b2 (mX12_isTime N f1 f2 s25) (fun r26 s27 =>
  if r26 = (0 : Int32) then
  k241 (v.1, s27)
  else
  if (f2 &&& (v.2.1 ^^^ (-1 : Int32))) = (0 : Int32) then
  zq_ck (((1024 : Int32) * (f1 + (1 : Int32))) + v.2.1) 4096 (
  jX12_findRows_j233 N f1 f2 k241 self v.2.1 (zgl s27 95 (((1024 : Int32) * (f1 + (1 : Int32))) + v.2.1)) v.1 s27)
  else
  jX12_findRows_j233 N f1 f2 k241 self v.2.1 (0 : Int64) v.1 s27))
set_option maxRecDepth 20000 in
set_option maxHeartbeats 2000000 in
theorem xX12_findRows_176 (N : Nat)  (f1 : Int32) (f2 : Int32) (k241 : Int64 × zq_S → Option (Unit × zq_S)) (hk241 : ∀ e, zq_X yX12_findRows RX12 cX12_findRows 6 none ⟨4, 0, 0, 91⟩ zv_v 241 [.ref 57, .int f1, .int f2, .long e.1, .null, .null] [] e.2 (k241 e)) (self : Int64 × Int32 × zq_S → Option (Unit × zq_S)) (hself : ∀ v, zq_X yX12_findRows RX12 cX12_findRows 6 none ⟨4, 0, 0, 91⟩ zv_v 176 [.ref 57, .int f1, .int f2, .long v.1, .null, .int v.2.1] [] v.2.2 (self v)) (v : Int64 × Int32 × zq_S) : zq_X yX12_findRows RX12 cX12_findRows 6 none ⟨4, 0, 0, 91⟩ zv_v 176 [.ref 57, .int f1, .int f2, .long v.1, .null, .int v.2.1] [] v.2.2 (bX12_findRows_176 N f1 f2 k241 self v) := by
  unfold bX12_findRows_176
  refine zx_lift (pc' := 178) (fun _ => zq_iload rfl dX12_findRows_176 rfl) ?_
  refine zx_lift (pc' := 179) (fun _ => zq_aload_n rfl rfl dX12_findRows_178 rfl) ?_
  refine zx_cVi (pc' := 182) zcv_X12_148 (cX12_all_mc N v.2.2) zob_57 rfl (by decide) (Nat.le_of_ble_eq_true rfl) dX12_findRows_179 rfl rfl (fun r24 s25 => ?_)
  refine zx_icmp_gt (pc' := 185) (tgt := 241) dX12_findRows_182 rfl rfl (fun hc => ?_) (fun hc => ?_)
  · refine zx_less [.ref 57, .int f1, .int f2, .long v.1, .null, .null] (zq_cr (zq_cr (zq_cr (zq_cr (zq_cz (zq_cz zq_cn)))))) ?_
    exact hk241 (v.1, s25)
  · refine zx_lift (pc' := 186) (fun _ => zq_iload_n rfl rfl dX12_findRows_185 rfl) ?_
    refine zx_lift (pc' := 187) (fun _ => zq_aload_n rfl rfl dX12_findRows_186 rfl) ?_
    refine zx_lift (pc' := 190) (fun _ => zt_getI zfr_X12_295 zfd_57_54 dX12_findRows_187 rfl) ?_
    refine zx_lift (pc' := 191) (fun _ => zq_iconst (v := 1) dX12_findRows_190 rfl rfl) ?_
    refine zx_lift (pc' := 192) (fun _ => zq_isub dX12_findRows_191 rfl) ?_
    refine zx_icmp_ge (pc' := 195) (tgt := 241) dX12_findRows_192 rfl rfl (fun hc => ?_) (fun hc => ?_)
    · refine zx_less [.ref 57, .int f1, .int f2, .long v.1, .null, .null] (zq_cr (zq_cr (zq_cr (zq_cr (zq_cz (zq_cz zq_cn)))))) ?_
      exact hk241 (v.1, s25)
    · refine zx_lift (pc' := 196) (fun _ => zq_aload_n rfl rfl dX12_findRows_195 rfl) ?_
      refine zx_lift (pc' := 197) (fun _ => zq_iload_n rfl rfl dX12_findRows_196 rfl) ?_
      refine zx_lift (pc' := 198) (fun _ => zq_iload_n rfl rfl dX12_findRows_197 rfl) ?_
      refine zx_cVi (pc' := 201) zcv_X12_366 (cX12_isTime_mc N f1 f2 s25) zob_57 rfl (by decide) (Nat.le_of_ble_eq_true rfl) dX12_findRows_198 rfl rfl (fun r26 s27 => ?_)
      refine zx_if_eq (pc' := 204) (tgt := 241) dX12_findRows_201 rfl rfl (fun hc => ?_) (fun hc => ?_)
      · refine zx_less [.ref 57, .int f1, .int f2, .long v.1, .null, .null] (zq_cr (zq_cr (zq_cr (zq_cr (zq_cz (zq_cz zq_cn)))))) ?_
        exact hk241 (v.1, s27)
      · refine zx_lift (pc' := 205) (fun _ => zq_lload_n rfl rfl dX12_findRows_204 rfl) ?_
        refine zx_lift (pc' := 206) (fun _ => zq_iload_n rfl rfl dX12_findRows_205 rfl) ?_
        refine zx_lift (pc' := 208) (fun _ => zq_iload rfl dX12_findRows_206 rfl) ?_
        refine zx_lift (pc' := 209) (fun _ => zq_iconst (v := (-1)) dX12_findRows_208 rfl rfl) ?_
        refine zx_lift (pc' := 210) (fun _ => zq_ixor dX12_findRows_209 rfl) ?_
        refine zx_lift (pc' := 211) (fun _ => zq_iand dX12_findRows_210 rfl) ?_
        refine zx_if_ne (pc' := 214) (tgt := 232) dX12_findRows_211 rfl rfl (fun hc => ?_) (fun hc => ?_)
        · refine zx_lift (pc' := 233) (fun _ => zq_lconst (v := 0) dX12_findRows_232 rfl rfl) ?_
          refine zx_less [.ref 57, .int f1, .int f2, .null, .null, .int v.2.1] (zq_cr (zq_cr (zq_cr (zq_cz (zq_cz (zq_cr zq_cn)))))) ?_
          exact xX12_findRows_j233_j N f1 f2 k241 hk241 self hself v.2.1 (0 : Int64) v.1 s27
        · refine zx_lift (pc' := 215) (fun _ => zq_aload_n rfl rfl dX12_findRows_214 rfl) ?_
          refine zx_lift (pc' := 218) (fun _ => zt_getR zfr_X12_128 zfd_57_58 dX12_findRows_215 rfl) ?_
          refine zx_lift (pc' := 221) (fun _ => zq_sipush (v := 1024) dX12_findRows_218 rfl rfl) ?_
          refine zx_lift (pc' := 222) (fun _ => zq_iload_n rfl rfl dX12_findRows_221 rfl) ?_
          refine zx_lift (pc' := 223) (fun _ => zq_iconst (v := 1) dX12_findRows_222 rfl rfl) ?_
          refine zx_lift (pc' := 224) (fun _ => zq_iadd dX12_findRows_223 rfl) ?_
          refine zx_lift (pc' := 225) (fun _ => zq_imul dX12_findRows_224 rfl) ?_
          refine zx_lift (pc' := 227) (fun _ => zq_iload rfl dX12_findRows_225 rfl) ?_
          refine zx_lift (pc' := 228) (fun _ => zq_iadd dX12_findRows_227 rfl) ?_
          refine zx_laload (pc' := 229) zsh_95 dX12_findRows_228 rfl ?_
          refine zx_lift (pc' := 233) (fun _ => zq_goto dX12_findRows_229 rfl) ?_
          refine zx_less [.ref 57, .int f1, .int f2, .null, .null, .int v.2.1] (zq_cr (zq_cr (zq_cr (zq_cz (zq_cz (zq_cr zq_cn)))))) ?_
          exact xX12_findRows_j233_j N f1 f2 k241 hk241 self hself v.2.1 (zgl s27 95 (((1024 : Int32) * (f1 + (1 : Int32))) + v.2.1)) v.1 s27
theorem yX12_findRows_176 (N : Nat)  (f1 : Int32) (f2 : Int32) (k241 : Int64 × zq_S → Option (Unit × zq_S)) (hk241 : ∀ e, zq_X yX12_findRows RX12 cX12_findRows 6 none ⟨4, 0, 0, 91⟩ zv_v 241 [.ref 57, .int f1, .int f2, .long e.1, .null, .null] [] e.2 (k241 e)) (n : Nat) : ∀ v : Int64 × Int32 × zq_S, zq_X yX12_findRows RX12 cX12_findRows 6 none ⟨4, 0, 0, 91⟩ zv_v 176 [.ref 57, .int f1, .int f2, .long v.1, .null, .int v.2.1] [] v.2.2 (zq_loop (bX12_findRows_176 N f1 f2 k241) n v) := by
  induction n with
  | zero => exact fun v u hu => by cases hu
  | succ n ih =>
    intro v
    rw [zq_loop_s]
    exact xX12_findRows_176 N f1 f2 k241 hk241 (zq_loop (bX12_findRows_176 N f1 f2 k241) n) ih v
def jX12_findRows_j241 (N : Nat)  (f1 : Int32) (k260 : zq_S → Option (Unit × zq_S)) (self : Int32 × zq_S → Option (Unit × zq_S)) (w2 : Int32) (w3 : Int64) (s : zq_S) : Option (Unit × zq_S) :=
  zq_ck (((1024 : Int32) * f1) + w2) 4096 (
  zq_let (zpl s 95 (((1024 : Int32) * f1) + w2) w3) (fun s31 =>
  zq_let (w2 + (1 : Int32)) (fun x32 =>
  self (x32, s31))))
set_option maxRecDepth 20000 in
set_option maxHeartbeats 2000000 in
theorem xX12_findRows_j241_j (N : Nat)  (f1 : Int32) (k260 : zq_S → Option (Unit × zq_S)) (hk260 : ∀ e, zq_X yX12_findRows RX12 cX12_findRows 6 none ⟨4, 0, 0, 91⟩ zv_v 260 [.ref 57, .int f1, .null, .null, .null, .null] [] e (k260 e)) (self : Int32 × zq_S → Option (Unit × zq_S)) (hself : ∀ v, zq_X yX12_findRows RX12 cX12_findRows 6 none ⟨4, 0, 0, 91⟩ zv_v 140 [.ref 57, .int f1, .int v.1, .null, .null, .null] [] v.2 (self v)) (w2 : Int32) (w3 : Int64) (s : zq_S) : zq_X yX12_findRows RX12 cX12_findRows 6 none ⟨4, 0, 0, 91⟩ zv_v 241 [.ref 57, .int f1, .int w2, .long w3, .null, .null] [] s (jX12_findRows_j241 N f1 k260 self w2 w3 s) := by
  unfold jX12_findRows_j241
  refine zx_lift (pc' := 242) (fun _ => zq_aload_n rfl rfl dX12_findRows_241 rfl) ?_
  refine zx_lift (pc' := 245) (fun _ => zt_getR zfr_X12_128 zfd_57_58 dX12_findRows_242 rfl) ?_
  refine zx_lift (pc' := 248) (fun _ => zq_sipush (v := 1024) dX12_findRows_245 rfl rfl) ?_
  refine zx_lift (pc' := 249) (fun _ => zq_iload_n rfl rfl dX12_findRows_248 rfl) ?_
  refine zx_lift (pc' := 250) (fun _ => zq_imul dX12_findRows_249 rfl) ?_
  refine zx_lift (pc' := 251) (fun _ => zq_iload_n rfl rfl dX12_findRows_250 rfl) ?_
  refine zx_lift (pc' := 252) (fun _ => zq_iadd dX12_findRows_251 rfl) ?_
  refine zx_lift (pc' := 253) (fun _ => zq_lload_n rfl rfl dX12_findRows_252 rfl) ?_
  refine zx_lastore (pc' := 254) zsh_95 dX12_findRows_253 rfl (fun s31 => ?_)
  refine zx_iinc (pc' := 257) (ls' := fun x32 => [.ref 57, .int f1, .int x32, .long w3, .null, .null]) rfl rfl (by decide) rfl (fun _ => rfl) dX12_findRows_254 rfl (fun x32 => ?_)
  refine zx_lift (pc' := 140) (fun _ => zq_goto dX12_findRows_257 rfl) ?_
  refine zx_less [.ref 57, .int f1, .int x32, .null, .null, .null] (zq_cr (zq_cr (zq_cr (zq_cz (zq_cz (zq_cz zq_cn)))))) ?_
  exact hself (x32, s31)
def bX12_findRows_140 (N : Nat)  (f1 : Int32) (k260 : zq_S → Option (Unit × zq_S)) (self : Int32 × zq_S → Option (Unit × zq_S)) (v : Int32 × zq_S) : Option (Unit × zq_S) :=
  zq_b2 (mX12_all N v.2) (fun r19 s20 =>
  if r19 < v.1 then
  k260 s20
  else
  zq_b2 (mX12_isTime N f1 v.1 s20) (fun r21 s22 =>
  zq_let (if r21 = (0 : Int32) then (0 : Int64) else (if f1 = ((zgf s22 57 54) - (1 : Int32)) then (1 : Int64) else (0 : Int64))) (fun x23 =>
  zq_loop (bX12_findRows_176 N f1 v.1 (fun e30 =>
  jX12_findRows_j241 N f1 k260 self v.1 e30.1 e30.2)) N (x23, v.1, s22))))
set_option maxRecDepth 20000 in
set_option maxHeartbeats 2000000 in
theorem xX12_findRows_140 (N : Nat)  (f1 : Int32) (k260 : zq_S → Option (Unit × zq_S)) (hk260 : ∀ e, zq_X yX12_findRows RX12 cX12_findRows 6 none ⟨4, 0, 0, 91⟩ zv_v 260 [.ref 57, .int f1, .null, .null, .null, .null] [] e (k260 e)) (self : Int32 × zq_S → Option (Unit × zq_S)) (hself : ∀ v, zq_X yX12_findRows RX12 cX12_findRows 6 none ⟨4, 0, 0, 91⟩ zv_v 140 [.ref 57, .int f1, .int v.1, .null, .null, .null] [] v.2 (self v)) (v : Int32 × zq_S) : zq_X yX12_findRows RX12 cX12_findRows 6 none ⟨4, 0, 0, 91⟩ zv_v 140 [.ref 57, .int f1, .int v.1, .null, .null, .null] [] v.2 (bX12_findRows_140 N f1 k260 self v) := by
  unfold bX12_findRows_140
  refine zx_lift (pc' := 141) (fun _ => zq_iload_n rfl rfl dX12_findRows_140 rfl) ?_
  refine zx_lift (pc' := 142) (fun _ => zq_aload_n rfl rfl dX12_findRows_141 rfl) ?_
  refine zx_cVi (pc' := 145) zcv_X12_148 (cX12_all_mc N v.2) zob_57 rfl (by decide) (Nat.le_of_ble_eq_true rfl) dX12_findRows_142 rfl rfl (fun r19 s20 => ?_)
  refine zx_icmp_gt (pc' := 148) (tgt := 260) dX12_findRows_145 rfl rfl (fun hc => ?_) (fun hc => ?_)
  · refine zx_less [.ref 57, .int f1, .null, .null, .null, .null] (zq_cr (zq_cr (zq_cz (zq_cz (zq_cz (zq_cz zq_cn)))))) ?_
    exact hk260 s20
  · refine zx_lift (pc' := 149) (fun _ => zq_aload_n rfl rfl dX12_findRows_148 rfl) ?_
    refine zx_lift (pc' := 150) (fun _ => zq_iload_n rfl rfl dX12_findRows_149 rfl) ?_
    refine zx_lift (pc' := 151) (fun _ => zq_iload_n rfl rfl dX12_findRows_150 rfl) ?_
    refine zx_cVi (pc' := 154) zcv_X12_366 (cX12_isTime_mc N f1 v.1 s20) zob_57 rfl (by decide) (Nat.le_of_ble_eq_true rfl) dX12_findRows_151 rfl rfl (fun r21 s22 => ?_)
    refine zx_tern (pcJ := 172) (lsJ := fun x23 => [.ref 57, .int f1, .int v.1, .null, .null, .null]) (stJ := fun x23 => [.long x23]) (fun x23 => ?_) (fun f hJ => ?_)
    rotate_left
    · refine zx_lif_eq (pc' := 157) (tgt := 171) dX12_findRows_154 rfl rfl (fun _ => ?_) (fun _ => ?_)
      · refine zx_lift (pc' := 172) (fun _ => zq_lconst (v := 0) dX12_findRows_171 rfl rfl) ?_
        exact zx_lessJ (zq_cr (zq_cr (zq_cr (zq_cz (zq_cz (zq_cz zq_cn)))))) (hJ _)
      · refine zx_lift (pc' := 158) (fun _ => zq_iload_n rfl rfl dX12_findRows_157 rfl) ?_
        refine zx_lift (pc' := 159) (fun _ => zq_aload_n rfl rfl dX12_findRows_158 rfl) ?_
        refine zx_lift (pc' := 162) (fun _ => zt_getI zfr_X12_295 zfd_57_54 dX12_findRows_159 rfl) ?_
        refine zx_lift (pc' := 163) (fun _ => zq_iconst (v := 1) dX12_findRows_162 rfl rfl) ?_
        refine zx_lift (pc' := 164) (fun _ => zq_isub dX12_findRows_163 rfl) ?_
        refine zx_licmp_ne (pc' := 167) (tgt := 171) dX12_findRows_164 rfl rfl (fun _ => ?_) (fun _ => ?_)
        · refine zx_lift (pc' := 172) (fun _ => zq_lconst (v := 0) dX12_findRows_171 rfl rfl) ?_
          exact zx_lessJ (zq_cr (zq_cr (zq_cr (zq_cz (zq_cz (zq_cz zq_cn)))))) (hJ _)
        · refine zx_lift (pc' := 168) (fun _ => zq_lconst (v := 1) dX12_findRows_167 rfl rfl) ?_
          refine zx_lift (pc' := 172) (fun _ => zq_goto dX12_findRows_168 rfl) ?_
          exact zx_lessJ (zq_cr (zq_cr (zq_cr (zq_cz (zq_cz (zq_cz zq_cn)))))) (hJ _)
    refine zx_lift (pc' := 173) (fun _ => zq_lstore_n (ls' := [.ref 57, .int f1, .int v.1, .long x23, .null, .null]) rfl (by decide) rfl rfl dX12_findRows_172 rfl) ?_
    refine zx_lift (pc' := 174) (fun _ => zq_iload_n rfl rfl dX12_findRows_173 rfl) ?_
    refine zx_lift (pc' := 176) (fun _ => zq_istore (ls' := [.ref 57, .int f1, .int v.1, .long x23, .null, .int v.1]) (by decide) rfl rfl dX12_findRows_174 rfl) ?_
    refine yX12_findRows_176 N f1 v.1 _ (fun e30 => ?_) N (x23, v.1, s22)
    exact xX12_findRows_j241_j N f1 k260 hk260 self hself v.1 e30.1 e30.2
theorem yX12_findRows_140 (N : Nat)  (f1 : Int32) (k260 : zq_S → Option (Unit × zq_S)) (hk260 : ∀ e, zq_X yX12_findRows RX12 cX12_findRows 6 none ⟨4, 0, 0, 91⟩ zv_v 260 [.ref 57, .int f1, .null, .null, .null, .null] [] e (k260 e)) (n : Nat) : ∀ v : Int32 × zq_S, zq_X yX12_findRows RX12 cX12_findRows 6 none ⟨4, 0, 0, 91⟩ zv_v 140 [.ref 57, .int f1, .int v.1, .null, .null, .null] [] v.2 (zq_loop (bX12_findRows_140 N f1 k260) n v) := by
  induction n with
  | zero => exact fun v u hu => by cases hu
  | succ n ih =>
    intro v
    rw [zq_loop_s]
    exact xX12_findRows_140 N f1 k260 hk260 (zq_loop (bX12_findRows_140 N f1 k260) n) ih v
def bX12_findRows_134 (N : Nat)    (self : Int32 × zq_S → Option (Unit × zq_S)) (v : Int32 × zq_S) : Option (Unit × zq_S) :=
  if v.1 < (0 : Int32) then
  some ((), v.2)
  else
  zq_loop (bX12_findRows_140 N v.1 (fun e33 =>
  zq_let (v.1 + (-1 : Int32)) (fun x34 =>
  self (x34, e33)))) N ((0 : Int32), v.2)
set_option maxRecDepth 20000 in
set_option maxHeartbeats 2000000 in
theorem xX12_findRows_134 (N : Nat)    (self : Int32 × zq_S → Option (Unit × zq_S)) (hself : ∀ v, zq_X yX12_findRows RX12 cX12_findRows 6 none ⟨4, 0, 0, 91⟩ zv_v 134 [.ref 57, .int v.1, .null, .null, .null, .null] [] v.2 (self v)) (v : Int32 × zq_S) : zq_X yX12_findRows RX12 cX12_findRows 6 none ⟨4, 0, 0, 91⟩ zv_v 134 [.ref 57, .int v.1, .null, .null, .null, .null] [] v.2 (bX12_findRows_134 N self v) := by
  unfold bX12_findRows_134
  refine zx_lift (pc' := 135) (fun _ => zq_iload_n rfl rfl dX12_findRows_134 rfl) ?_
  refine zx_if_lt (pc' := 138) (tgt := 266) dX12_findRows_135 rfl rfl (fun hc => ?_) (fun hc => ?_)
  · exact zx_vret rfl dX12_findRows_266
  · refine zx_lift (pc' := 139) (fun _ => zq_iconst (v := 0) dX12_findRows_138 rfl rfl) ?_
    refine zx_lift (pc' := 140) (fun _ => zq_istore_n (ls' := [.ref 57, .int v.1, .int (0 : Int32), .null, .null, .null]) rfl (by decide) rfl rfl dX12_findRows_139 rfl) ?_
    refine yX12_findRows_140 N v.1 _ (fun e33 => ?_) N ((0 : Int32), v.2)
    refine zx_iinc (pc' := 263) (ls' := fun x34 => [.ref 57, .int x34, .null, .null, .null, .null]) rfl rfl (by decide) rfl (fun _ => rfl) dX12_findRows_260 rfl (fun x34 => ?_)
    refine zx_lift (pc' := 134) (fun _ => zq_goto dX12_findRows_263 rfl) ?_
    exact hself (x34, e33)
theorem yX12_findRows_134 (N : Nat)    (n : Nat) : ∀ v : Int32 × zq_S, zq_X yX12_findRows RX12 cX12_findRows 6 none ⟨4, 0, 0, 91⟩ zv_v 134 [.ref 57, .int v.1, .null, .null, .null, .null] [] v.2 (zq_loop (bX12_findRows_134 N ) n v) := by
  induction n with
  | zero => exact fun v u hu => by cases hu
  | succ n ih =>
    intro v
    rw [zq_loop_s]
    exact xX12_findRows_134 N  (zq_loop (bX12_findRows_134 N ) n) ih v
def mX12_findRows (N : Nat)   (s : zq_S) : Option (Unit × zq_S) :=
  zq_b2 (mX12_findTexts N s) (fun r1 s2 =>
  zq_loop (bX12_findRows_6 N (fun e17 =>
  zq_let ((zgf e17 57 54) - (1 : Int32)) (fun x18 =>
  zq_loop (bX12_findRows_134 N ) N (x18, e17)))) N ((0 : Int32), s2))
set_option maxRecDepth 20000 in
set_option maxHeartbeats 2000000 in
theorem xX12_findRows (N : Nat)   (s : zq_S) : zq_X yX12_findRows RX12 cX12_findRows 6 none ⟨4, 0, 0, 91⟩ zv_v 0 [.ref 57, .null, .null, .null, .null, .null] [] s (mX12_findRows N s) := by
  unfold mX12_findRows
  refine zx_lift (pc' := 1) (fun _ => zq_aload_n rfl rfl dX12_findRows_0 rfl) ?_
  refine zx_cVv (pc' := 4) zcv_X12_340 (cX12_findTexts_mc N s) zob_57 rfl (by decide) (Nat.le_of_ble_eq_true rfl) dX12_findRows_1 rfl rfl (fun r1 s2 => ?_)
  refine zx_lift (pc' := 5) (fun _ => zq_iconst (v := 0) dX12_findRows_4 rfl rfl) ?_
  refine zx_lift (pc' := 6) (fun _ => zq_istore_n (ls' := [.ref 57, .int (0 : Int32), .null, .null, .null, .null]) rfl (by decide) rfl rfl dX12_findRows_5 rfl) ?_
  refine yX12_findRows_6 N _ (fun e17 => ?_) N ((0 : Int32), s2)
  refine zx_lift (pc' := 128) (fun _ => zq_aload_n rfl rfl dX12_findRows_127 rfl) ?_
  refine zx_lift (pc' := 131) (fun _ => zt_getI zfr_X12_295 zfd_57_54 dX12_findRows_128 rfl) ?_
  refine zx_lift (pc' := 132) (fun _ => zq_iconst (v := 1) dX12_findRows_131 rfl rfl) ?_
  refine zx_lift (pc' := 133) (fun _ => zq_isub dX12_findRows_132 rfl) ?_
  refine zx_istore_n (pc' := 134) (ls' := fun x18 => [.ref 57, .int x18, .null, .null, .null, .null]) rfl (by decide) rfl (fun _ => rfl) dX12_findRows_133 rfl (fun x18 => ?_)
  refine yX12_findRows_134 N  N (x18, e17)
theorem cX12_findRows_mc (N : Nat)   (s : zq_S) (v : Unit × zq_S) (h : mX12_findRows N s = some v) : zq_MC yX12_findRows cX12_findRows 6 none ⟨4, 0, 0, 91⟩ 0 0 [.ref 57] (zq_en s) (zv_v v.1, zq_en v.2) := zq_MC_x [.ref 57, .null, .null, .null, .null, .null] (by decide +kernel) rfl rfl (Nat.le_of_ble_eq_true rfl) (xX12_findRows N s) h
def bX12_holds_19 (N : Nat)   (k49 : Int64 × zq_S → Option (Int64 × zq_S)) (self : Int64 × Int32 × zq_S → Option (Int64 × zq_S)) (v : Int64 × Int32 × zq_S) : Option (Int64 × zq_S) :=
  zq_b2 (mX12_all N v.2.2) (fun r4 s5 =>
  if r4 < v.2.1 then
  k49 (v.1, s5)
  else
  if (zgf s5 57 54) ≤ (0 : Int32) then
  k49 (v.1, s5)
  else
  zq_ck v.2.1 4096 (
  zq_let (v.1 + (zgl s5 95 v.2.1)) (fun x6 =>
  zq_let (v.2.1 + (1 : Int32)) (fun x7 =>
  self (x6, x7, s5)))))
set_option maxRecDepth 20000 in
set_option maxHeartbeats 2000000 in
theorem xX12_holds_19 (N : Nat)   (k49 : Int64 × zq_S → Option (Int64 × zq_S)) (hk49 : ∀ e, zq_X yX12_holds RX12 cX12_holds 4 (some .long) ⟨5, 0, 0, 116⟩ zv_l 49 [.null, .long e.1, .null, .null] [] e.2 (k49 e)) (self : Int64 × Int32 × zq_S → Option (Int64 × zq_S)) (hself : ∀ v, zq_X yX12_holds RX12 cX12_holds 4 (some .long) ⟨5, 0, 0, 116⟩ zv_l 19 [.ref 57, .long v.1, .null, .int v.2.1] [] v.2.2 (self v)) (v : Int64 × Int32 × zq_S) : zq_X yX12_holds RX12 cX12_holds 4 (some .long) ⟨5, 0, 0, 116⟩ zv_l 19 [.ref 57, .long v.1, .null, .int v.2.1] [] v.2.2 (bX12_holds_19 N k49 self v) := by
  unfold bX12_holds_19
  refine zx_lift (pc' := 20) (fun _ => zq_iload_n rfl rfl dX12_holds_19 rfl) ?_
  refine zx_lift (pc' := 21) (fun _ => zq_aload_n rfl rfl dX12_holds_20 rfl) ?_
  refine zx_cVi (pc' := 24) zcv_X12_148 (cX12_all_mc N v.2.2) zob_57 rfl (by decide) (Nat.le_of_ble_eq_true rfl) dX12_holds_21 rfl rfl (fun r4 s5 => ?_)
  refine zx_icmp_gt (pc' := 27) (tgt := 49) dX12_holds_24 rfl rfl (fun hc => ?_) (fun hc => ?_)
  · refine zx_less [.null, .long v.1, .null, .null] (zq_cz (zq_cr (zq_cz (zq_cz zq_cn)))) ?_
    exact hk49 (v.1, s5)
  · refine zx_lift (pc' := 28) (fun _ => zq_aload_n rfl rfl dX12_holds_27 rfl) ?_
    refine zx_lift (pc' := 31) (fun _ => zt_getI zfr_X12_295 zfd_57_54 dX12_holds_28 rfl) ?_
    refine zx_if_le (pc' := 34) (tgt := 49) dX12_holds_31 rfl rfl (fun hc => ?_) (fun hc => ?_)
    · refine zx_less [.null, .long v.1, .null, .null] (zq_cz (zq_cr (zq_cz (zq_cz zq_cn)))) ?_
      exact hk49 (v.1, s5)
    · refine zx_lift (pc' := 35) (fun _ => zq_lload_n rfl rfl dX12_holds_34 rfl) ?_
      refine zx_lift (pc' := 36) (fun _ => zq_aload_n rfl rfl dX12_holds_35 rfl) ?_
      refine zx_lift (pc' := 39) (fun _ => zt_getR zfr_X12_128 zfd_57_58 dX12_holds_36 rfl) ?_
      refine zx_lift (pc' := 40) (fun _ => zq_iload_n rfl rfl dX12_holds_39 rfl) ?_
      refine zx_laload (pc' := 41) zsh_95 dX12_holds_40 rfl ?_
      refine zx_lift (pc' := 42) (fun _ => zq_ladd dX12_holds_41 rfl) ?_
      refine zx_lstore_n (pc' := 43) (ls' := fun x6 => [.ref 57, .long x6, .null, .int v.2.1]) rfl (by decide) rfl (fun _ => rfl) dX12_holds_42 rfl (fun x6 => ?_)
      refine zx_iinc (pc' := 46) (ls' := fun x7 => [.ref 57, .long x6, .null, .int x7]) rfl rfl (by decide) rfl (fun _ => rfl) dX12_holds_43 rfl (fun x7 => ?_)
      refine zx_lift (pc' := 19) (fun _ => zq_goto dX12_holds_46 rfl) ?_
      exact hself (x6, x7, s5)
theorem yX12_holds_19 (N : Nat)   (k49 : Int64 × zq_S → Option (Int64 × zq_S)) (hk49 : ∀ e, zq_X yX12_holds RX12 cX12_holds 4 (some .long) ⟨5, 0, 0, 116⟩ zv_l 49 [.null, .long e.1, .null, .null] [] e.2 (k49 e)) (n : Nat) : ∀ v : Int64 × Int32 × zq_S, zq_X yX12_holds RX12 cX12_holds 4 (some .long) ⟨5, 0, 0, 116⟩ zv_l 19 [.ref 57, .long v.1, .null, .int v.2.1] [] v.2.2 (zq_loop (bX12_holds_19 N k49) n v) := by
  induction n with
  | zero => exact fun v u hu => by cases hu
  | succ n ih =>
    intro v
    rw [zq_loop_s]
    exact xX12_holds_19 N k49 hk49 (zq_loop (bX12_holds_19 N k49) n) ih v
def jX12_holds_j49 (N : Nat)   (w1 : Int64) (s : zq_S) : Option (Int64 × zq_S) :=
  some (w1, s)
set_option maxRecDepth 20000 in
set_option maxHeartbeats 2000000 in
theorem xX12_holds_j49_j (N : Nat)   (w1 : Int64) (s : zq_S) : zq_X yX12_holds RX12 cX12_holds 4 (some .long) ⟨5, 0, 0, 116⟩ zv_l 49 [.null, .long w1, .null, .null] [] s (jX12_holds_j49 N w1 s) := by
  unfold jX12_holds_j49
  refine zx_lift (pc' := 50) (fun _ => zq_lload_n rfl rfl dX12_holds_49 rfl) ?_
  exact zx_lret rfl dX12_holds_50
def mX12_holds (N : Nat)   (s : zq_S) : Option (Int64 × zq_S) :=
  zq_b2 (mX12_findRows N s) (fun r1 s2 =>
  zq_let (if (zgf s2 57 54) = (0 : Int32) then (1 : Int64) else (0 : Int64)) (fun x3 =>
  zq_loop (bX12_holds_19 N (fun e8 =>
  jX12_holds_j49 N e8.1 e8.2)) N (x3, (0 : Int32), s2)))
set_option maxRecDepth 20000 in
set_option maxHeartbeats 2000000 in
theorem xX12_holds (N : Nat)   (s : zq_S) : zq_X yX12_holds RX12 cX12_holds 4 (some .long) ⟨5, 0, 0, 116⟩ zv_l 0 [.ref 57, .null, .null, .null] [] s (mX12_holds N s) := by
  unfold mX12_holds
  refine zx_lift (pc' := 1) (fun _ => zq_aload_n rfl rfl dX12_holds_0 rfl) ?_
  refine zx_cVv (pc' := 4) zcv_X12_369 (cX12_findRows_mc N s) zob_57 rfl (by decide) (Nat.le_of_ble_eq_true rfl) dX12_holds_1 rfl rfl (fun r1 s2 => ?_)
  refine zx_lift (pc' := 5) (fun _ => zq_aload_n rfl rfl dX12_holds_4 rfl) ?_
  refine zx_lift (pc' := 8) (fun _ => zt_getI zfr_X12_295 zfd_57_54 dX12_holds_5 rfl) ?_
  refine zx_tern (pcJ := 16) (lsJ := fun x3 => [.ref 57, .null, .null, .null]) (stJ := fun x3 => [.long x3]) (fun x3 => ?_) (fun f hJ => ?_)
  rotate_left
  · refine zx_lif_ne (pc' := 11) (tgt := 15) dX12_holds_8 rfl rfl (fun _ => ?_) (fun _ => ?_)
    · refine zx_lift (pc' := 16) (fun _ => zq_lconst (v := 0) dX12_holds_15 rfl rfl) ?_
      exact zx_lessJ (zq_cr (zq_cz (zq_cz (zq_cz zq_cn)))) (hJ _)
    · refine zx_lift (pc' := 12) (fun _ => zq_lconst (v := 1) dX12_holds_11 rfl rfl) ?_
      refine zx_lift (pc' := 16) (fun _ => zq_goto dX12_holds_12 rfl) ?_
      exact zx_lessJ (zq_cr (zq_cz (zq_cz (zq_cz zq_cn)))) (hJ _)
  refine zx_lift (pc' := 17) (fun _ => zq_lstore_n (ls' := [.ref 57, .long x3, .null, .null]) rfl (by decide) rfl rfl dX12_holds_16 rfl) ?_
  refine zx_lift (pc' := 18) (fun _ => zq_iconst (v := 0) dX12_holds_17 rfl rfl) ?_
  refine zx_lift (pc' := 19) (fun _ => zq_istore_n (ls' := [.ref 57, .long x3, .null, .int (0 : Int32)]) rfl (by decide) rfl rfl dX12_holds_18 rfl) ?_
  refine yX12_holds_19 N _ (fun e8 => ?_) N (x3, (0 : Int32), s2)
  exact xX12_holds_j49_j N e8.1 e8.2
theorem cX12_holds_mc (N : Nat)   (s : zq_S) (v : Int64 × zq_S) (h : mX12_holds N s = some v) : zq_MC yX12_holds cX12_holds 4 (some .long) ⟨5, 0, 0, 116⟩ 0 0 [.ref 57] (zq_en s) (zv_l v.1, zq_en v.2) := zq_MC_x [.ref 57, .null, .null, .null] (by decide +kernel) rfl rfl (Nat.le_of_ble_eq_true rfl) (xX12_holds N s) h
def bX12_areLike_40 (N : Nat)  (f1 : Int32) (f2 : Int32) (k94 : Int32 × zq_S → Option (Int32 × zq_S)) (self : Int32 × Int32 × zq_S → Option (Int32 × zq_S)) (v : Int32 × Int32 × zq_S) : Option (Int32 × zq_S) :=
  zq_ck f1 1024 (
  if (zga v.2.2 84 f1) ≤ v.2.1 then
  k94 (v.1, v.2.2)
  else
  if v.1 = (0 : Int32) then
  k94 (v.1, v.2.2)
  else
  zq_ck (((40 : Int32) * f1) + v.2.1) 40960 (
  zq_ck (((40 : Int32) * f2) + v.2.1) 40960 (
  zq_let (if (zga v.2.2 85 (((40 : Int32) * f1) + v.2.1)) = (zga v.2.2 85 (((40 : Int32) * f2) + v.2.1)) then (1 : Int32) else (0 : Int32)) (fun x1 =>
  zq_let (v.2.1 + (1 : Int32)) (fun x2 =>
  self (x1, x2, v.2.2))))))
set_option maxRecDepth 20000 in
set_option maxHeartbeats 2000000 in
theorem xX12_areLike_40 (N : Nat)  (f1 : Int32) (f2 : Int32) (k94 : Int32 × zq_S → Option (Int32 × zq_S)) (hk94 : ∀ e, zq_X yX12_areLike RX12 cX12_areLike 5 (some .boolean) ⟨0, 0, 0, 0⟩ zv_i 94 [.null, .null, .null, .int e.1, .null] [] e.2 (k94 e)) (self : Int32 × Int32 × zq_S → Option (Int32 × zq_S)) (hself : ∀ v, zq_X yX12_areLike RX12 cX12_areLike 5 (some .boolean) ⟨0, 0, 0, 0⟩ zv_i 40 [.ref 57, .int f1, .int f2, .int v.1, .int v.2.1] [] v.2.2 (self v)) (v : Int32 × Int32 × zq_S) : zq_X yX12_areLike RX12 cX12_areLike 5 (some .boolean) ⟨0, 0, 0, 0⟩ zv_i 40 [.ref 57, .int f1, .int f2, .int v.1, .int v.2.1] [] v.2.2 (bX12_areLike_40 N f1 f2 k94 self v) := by
  unfold bX12_areLike_40
  refine zx_lift (pc' := 42) (fun _ => zq_iload rfl dX12_areLike_40 rfl) ?_
  refine zx_lift (pc' := 43) (fun _ => zq_aload_n rfl rfl dX12_areLike_42 rfl) ?_
  refine zx_lift (pc' := 46) (fun _ => zt_getR zfr_X12_94 zfd_57_45 dX12_areLike_43 rfl) ?_
  refine zx_lift (pc' := 47) (fun _ => zq_iload_n rfl rfl dX12_areLike_46 rfl) ?_
  refine zx_iaload (pc' := 48) zsh_84 dX12_areLike_47 rfl ?_
  refine zx_icmp_ge (pc' := 51) (tgt := 94) dX12_areLike_48 rfl rfl (fun hc => ?_) (fun hc => ?_)
  · refine zx_less [.null, .null, .null, .int v.1, .null] (zq_cz (zq_cz (zq_cz (zq_cr (zq_cz zq_cn))))) ?_
    exact hk94 (v.1, v.2.2)
  · refine zx_lift (pc' := 52) (fun _ => zq_iload_n rfl rfl dX12_areLike_51 rfl) ?_
    refine zx_if_eq (pc' := 55) (tgt := 94) dX12_areLike_52 rfl rfl (fun hc => ?_) (fun hc => ?_)
    · refine zx_less [.null, .null, .null, .int v.1, .null] (zq_cz (zq_cz (zq_cz (zq_cr (zq_cz zq_cn))))) ?_
      exact hk94 (v.1, v.2.2)
    · refine zx_lift (pc' := 56) (fun _ => zq_aload_n rfl rfl dX12_areLike_55 rfl) ?_
      refine zx_lift (pc' := 59) (fun _ => zt_getR zfr_X12_98 zfd_57_46 dX12_areLike_56 rfl) ?_
      refine zx_lift (pc' := 61) (fun _ => zq_bipush (v := 40) dX12_areLike_59 rfl rfl) ?_
      refine zx_lift (pc' := 62) (fun _ => zq_iload_n rfl rfl dX12_areLike_61 rfl) ?_
      refine zx_lift (pc' := 63) (fun _ => zq_imul dX12_areLike_62 rfl) ?_
      refine zx_lift (pc' := 65) (fun _ => zq_iload rfl dX12_areLike_63 rfl) ?_
      refine zx_lift (pc' := 66) (fun _ => zq_iadd dX12_areLike_65 rfl) ?_
      refine zx_iaload (pc' := 67) zsh_85 dX12_areLike_66 rfl ?_
      refine zx_lift (pc' := 68) (fun _ => zq_aload_n rfl rfl dX12_areLike_67 rfl) ?_
      refine zx_lift (pc' := 71) (fun _ => zt_getR zfr_X12_98 zfd_57_46 dX12_areLike_68 rfl) ?_
      refine zx_lift (pc' := 73) (fun _ => zq_bipush (v := 40) dX12_areLike_71 rfl rfl) ?_
      refine zx_lift (pc' := 74) (fun _ => zq_iload_n rfl rfl dX12_areLike_73 rfl) ?_
      refine zx_lift (pc' := 75) (fun _ => zq_imul dX12_areLike_74 rfl) ?_
      refine zx_lift (pc' := 77) (fun _ => zq_iload rfl dX12_areLike_75 rfl) ?_
      refine zx_lift (pc' := 78) (fun _ => zq_iadd dX12_areLike_77 rfl) ?_
      refine zx_iaload (pc' := 79) zsh_85 dX12_areLike_78 rfl ?_
      refine zx_tern (pcJ := 87) (lsJ := fun x1 => [.ref 57, .int f1, .int f2, .null, .int v.2.1]) (stJ := fun x1 => [.int x1]) (fun x1 => ?_) (fun f hJ => ?_)
      rotate_left
      · refine zx_licmp_ne (pc' := 82) (tgt := 86) dX12_areLike_79 rfl rfl (fun _ => ?_) (fun _ => ?_)
        · refine zx_lift (pc' := 87) (fun _ => zq_iconst (v := 0) dX12_areLike_86 rfl rfl) ?_
          exact zx_lessJ (zq_cr (zq_cr (zq_cr (zq_cz (zq_cr zq_cn))))) (hJ _)
        · refine zx_lift (pc' := 83) (fun _ => zq_iconst (v := 1) dX12_areLike_82 rfl rfl) ?_
          refine zx_lift (pc' := 87) (fun _ => zq_goto dX12_areLike_83 rfl) ?_
          exact zx_lessJ (zq_cr (zq_cr (zq_cr (zq_cz (zq_cr zq_cn))))) (hJ _)
      refine zx_lift (pc' := 88) (fun _ => zq_istore_n (ls' := [.ref 57, .int f1, .int f2, .int x1, .int v.2.1]) rfl (by decide) rfl rfl dX12_areLike_87 rfl) ?_
      refine zx_iinc (pc' := 91) (ls' := fun x2 => [.ref 57, .int f1, .int f2, .int x1, .int x2]) rfl rfl (by decide) rfl (fun _ => rfl) dX12_areLike_88 rfl (fun x2 => ?_)
      refine zx_lift (pc' := 40) (fun _ => zq_goto dX12_areLike_91 rfl) ?_
      exact hself (x1, x2, v.2.2)
theorem yX12_areLike_40 (N : Nat)  (f1 : Int32) (f2 : Int32) (k94 : Int32 × zq_S → Option (Int32 × zq_S)) (hk94 : ∀ e, zq_X yX12_areLike RX12 cX12_areLike 5 (some .boolean) ⟨0, 0, 0, 0⟩ zv_i 94 [.null, .null, .null, .int e.1, .null] [] e.2 (k94 e)) (n : Nat) : ∀ v : Int32 × Int32 × zq_S, zq_X yX12_areLike RX12 cX12_areLike 5 (some .boolean) ⟨0, 0, 0, 0⟩ zv_i 40 [.ref 57, .int f1, .int f2, .int v.1, .int v.2.1] [] v.2.2 (zq_loop (bX12_areLike_40 N f1 f2 k94) n v) := by
  induction n with
  | zero => exact fun v u hu => by cases hu
  | succ n ih =>
    intro v
    rw [zq_loop_s]
    exact xX12_areLike_40 N f1 f2 k94 hk94 (zq_loop (bX12_areLike_40 N f1 f2 k94) n) ih v
def jX12_areLike_j94 (N : Nat)   (w3 : Int32) (s : zq_S) : Option (Int32 × zq_S) :=
  zq_bz w3 (some (w3, s))
set_option maxRecDepth 20000 in
set_option maxHeartbeats 2000000 in
theorem xX12_areLike_j94_j (N : Nat)   (w3 : Int32) (s : zq_S) : zq_X yX12_areLike RX12 cX12_areLike 5 (some .boolean) ⟨0, 0, 0, 0⟩ zv_i 94 [.null, .null, .null, .int w3, .null] [] s (jX12_areLike_j94 N w3 s) := by
  unfold jX12_areLike_j94
  refine zx_lift (pc' := 95) (fun _ => zq_iload_n rfl rfl dX12_areLike_94 rfl) ?_
  exact zx_zretg rfl dX12_areLike_95
def jX12_areLike_j36 (N : Nat)   (w1 : Int32) (w2 : Int32) (t0 : Int32) (s : zq_S) : Option (Int32 × zq_S) :=
  zq_loop (bX12_areLike_40 N w1 w2 (fun e3 =>
  jX12_areLike_j94 N e3.1 e3.2)) N (t0, (0 : Int32), s)
set_option maxRecDepth 20000 in
set_option maxHeartbeats 2000000 in
theorem xX12_areLike_j36_j (N : Nat)   (w1 : Int32) (w2 : Int32) (t0 : Int32) (s : zq_S) : zq_X yX12_areLike RX12 cX12_areLike 5 (some .boolean) ⟨0, 0, 0, 0⟩ zv_i 36 [.ref 57, .int w1, .int w2, .null, .null] [.int t0] s (jX12_areLike_j36 N w1 w2 t0 s) := by
  unfold jX12_areLike_j36
  refine zx_lift (pc' := 37) (fun _ => zq_istore_n (ls' := [.ref 57, .int w1, .int w2, .int t0, .null]) rfl (by decide) rfl rfl dX12_areLike_36 rfl) ?_
  refine zx_lift (pc' := 38) (fun _ => zq_iconst (v := 0) dX12_areLike_37 rfl rfl) ?_
  refine zx_lift (pc' := 40) (fun _ => zq_istore (ls' := [.ref 57, .int w1, .int w2, .int t0, .int (0 : Int32)]) (by decide) rfl rfl dX12_areLike_38 rfl) ?_
  refine yX12_areLike_40 N w1 w2 _ (fun e3 => ?_) N (t0, (0 : Int32), s)
  exact xX12_areLike_j94_j N e3.1 e3.2
def jX12_areLike_j35 (N : Nat)   (w1 : Int32) (w2 : Int32) (s : zq_S) : Option (Int32 × zq_S) :=
  jX12_areLike_j36 N w1 w2 (0 : Int32) s
set_option maxRecDepth 20000 in
set_option maxHeartbeats 2000000 in
theorem xX12_areLike_j35_j (N : Nat)   (w1 : Int32) (w2 : Int32) (s : zq_S) : zq_X yX12_areLike RX12 cX12_areLike 5 (some .boolean) ⟨0, 0, 0, 0⟩ zv_i 35 [.ref 57, .int w1, .int w2, .null, .null] [] s (jX12_areLike_j35 N w1 w2 s) := by
  unfold jX12_areLike_j35
  refine zx_lift (pc' := 36) (fun _ => zq_iconst (v := 0) dX12_areLike_35 rfl rfl) ?_
  exact xX12_areLike_j36_j N w1 w2 (0 : Int32) s
def mX12_areLike (N : Nat)  (p1 : Int32) (p2 : Int32) (s : zq_S) : Option (Int32 × zq_S) :=
  zq_ck p1 1024 (
  zq_ck p2 1024 (
  if (zga s 84 p1) = (zga s 84 p2) then
  zq_ck p1 1024 (
  zq_ck p2 1024 (
  if (lg_cmp (zgl s 86 p1) (zgl s 86 p2)) = (0 : Int32) then
  jX12_areLike_j36 N p1 p2 (1 : Int32) s
  else
  jX12_areLike_j35 N p1 p2 s))
  else
  jX12_areLike_j35 N p1 p2 s))
set_option maxRecDepth 20000 in
set_option maxHeartbeats 2000000 in
theorem xX12_areLike (N : Nat)  (p1 : Int32) (p2 : Int32) (s : zq_S) : zq_X yX12_areLike RX12 cX12_areLike 5 (some .boolean) ⟨0, 0, 0, 0⟩ zv_i 0 [.ref 57, .int p1, .int p2, .null, .null] [] s (mX12_areLike N p1 p2 s) := by
  unfold mX12_areLike
  refine zx_lift (pc' := 1) (fun _ => zq_aload_n rfl rfl dX12_areLike_0 rfl) ?_
  refine zx_lift (pc' := 4) (fun _ => zt_getR zfr_X12_94 zfd_57_45 dX12_areLike_1 rfl) ?_
  refine zx_lift (pc' := 5) (fun _ => zq_iload_n rfl rfl dX12_areLike_4 rfl) ?_
  refine zx_iaload (pc' := 6) zsh_84 dX12_areLike_5 rfl ?_
  refine zx_lift (pc' := 7) (fun _ => zq_aload_n rfl rfl dX12_areLike_6 rfl) ?_
  refine zx_lift (pc' := 10) (fun _ => zt_getR zfr_X12_94 zfd_57_45 dX12_areLike_7 rfl) ?_
  refine zx_lift (pc' := 11) (fun _ => zq_iload_n rfl rfl dX12_areLike_10 rfl) ?_
  refine zx_iaload (pc' := 12) zsh_84 dX12_areLike_11 rfl ?_
  refine zx_icmp_ne (pc' := 15) (tgt := 35) dX12_areLike_12 rfl rfl (fun hc => ?_) (fun hc => ?_)
  · exact xX12_areLike_j35_j N p1 p2 s
  · refine zx_lift (pc' := 16) (fun _ => zq_aload_n rfl rfl dX12_areLike_15 rfl) ?_
    refine zx_lift (pc' := 19) (fun _ => zt_getR zfr_X12_101 zfd_57_47 dX12_areLike_16 rfl) ?_
    refine zx_lift (pc' := 20) (fun _ => zq_iload_n rfl rfl dX12_areLike_19 rfl) ?_
    refine zx_laload (pc' := 21) zsh_86 dX12_areLike_20 rfl ?_
    refine zx_lift (pc' := 22) (fun _ => zq_aload_n rfl rfl dX12_areLike_21 rfl) ?_
    refine zx_lift (pc' := 25) (fun _ => zt_getR zfr_X12_101 zfd_57_47 dX12_areLike_22 rfl) ?_
    refine zx_lift (pc' := 26) (fun _ => zq_iload_n rfl rfl dX12_areLike_25 rfl) ?_
    refine zx_laload (pc' := 27) zsh_86 dX12_areLike_26 rfl ?_
    refine zx_lift (pc' := 28) (fun _ => zq_lcmp dX12_areLike_27 rfl) ?_
    refine zx_if_ne (pc' := 31) (tgt := 35) dX12_areLike_28 rfl rfl (fun hc => ?_) (fun hc => ?_)
    · exact xX12_areLike_j35_j N p1 p2 s
    · refine zx_lift (pc' := 32) (fun _ => zq_iconst (v := 1) dX12_areLike_31 rfl rfl) ?_
      refine zx_lift (pc' := 36) (fun _ => zq_goto dX12_areLike_32 rfl) ?_
      exact xX12_areLike_j36_j N p1 p2 (1 : Int32) s
theorem cX12_areLike_mc (N : Nat)  (p1 : Int32) (p2 : Int32) (s : zq_S) (v : Int32 × zq_S) (h : mX12_areLike N p1 p2 s = some v) : zq_MC yX12_areLike cX12_areLike 5 (some .boolean) ⟨0, 0, 0, 0⟩ 0 0 [.ref 57, .int p1, .int p2] (zq_en s) (zv_i v.1, zq_en v.2) := zq_MC_x [.ref 57, .int p1, .int p2, .null, .null] (by decide +kernel) rfl rfl (Nat.le_of_ble_eq_true rfl) (xX12_areLike N p1 p2 s) h
def jX12_idle_j80 (N : Nat)  (f2 : Int32) (k86 : Int32 × zq_S → Option (Int32 × zq_S)) (self : Int32 × Int32 × zq_S → Option (Int32 × zq_S)) (w1 : Int32) (w3 : Int32) (s : zq_S) : Option (Int32 × zq_S) :=
  zq_let (w3 + (1 : Int32)) (fun x9 =>
  self (w1, x9, s))
set_option maxRecDepth 20000 in
set_option maxHeartbeats 2000000 in
theorem xX12_idle_j80_j (N : Nat)  (f2 : Int32) (k86 : Int32 × zq_S → Option (Int32 × zq_S)) (hk86 : ∀ e, zq_X yX12_idle RX12 cX12_idle 4 (some .int) ⟨4, 0, 0, 91⟩ zv_i 86 [.ref 57, .int e.1, .int f2, .null] [] e.2 (k86 e)) (self : Int32 × Int32 × zq_S → Option (Int32 × zq_S)) (hself : ∀ v, zq_X yX12_idle RX12 cX12_idle 4 (some .int) ⟨4, 0, 0, 91⟩ zv_i 21 [.ref 57, .int v.1, .int f2, .int v.2.1] [] v.2.2 (self v)) (w1 : Int32) (w3 : Int32) (s : zq_S) : zq_X yX12_idle RX12 cX12_idle 4 (some .int) ⟨4, 0, 0, 91⟩ zv_i 80 [.ref 57, .int w1, .int f2, .int w3] [] s (jX12_idle_j80 N f2 k86 self w1 w3 s) := by
  unfold jX12_idle_j80
  refine zx_iinc (pc' := 83) (ls' := fun x9 => [.ref 57, .int w1, .int f2, .int x9]) rfl rfl (by decide) rfl (fun _ => rfl) dX12_idle_80 rfl (fun x9 => ?_)
  refine zx_lift (pc' := 21) (fun _ => zq_goto dX12_idle_83 rfl) ?_
  exact hself (w1, x9, s)
def bX12_idle_21 (N : Nat)  (f2 : Int32) (k86 : Int32 × zq_S → Option (Int32 × zq_S)) (self : Int32 × Int32 × zq_S → Option (Int32 × zq_S)) (v : Int32 × Int32 × zq_S) : Option (Int32 × zq_S) :=
  if (zgf v.2.2 57 6) ≤ v.2.1 then
  k86 (v.1, v.2.2)
  else
  zq_ck f2 1024 (
  if (zga v.2.2 78 f2) = (0 : Int32) then
  k86 (v.1, v.2.2)
  else
  zq_ck f2 1024 (
  zq_b2 (mX12_has N (zga v.2.2 79 f2) v.2.1 v.2.2) (fun r7 s8 =>
  if r7 = (0 : Int32) then
  jX12_idle_j80 N f2 k86 self v.1 v.2.1 s8
  else
  zq_b2 (mX12_has N v.1 v.2.1 s8) (fun r10 s11 =>
  if r10 = (0 : Int32) then
  jX12_idle_j80 N f2 k86 self v.1 v.2.1 s11
  else
  zq_b2 (mX12_areLike N f2 (f2 ||| ((1 : Int32) <<< (v.2.1 &&& 31))) s11) (fun r12 s13 =>
  if r12 = (0 : Int32) then
  zq_let (v.1 &&& (((1 : Int32) <<< (v.2.1 &&& 31)) ^^^ (-1 : Int32))) (fun x14 =>
  jX12_idle_j80 N f2 k86 self x14 v.2.1 s13)
  else
  jX12_idle_j80 N f2 k86 self v.1 v.2.1 s13)))))
set_option maxRecDepth 20000 in
set_option maxHeartbeats 2000000 in
theorem xX12_idle_21 (N : Nat)  (f2 : Int32) (k86 : Int32 × zq_S → Option (Int32 × zq_S)) (hk86 : ∀ e, zq_X yX12_idle RX12 cX12_idle 4 (some .int) ⟨4, 0, 0, 91⟩ zv_i 86 [.ref 57, .int e.1, .int f2, .null] [] e.2 (k86 e)) (self : Int32 × Int32 × zq_S → Option (Int32 × zq_S)) (hself : ∀ v, zq_X yX12_idle RX12 cX12_idle 4 (some .int) ⟨4, 0, 0, 91⟩ zv_i 21 [.ref 57, .int v.1, .int f2, .int v.2.1] [] v.2.2 (self v)) (v : Int32 × Int32 × zq_S) : zq_X yX12_idle RX12 cX12_idle 4 (some .int) ⟨4, 0, 0, 91⟩ zv_i 21 [.ref 57, .int v.1, .int f2, .int v.2.1] [] v.2.2 (bX12_idle_21 N f2 k86 self v) := by
  unfold bX12_idle_21
  refine zx_lift (pc' := 22) (fun _ => zq_iload_n rfl rfl dX12_idle_21 rfl) ?_
  refine zx_lift (pc' := 23) (fun _ => zq_aload_n rfl rfl dX12_idle_22 rfl) ?_
  refine zx_lift (pc' := 26) (fun _ => zt_getI zfr_X12_141 zfd_57_6 dX12_idle_23 rfl) ?_
  refine zx_icmp_ge (pc' := 29) (tgt := 86) dX12_idle_26 rfl rfl (fun hc => ?_) (fun hc => ?_)
  · refine zx_less [.ref 57, .int v.1, .int f2, .null] (zq_cr (zq_cr (zq_cr (zq_cz zq_cn)))) ?_
    exact hk86 (v.1, v.2.2)
  · refine zx_lift (pc' := 30) (fun _ => zq_aload_n rfl rfl dX12_idle_29 rfl) ?_
    refine zx_lift (pc' := 33) (fun _ => zt_getR zfr_X12_75 zfd_57_38 dX12_idle_30 rfl) ?_
    refine zx_lift (pc' := 34) (fun _ => zq_iload_n rfl rfl dX12_idle_33 rfl) ?_
    refine zx_zaload (pc' := 35) zsh_78 dX12_idle_34 rfl ?_
    refine zx_if_eq (pc' := 38) (tgt := 86) dX12_idle_35 rfl rfl (fun hc => ?_) (fun hc => ?_)
    · refine zx_less [.ref 57, .int v.1, .int f2, .null] (zq_cr (zq_cr (zq_cr (zq_cz zq_cn)))) ?_
      exact hk86 (v.1, v.2.2)
    · refine zx_lift (pc' := 39) (fun _ => zq_aload_n rfl rfl dX12_idle_38 rfl) ?_
      refine zx_lift (pc' := 42) (fun _ => zt_getR zfr_X12_78 zfd_57_39 dX12_idle_39 rfl) ?_
      refine zx_lift (pc' := 43) (fun _ => zq_iload_n rfl rfl dX12_idle_42 rfl) ?_
      refine zx_iaload (pc' := 44) zsh_79 dX12_idle_43 rfl ?_
      refine zx_lift (pc' := 45) (fun _ => zq_iload_n rfl rfl dX12_idle_44 rfl) ?_
      refine zx_cSi (pc' := 48) zcs_X12_189 (cX12_has_mc N (zga v.2.2 79 f2) v.2.1 v.2.2) rfl (by decide) (Nat.le_of_ble_eq_true rfl) dX12_idle_45 rfl rfl (fun r7 s8 => ?_)
      refine zx_if_eq (pc' := 51) (tgt := 80) dX12_idle_48 rfl rfl (fun hc => ?_) (fun hc => ?_)
      · exact xX12_idle_j80_j N f2 k86 hk86 self hself v.1 v.2.1 s8
      · refine zx_lift (pc' := 52) (fun _ => zq_iload_n rfl rfl dX12_idle_51 rfl) ?_
        refine zx_lift (pc' := 53) (fun _ => zq_iload_n rfl rfl dX12_idle_52 rfl) ?_
        refine zx_cSi (pc' := 56) zcs_X12_189 (cX12_has_mc N v.1 v.2.1 s8) rfl (by decide) (Nat.le_of_ble_eq_true rfl) dX12_idle_53 rfl rfl (fun r10 s11 => ?_)
        refine zx_if_eq (pc' := 59) (tgt := 80) dX12_idle_56 rfl rfl (fun hc => ?_) (fun hc => ?_)
        · exact xX12_idle_j80_j N f2 k86 hk86 self hself v.1 v.2.1 s11
        · refine zx_lift (pc' := 60) (fun _ => zq_aload_n rfl rfl dX12_idle_59 rfl) ?_
          refine zx_lift (pc' := 61) (fun _ => zq_iload_n rfl rfl dX12_idle_60 rfl) ?_
          refine zx_lift (pc' := 62) (fun _ => zq_iload_n rfl rfl dX12_idle_61 rfl) ?_
          refine zx_lift (pc' := 63) (fun _ => zq_iconst (v := 1) dX12_idle_62 rfl rfl) ?_
          refine zx_lift (pc' := 64) (fun _ => zq_iload_n rfl rfl dX12_idle_63 rfl) ?_
          refine zx_lift (pc' := 65) (fun _ => zq_ishl dX12_idle_64 rfl) ?_
          refine zx_lift (pc' := 66) (fun _ => zq_ior dX12_idle_65 rfl) ?_
          refine zx_cVi (pc' := 69) zcv_X12_346 (cX12_areLike_mc N f2 (f2 ||| ((1 : Int32) <<< (v.2.1 &&& 31))) s11) zob_57 rfl (by decide) (Nat.le_of_ble_eq_true rfl) dX12_idle_66 rfl rfl (fun r12 s13 => ?_)
          refine zx_if_ne (pc' := 72) (tgt := 80) dX12_idle_69 rfl rfl (fun hc => ?_) (fun hc => ?_)
          · exact xX12_idle_j80_j N f2 k86 hk86 self hself v.1 v.2.1 s13
          · refine zx_lift (pc' := 73) (fun _ => zq_iload_n rfl rfl dX12_idle_72 rfl) ?_
            refine zx_lift (pc' := 74) (fun _ => zq_iconst (v := 1) dX12_idle_73 rfl rfl) ?_
            refine zx_lift (pc' := 75) (fun _ => zq_iload_n rfl rfl dX12_idle_74 rfl) ?_
            refine zx_lift (pc' := 76) (fun _ => zq_ishl dX12_idle_75 rfl) ?_
            refine zx_lift (pc' := 77) (fun _ => zq_iconst (v := (-1)) dX12_idle_76 rfl rfl) ?_
            refine zx_lift (pc' := 78) (fun _ => zq_ixor dX12_idle_77 rfl) ?_
            refine zx_lift (pc' := 79) (fun _ => zq_iand dX12_idle_78 rfl) ?_
            refine zx_istore_n (pc' := 80) (ls' := fun x14 => [.ref 57, .int x14, .int f2, .int v.2.1]) rfl (by decide) rfl (fun _ => rfl) dX12_idle_79 rfl (fun x14 => ?_)
            exact xX12_idle_j80_j N f2 k86 hk86 self hself x14 v.2.1 s13
theorem yX12_idle_21 (N : Nat)  (f2 : Int32) (k86 : Int32 × zq_S → Option (Int32 × zq_S)) (hk86 : ∀ e, zq_X yX12_idle RX12 cX12_idle 4 (some .int) ⟨4, 0, 0, 91⟩ zv_i 86 [.ref 57, .int e.1, .int f2, .null] [] e.2 (k86 e)) (n : Nat) : ∀ v : Int32 × Int32 × zq_S, zq_X yX12_idle RX12 cX12_idle 4 (some .int) ⟨4, 0, 0, 91⟩ zv_i 21 [.ref 57, .int v.1, .int f2, .int v.2.1] [] v.2.2 (zq_loop (bX12_idle_21 N f2 k86) n v) := by
  induction n with
  | zero => exact fun v u hu => by cases hu
  | succ n ih =>
    intro v
    rw [zq_loop_s]
    exact xX12_idle_21 N f2 k86 hk86 (zq_loop (bX12_idle_21 N f2 k86) n) ih v
def jX12_idle_j86 (N : Nat)    (self : Int32 × Int32 × zq_S → Option (Int32 × zq_S)) (w1 : Int32) (w2 : Int32) (s : zq_S) : Option (Int32 × zq_S) :=
  zq_let (w2 + (1 : Int32)) (fun x16 =>
  self (w1, x16, s))
set_option maxRecDepth 20000 in
set_option maxHeartbeats 2000000 in
theorem xX12_idle_j86_j (N : Nat)    (self : Int32 × Int32 × zq_S → Option (Int32 × zq_S)) (hself : ∀ v, zq_X yX12_idle RX12 cX12_idle 4 (some .int) ⟨4, 0, 0, 91⟩ zv_i 11 [.ref 57, .int v.1, .int v.2.1, .null] [] v.2.2 (self v)) (w1 : Int32) (w2 : Int32) (s : zq_S) : zq_X yX12_idle RX12 cX12_idle 4 (some .int) ⟨4, 0, 0, 91⟩ zv_i 86 [.ref 57, .int w1, .int w2, .null] [] s (jX12_idle_j86 N self w1 w2 s) := by
  unfold jX12_idle_j86
  refine zx_iinc (pc' := 89) (ls' := fun x16 => [.ref 57, .int w1, .int x16, .null]) rfl rfl (by decide) rfl (fun _ => rfl) dX12_idle_86 rfl (fun x16 => ?_)
  refine zx_lift (pc' := 11) (fun _ => zq_goto dX12_idle_89 rfl) ?_
  exact hself (w1, x16, s)
def bX12_idle_11 (N : Nat)    (self : Int32 × Int32 × zq_S → Option (Int32 × zq_S)) (v : Int32 × Int32 × zq_S) : Option (Int32 × zq_S) :=
  zq_b2 (mX12_all N v.2.2) (fun r5 s6 =>
  if r5 < v.2.1 then
  some (v.1, s6)
  else
  zq_loop (bX12_idle_21 N v.2.1 (fun e15 =>
  jX12_idle_j86 N self e15.1 v.2.1 e15.2)) N (v.1, (0 : Int32), s6))
set_option maxRecDepth 20000 in
set_option maxHeartbeats 2000000 in
theorem xX12_idle_11 (N : Nat)    (self : Int32 × Int32 × zq_S → Option (Int32 × zq_S)) (hself : ∀ v, zq_X yX12_idle RX12 cX12_idle 4 (some .int) ⟨4, 0, 0, 91⟩ zv_i 11 [.ref 57, .int v.1, .int v.2.1, .null] [] v.2.2 (self v)) (v : Int32 × Int32 × zq_S) : zq_X yX12_idle RX12 cX12_idle 4 (some .int) ⟨4, 0, 0, 91⟩ zv_i 11 [.ref 57, .int v.1, .int v.2.1, .null] [] v.2.2 (bX12_idle_11 N self v) := by
  unfold bX12_idle_11
  refine zx_lift (pc' := 12) (fun _ => zq_iload_n rfl rfl dX12_idle_11 rfl) ?_
  refine zx_lift (pc' := 13) (fun _ => zq_aload_n rfl rfl dX12_idle_12 rfl) ?_
  refine zx_cVi (pc' := 16) zcv_X12_148 (cX12_all_mc N v.2.2) zob_57 rfl (by decide) (Nat.le_of_ble_eq_true rfl) dX12_idle_13 rfl rfl (fun r5 s6 => ?_)
  refine zx_icmp_gt (pc' := 19) (tgt := 92) dX12_idle_16 rfl rfl (fun hc => ?_) (fun hc => ?_)
  · refine zx_lift (pc' := 93) (fun _ => zq_iload_n rfl rfl dX12_idle_92 rfl) ?_
    exact zx_iret rfl dX12_idle_93
  · refine zx_lift (pc' := 20) (fun _ => zq_iconst (v := 0) dX12_idle_19 rfl rfl) ?_
    refine zx_lift (pc' := 21) (fun _ => zq_istore_n (ls' := [.ref 57, .int v.1, .int v.2.1, .int (0 : Int32)]) rfl (by decide) rfl rfl dX12_idle_20 rfl) ?_
    refine yX12_idle_21 N v.2.1 _ (fun e15 => ?_) N (v.1, (0 : Int32), s6)
    exact xX12_idle_j86_j N self hself e15.1 v.2.1 e15.2
theorem yX12_idle_11 (N : Nat)    (n : Nat) : ∀ v : Int32 × Int32 × zq_S, zq_X yX12_idle RX12 cX12_idle 4 (some .int) ⟨4, 0, 0, 91⟩ zv_i 11 [.ref 57, .int v.1, .int v.2.1, .null] [] v.2.2 (zq_loop (bX12_idle_11 N ) n v) := by
  induction n with
  | zero => exact fun v u hu => by cases hu
  | succ n ih =>
    intro v
    rw [zq_loop_s]
    exact xX12_idle_11 N  (zq_loop (bX12_idle_11 N ) n) ih v
def mX12_idle (N : Nat)   (s : zq_S) : Option (Int32 × zq_S) :=
  zq_b2 (mX12_findTexts N s) (fun r1 s2 =>
  zq_b2 (mX12_all N s2) (fun r3 s4 =>
  zq_loop (bX12_idle_11 N ) N (r3, (0 : Int32), s4)))
set_option maxRecDepth 20000 in
set_option maxHeartbeats 2000000 in
theorem xX12_idle (N : Nat)   (s : zq_S) : zq_X yX12_idle RX12 cX12_idle 4 (some .int) ⟨4, 0, 0, 91⟩ zv_i 0 [.ref 57, .null, .null, .null] [] s (mX12_idle N s) := by
  unfold mX12_idle
  refine zx_lift (pc' := 1) (fun _ => zq_aload_n rfl rfl dX12_idle_0 rfl) ?_
  refine zx_cVv (pc' := 4) zcv_X12_340 (cX12_findTexts_mc N s) zob_57 rfl (by decide) (Nat.le_of_ble_eq_true rfl) dX12_idle_1 rfl rfl (fun r1 s2 => ?_)
  refine zx_lift (pc' := 5) (fun _ => zq_aload_n rfl rfl dX12_idle_4 rfl) ?_
  refine zx_cVi (pc' := 8) zcv_X12_148 (cX12_all_mc N s2) zob_57 rfl (by decide) (Nat.le_of_ble_eq_true rfl) dX12_idle_5 rfl rfl (fun r3 s4 => ?_)
  refine zx_lift (pc' := 9) (fun _ => zq_istore_n (ls' := [.ref 57, .int r3, .null, .null]) rfl (by decide) rfl rfl dX12_idle_8 rfl) ?_
  refine zx_lift (pc' := 10) (fun _ => zq_iconst (v := 0) dX12_idle_9 rfl rfl) ?_
  refine zx_lift (pc' := 11) (fun _ => zq_istore_n (ls' := [.ref 57, .int r3, .int (0 : Int32), .null]) rfl (by decide) rfl rfl dX12_idle_10 rfl) ?_
  refine yX12_idle_11 N  N (r3, (0 : Int32), s4)
theorem cX12_idle_mc (N : Nat)   (s : zq_S) (v : Int32 × zq_S) (h : mX12_idle N s = some v) : zq_MC yX12_idle cX12_idle 4 (some .int) ⟨4, 0, 0, 91⟩ 0 0 [.ref 57] (zq_en s) (zv_i v.1, zq_en v.2) := zq_MC_x [.ref 57, .null, .null, .null] (by decide +kernel) rfl rfl (Nat.le_of_ble_eq_true rfl) (xX12_idle N s) h
def jX12_ink_j15 (N : Nat)    (s : zq_S) : Option (Int32 × zq_S) :=
  some ((-1001 : Int32), s)
set_option maxRecDepth 20000 in
set_option maxHeartbeats 2000000 in
theorem xX12_ink_j15_j (N : Nat)    (s : zq_S) : zq_X yX12_ink RX12 cX12_ink 4 (some .int) ⟨2, 0, 0, 46⟩ zv_i 15 [.null, .null, .null, .null] [] s (jX12_ink_j15 N s) := by
  unfold jX12_ink_j15
  refine zx_lift (pc' := 18) (fun _ => zq_sipush (v := (-1001)) dX12_ink_15 rfl rfl) ?_
  exact zx_iret rfl dX12_ink_18
def mX12_ink (N : Nat)  (p1 : Int32) (p2 : Int32) (s : zq_S) : Option (Int32 × zq_S) :=
  zq_b2 (mX12_isMark N p1 s) (fun r1 s2 =>
  if r1 = (0 : Int32) then
  jX12_ink_j15 N s2
  else
  zq_b2 (mX12_isInk N p2 s2) (fun r3 s4 =>
  if r3 = (0 : Int32) then
  jX12_ink_j15 N s4
  else
  zq_ck p1 10 (
  zq_let (zga s4 63 p1) (fun x5 =>
  zq_ck p1 10 (
  zq_let (zpa s4 63 p1 p2) (fun s6 =>
  zq_b2 (mX12_findMust N s6) (fun r7 s8 =>
  if r7 = (0 : Int32) then
  zq_ck p1 10 (
  zq_let (zpa s8 63 p1 x5) (fun s9 =>
  zq_b2 (mX12_findMust N s9) (fun r10 s11 =>
  zq_let (if r10 = (0 : Int32) then (-1001 : Int32) else (-1003 : Int32)) (fun x12 =>
  some (x12, s11)))))
  else
  some (x5, s8))))))))
set_option maxRecDepth 20000 in
set_option maxHeartbeats 2000000 in
theorem xX12_ink (N : Nat)  (p1 : Int32) (p2 : Int32) (s : zq_S) : zq_X yX12_ink RX12 cX12_ink 4 (some .int) ⟨2, 0, 0, 46⟩ zv_i 0 [.ref 57, .int p1, .int p2, .null] [] s (mX12_ink N p1 p2 s) := by
  unfold mX12_ink
  refine zx_lift (pc' := 1) (fun _ => zq_aload_n rfl rfl dX12_ink_0 rfl) ?_
  refine zx_lift (pc' := 2) (fun _ => zq_iload_n rfl rfl dX12_ink_1 rfl) ?_
  refine zx_cVi (pc' := 5) zcv_X12_280 (cX12_isMark_mc N p1 s) zob_57 rfl (by decide) (Nat.le_of_ble_eq_true rfl) dX12_ink_2 rfl rfl (fun r1 s2 => ?_)
  refine zx_if_eq (pc' := 8) (tgt := 15) dX12_ink_5 rfl rfl (fun hc => ?_) (fun hc => ?_)
  · refine zx_less [.null, .null, .null, .null] (zq_cz (zq_cz (zq_cz (zq_cz zq_cn)))) ?_
    exact xX12_ink_j15_j N s2
  · refine zx_lift (pc' := 9) (fun _ => zq_iload_n rfl rfl dX12_ink_8 rfl) ?_
    refine zx_cSi (pc' := 12) zcs_X12_289 (cX12_isInk_mc N p2 s2) rfl (by decide) (Nat.le_of_ble_eq_true rfl) dX12_ink_9 rfl rfl (fun r3 s4 => ?_)
    refine zx_if_ne (pc' := 15) (tgt := 19) dX12_ink_12 rfl rfl (fun hc => ?_) (fun hc => ?_)
    · refine zx_lift (pc' := 20) (fun _ => zq_aload_n rfl rfl dX12_ink_19 rfl) ?_
      refine zx_lift (pc' := 23) (fun _ => zt_getR zfr_X12_25 zfd_57_8 dX12_ink_20 rfl) ?_
      refine zx_lift (pc' := 24) (fun _ => zq_iload_n rfl rfl dX12_ink_23 rfl) ?_
      refine zx_iaload (pc' := 25) zsh_63 dX12_ink_24 rfl ?_
      refine zx_istore_n (pc' := 26) (ls' := fun x5 => [.ref 57, .int p1, .int p2, .int x5]) rfl (by decide) rfl (fun _ => rfl) dX12_ink_25 rfl (fun x5 => ?_)
      refine zx_lift (pc' := 27) (fun _ => zq_aload_n rfl rfl dX12_ink_26 rfl) ?_
      refine zx_lift (pc' := 30) (fun _ => zt_getR zfr_X12_25 zfd_57_8 dX12_ink_27 rfl) ?_
      refine zx_lift (pc' := 31) (fun _ => zq_iload_n rfl rfl dX12_ink_30 rfl) ?_
      refine zx_lift (pc' := 32) (fun _ => zq_iload_n rfl rfl dX12_ink_31 rfl) ?_
      refine zx_iastore (pc' := 33) zsh_63 dX12_ink_32 rfl (fun s6 => ?_)
      refine zx_lift (pc' := 34) (fun _ => zq_aload_n rfl rfl dX12_ink_33 rfl) ?_
      refine zx_cVi (pc' := 37) zcv_X12_137 (cX12_findMust_mc N s6) zob_57 rfl (by decide) (Nat.le_of_ble_eq_true rfl) dX12_ink_34 rfl rfl (fun r7 s8 => ?_)
      refine zx_if_ne (pc' := 40) (tgt := 64) dX12_ink_37 rfl rfl (fun hc => ?_) (fun hc => ?_)
      · refine zx_lift (pc' := 65) (fun _ => zq_iload_n rfl rfl dX12_ink_64 rfl) ?_
        exact zx_iret rfl dX12_ink_65
      · refine zx_lift (pc' := 41) (fun _ => zq_aload_n rfl rfl dX12_ink_40 rfl) ?_
        refine zx_lift (pc' := 44) (fun _ => zt_getR zfr_X12_25 zfd_57_8 dX12_ink_41 rfl) ?_
        refine zx_lift (pc' := 45) (fun _ => zq_iload_n rfl rfl dX12_ink_44 rfl) ?_
        refine zx_lift (pc' := 46) (fun _ => zq_iload_n rfl rfl dX12_ink_45 rfl) ?_
        refine zx_iastore (pc' := 47) zsh_63 dX12_ink_46 rfl (fun s9 => ?_)
        refine zx_lift (pc' := 48) (fun _ => zq_aload_n rfl rfl dX12_ink_47 rfl) ?_
        refine zx_cVi (pc' := 51) zcv_X12_137 (cX12_findMust_mc N s9) zob_57 rfl (by decide) (Nat.le_of_ble_eq_true rfl) dX12_ink_48 rfl rfl (fun r10 s11 => ?_)
        refine zx_tern (pcJ := 63) (lsJ := fun x12 => [.null, .null, .null, .null]) (stJ := fun x12 => [.int x12]) (fun x12 => ?_) (fun f hJ => ?_)
        rotate_left
        · refine zx_lif_eq (pc' := 54) (tgt := 60) dX12_ink_51 rfl rfl (fun _ => ?_) (fun _ => ?_)
          · refine zx_lift (pc' := 63) (fun _ => zq_sipush (v := (-1001)) dX12_ink_60 rfl rfl) ?_
            exact zx_lessJ (zq_cz (zq_cz (zq_cz (zq_cz zq_cn)))) (hJ _)
          · refine zx_lift (pc' := 57) (fun _ => zq_sipush (v := (-1003)) dX12_ink_54 rfl rfl) ?_
            refine zx_lift (pc' := 63) (fun _ => zq_goto dX12_ink_57 rfl) ?_
            exact zx_lessJ (zq_cz (zq_cz (zq_cz (zq_cz zq_cn)))) (hJ _)
        exact zx_iret rfl dX12_ink_63
    · refine zx_less [.null, .null, .null, .null] (zq_cz (zq_cz (zq_cz (zq_cz zq_cn)))) ?_
      exact xX12_ink_j15_j N s4
theorem cX12_ink_mc (N : Nat)  (p1 : Int32) (p2 : Int32) (s : zq_S) (v : Int32 × zq_S) (h : mX12_ink N p1 p2 s = some v) : zq_MC yX12_ink cX12_ink 4 (some .int) ⟨2, 0, 0, 46⟩ 0 0 [.ref 57, .int p1, .int p2] (zq_en s) (zv_i v.1, zq_en v.2) := zq_MC_x [.ref 57, .int p1, .int p2, .null] (by decide +kernel) rfl rfl (Nat.le_of_ble_eq_true rfl) (xX12_ink N p1 p2 s) h
def jX12_least_j21 (N : Nat)   (t0 : Int32) (s : zq_S) : Option (Int32 × zq_S) :=
  some (t0, s)
set_option maxRecDepth 20000 in
set_option maxHeartbeats 2000000 in
theorem xX12_least_j21_j (N : Nat)   (t0 : Int32) (s : zq_S) : zq_X yX12_least RX12 cX12_least 1 (some .int) ⟨6, 0, 0, 143⟩ zv_i 21 [.null] [.int t0] s (jX12_least_j21 N t0 s) := by
  unfold jX12_least_j21
  exact zx_iret rfl dX12_least_21
def mX12_least (N : Nat)   (s : zq_S) : Option (Int32 × zq_S) :=
  zq_b2 (mX12_findSessions N s) (fun r1 s2 =>
  if (zgf s2 57 6) = (0 : Int32) then
  jX12_least_j21 N (0 : Int32) s2
  else
  zq_ck (0 : Int32) 4096 (
  jX12_least_j21 N (zga s2 83 (0 : Int32)) s2))
set_option maxRecDepth 20000 in
set_option maxHeartbeats 2000000 in
theorem xX12_least (N : Nat)   (s : zq_S) : zq_X yX12_least RX12 cX12_least 1 (some .int) ⟨6, 0, 0, 143⟩ zv_i 0 [.ref 57] [] s (mX12_least N s) := by
  unfold mX12_least
  refine zx_lift (pc' := 1) (fun _ => zq_aload_n rfl rfl dX12_least_0 rfl) ?_
  refine zx_cVv (pc' := 4) zcv_X12_322 (cX12_findSessions_mc N s) zob_57 rfl (by decide) (Nat.le_of_ble_eq_true rfl) dX12_least_1 rfl rfl (fun r1 s2 => ?_)
  refine zx_lift (pc' := 5) (fun _ => zq_aload_n rfl rfl dX12_least_4 rfl) ?_
  refine zx_lift (pc' := 8) (fun _ => zt_getI zfr_X12_141 zfd_57_6 dX12_least_5 rfl) ?_
  refine zx_if_ne (pc' := 11) (tgt := 15) dX12_least_8 rfl rfl (fun hc => ?_) (fun hc => ?_)
  · refine zx_lift (pc' := 16) (fun _ => zq_aload_n rfl rfl dX12_least_15 rfl) ?_
    refine zx_lift (pc' := 19) (fun _ => zt_getR zfr_X12_91 zfd_57_43 dX12_least_16 rfl) ?_
    refine zx_lift (pc' := 20) (fun _ => zq_iconst (v := 0) dX12_least_19 rfl rfl) ?_
    refine zx_iaload (pc' := 21) zsh_83 dX12_least_20 rfl ?_
    refine zx_less [.null] (zq_cz zq_cn) ?_
    exact xX12_least_j21_j N (zga s2 83 (0 : Int32)) s2
  · refine zx_lift (pc' := 12) (fun _ => zq_iconst (v := 0) dX12_least_11 rfl rfl) ?_
    refine zx_lift (pc' := 21) (fun _ => zq_goto dX12_least_12 rfl) ?_
    refine zx_less [.null] (zq_cz zq_cn) ?_
    exact xX12_least_j21_j N (0 : Int32) s2
theorem cX12_least_mc (N : Nat)   (s : zq_S) (v : Int32 × zq_S) (h : mX12_least N s = some v) : zq_MC yX12_least cX12_least 1 (some .int) ⟨6, 0, 0, 143⟩ 0 0 [.ref 57] (zq_en s) (zv_i v.1, zq_en v.2) := zq_MC_x [.ref 57] (by decide +kernel) rfl rfl (Nat.le_of_ble_eq_true rfl) (xX12_least N s) h
def bX12_behind_4 (N : Nat)  (f1 : Int32)  (self : Int32 × Int32 × zq_S → Option (Int32 × zq_S)) (v : Int32 × Int32 × zq_S) : Option (Int32 × zq_S) :=
  if (zgf v.2.2 57 6) ≤ v.2.1 then
  some (v.1, v.2.2)
  else
  zq_ck v.2.1 10 (
  zq_b2 (mX12_has N (zga v.2.2 65 v.2.1) f1 v.2.2) (fun r1 s2 =>
  zq_let (if r1 = (0 : Int32) then (0 : Int32) else ((1 : Int32) <<< (v.2.1 &&& 31))) (fun x3 =>
  zq_let (v.1 ||| x3) (fun x4 =>
  zq_let (v.2.1 + (1 : Int32)) (fun x5 =>
  self (x4, x5, s2))))))
set_option maxRecDepth 20000 in
set_option maxHeartbeats 2000000 in
theorem xX12_behind_4 (N : Nat)  (f1 : Int32)  (self : Int32 × Int32 × zq_S → Option (Int32 × zq_S)) (hself : ∀ v, zq_X yX12_behind RX12 cX12_behind 4 (some .int) ⟨1, 0, 0, 21⟩ zv_i 4 [.ref 57, .int f1, .int v.1, .int v.2.1] [] v.2.2 (self v)) (v : Int32 × Int32 × zq_S) : zq_X yX12_behind RX12 cX12_behind 4 (some .int) ⟨1, 0, 0, 21⟩ zv_i 4 [.ref 57, .int f1, .int v.1, .int v.2.1] [] v.2.2 (bX12_behind_4 N f1 self v) := by
  unfold bX12_behind_4
  refine zx_lift (pc' := 5) (fun _ => zq_iload_n rfl rfl dX12_behind_4 rfl) ?_
  refine zx_lift (pc' := 6) (fun _ => zq_aload_n rfl rfl dX12_behind_5 rfl) ?_
  refine zx_lift (pc' := 9) (fun _ => zt_getI zfr_X12_141 zfd_57_6 dX12_behind_6 rfl) ?_
  refine zx_icmp_ge (pc' := 12) (tgt := 41) dX12_behind_9 rfl rfl (fun hc => ?_) (fun hc => ?_)
  · refine zx_lift (pc' := 42) (fun _ => zq_iload_n rfl rfl dX12_behind_41 rfl) ?_
    exact zx_iret rfl dX12_behind_42
  · refine zx_lift (pc' := 13) (fun _ => zq_iload_n rfl rfl dX12_behind_12 rfl) ?_
    refine zx_lift (pc' := 14) (fun _ => zq_aload_n rfl rfl dX12_behind_13 rfl) ?_
    refine zx_lift (pc' := 17) (fun _ => zt_getR zfr_X12_31 zfd_57_10 dX12_behind_14 rfl) ?_
    refine zx_lift (pc' := 18) (fun _ => zq_iload_n rfl rfl dX12_behind_17 rfl) ?_
    refine zx_iaload (pc' := 19) zsh_65 dX12_behind_18 rfl ?_
    refine zx_lift (pc' := 20) (fun _ => zq_iload_n rfl rfl dX12_behind_19 rfl) ?_
    refine zx_cSi (pc' := 23) zcs_X12_189 (cX12_has_mc N (zga v.2.2 65 v.2.1) f1 v.2.2) rfl (by decide) (Nat.le_of_ble_eq_true rfl) dX12_behind_20 rfl rfl (fun r1 s2 => ?_)
    refine zx_tern (pcJ := 33) (lsJ := fun x3 => [.ref 57, .int f1, .null, .int v.2.1]) (stJ := fun x3 => [.int x3, .int v.1]) (fun x3 => ?_) (fun f hJ => ?_)
    rotate_left
    · refine zx_lif_eq (pc' := 26) (tgt := 32) dX12_behind_23 rfl rfl (fun _ => ?_) (fun _ => ?_)
      · refine zx_lift (pc' := 33) (fun _ => zq_iconst (v := 0) dX12_behind_32 rfl rfl) ?_
        exact zx_lessJ (zq_cr (zq_cr (zq_cz (zq_cr zq_cn)))) (hJ _)
      · refine zx_lift (pc' := 27) (fun _ => zq_iconst (v := 1) dX12_behind_26 rfl rfl) ?_
        refine zx_lift (pc' := 28) (fun _ => zq_iload_n rfl rfl dX12_behind_27 rfl) ?_
        refine zx_lift (pc' := 29) (fun _ => zq_ishl dX12_behind_28 rfl) ?_
        refine zx_lift (pc' := 33) (fun _ => zq_goto dX12_behind_29 rfl) ?_
        exact zx_lessJ (zq_cr (zq_cr (zq_cz (zq_cr zq_cn)))) (hJ _)
    refine zx_lift (pc' := 34) (fun _ => zq_ior dX12_behind_33 rfl) ?_
    refine zx_istore_n (pc' := 35) (ls' := fun x4 => [.ref 57, .int f1, .int x4, .int v.2.1]) rfl (by decide) rfl (fun _ => rfl) dX12_behind_34 rfl (fun x4 => ?_)
    refine zx_iinc (pc' := 38) (ls' := fun x5 => [.ref 57, .int f1, .int x4, .int x5]) rfl rfl (by decide) rfl (fun _ => rfl) dX12_behind_35 rfl (fun x5 => ?_)
    refine zx_lift (pc' := 4) (fun _ => zq_goto dX12_behind_38 rfl) ?_
    exact hself (x4, x5, s2)
theorem yX12_behind_4 (N : Nat)  (f1 : Int32)  (n : Nat) : ∀ v : Int32 × Int32 × zq_S, zq_X yX12_behind RX12 cX12_behind 4 (some .int) ⟨1, 0, 0, 21⟩ zv_i 4 [.ref 57, .int f1, .int v.1, .int v.2.1] [] v.2.2 (zq_loop (bX12_behind_4 N f1 ) n v) := by
  induction n with
  | zero => exact fun v u hu => by cases hu
  | succ n ih =>
    intro v
    rw [zq_loop_s]
    exact xX12_behind_4 N f1  (zq_loop (bX12_behind_4 N f1 ) n) ih v
def mX12_behind (N : Nat)  (p1 : Int32) (s : zq_S) : Option (Int32 × zq_S) :=
  zq_loop (bX12_behind_4 N p1 ) N ((0 : Int32), (0 : Int32), s)
set_option maxRecDepth 20000 in
set_option maxHeartbeats 2000000 in
theorem xX12_behind (N : Nat)  (p1 : Int32) (s : zq_S) : zq_X yX12_behind RX12 cX12_behind 4 (some .int) ⟨1, 0, 0, 21⟩ zv_i 0 [.ref 57, .int p1, .null, .null] [] s (mX12_behind N p1 s) := by
  unfold mX12_behind
  refine zx_lift (pc' := 1) (fun _ => zq_iconst (v := 0) dX12_behind_0 rfl rfl) ?_
  refine zx_lift (pc' := 2) (fun _ => zq_istore_n (ls' := [.ref 57, .int p1, .int (0 : Int32), .null]) rfl (by decide) rfl rfl dX12_behind_1 rfl) ?_
  refine zx_lift (pc' := 3) (fun _ => zq_iconst (v := 0) dX12_behind_2 rfl rfl) ?_
  refine zx_lift (pc' := 4) (fun _ => zq_istore_n (ls' := [.ref 57, .int p1, .int (0 : Int32), .int (0 : Int32)]) rfl (by decide) rfl rfl dX12_behind_3 rfl) ?_
  refine yX12_behind_4 N p1  N ((0 : Int32), (0 : Int32), s)
theorem cX12_behind_mc (N : Nat)  (p1 : Int32) (s : zq_S) (v : Int32 × zq_S) (h : mX12_behind N p1 s = some v) : zq_MC yX12_behind cX12_behind 4 (some .int) ⟨1, 0, 0, 21⟩ 0 0 [.ref 57, .int p1] (zq_en s) (zv_i v.1, zq_en v.2) := zq_MC_x [.ref 57, .int p1, .null, .null] (by decide +kernel) rfl rfl (Nat.le_of_ble_eq_true rfl) (xX12_behind N p1 s) h
def mX12_mark (N : Nat)  (p1 : Int32) (p2 : Int32) (s : zq_S) : Option (Int32 × zq_S) :=
  zq_b2 (mX12_isMark N p1 s) (fun r1 s2 =>
  if r1 = (0 : Int32) then
  some ((-1001 : Int32), s2)
  else
  if p2 = (0 : Int32) then
  zq_ck p1 10 (
  some ((zga s2 62 p1), s2))
  else if p2 = (1 : Int32) then
  zq_ck p1 10 (
  some ((zga s2 63 p1), s2))
  else if p2 = (2 : Int32) then
  zq_ck p1 10 (
  some ((zga s2 65 p1), s2))
  else if p2 = (3 : Int32) then
  zq_b2 (mX12_behind N p1 s2) (fun r6 s7 =>
  some (r6, s7))
  else if p2 = (4 : Int32) then
  zq_ck p1 10 (
  some ((zga s2 66 p1), s2))
  else if p2 = (5 : Int32) then
  zq_ck p1 10 (
  some ((zga s2 67 p1), s2))
  else 
  some ((-1002 : Int32), s2))
set_option maxRecDepth 20000 in
set_option maxHeartbeats 2000000 in
theorem xX12_mark (N : Nat)  (p1 : Int32) (p2 : Int32) (s : zq_S) : zq_X yX12_mark RX12 cX12_mark 3 (some .int) ⟨2, 0, 0, 46⟩ zv_i 0 [.ref 57, .int p1, .int p2] [] s (mX12_mark N p1 p2 s) := by
  unfold mX12_mark
  refine zx_lift (pc' := 1) (fun _ => zq_aload_n rfl rfl dX12_mark_0 rfl) ?_
  refine zx_lift (pc' := 2) (fun _ => zq_iload_n rfl rfl dX12_mark_1 rfl) ?_
  refine zx_cVi (pc' := 5) zcv_X12_280 (cX12_isMark_mc N p1 s) zob_57 rfl (by decide) (Nat.le_of_ble_eq_true rfl) dX12_mark_2 rfl rfl (fun r1 s2 => ?_)
  refine zx_if_ne (pc' := 8) (tgt := 12) dX12_mark_5 rfl rfl (fun hc => ?_) (fun hc => ?_)
  · refine zx_lift (pc' := 13) (fun _ => zq_iload_n rfl rfl dX12_mark_12 rfl) ?_
    refine zx_ite (fun hc => ?_) (fun hn3 => ?_)
    · refine zx_tabIn (tgt := 52) hc dX12_mark_13 (by decide) (by decide) rfl rfl ?_
      refine zx_lift (pc' := 53) (fun _ => zq_aload_n rfl rfl dX12_mark_52 rfl) ?_
      refine zx_lift (pc' := 56) (fun _ => zt_getR zfr_X12_22 zfd_57_7 dX12_mark_53 rfl) ?_
      refine zx_lift (pc' := 57) (fun _ => zq_iload_n rfl rfl dX12_mark_56 rfl) ?_
      refine zx_iaload (pc' := 58) zsh_62 dX12_mark_57 rfl ?_
      exact zx_iret rfl dX12_mark_58
    refine zx_ite (fun hc => ?_) (fun hn4 => ?_)
    · refine zx_tabIn (tgt := 59) hc dX12_mark_13 (by decide) (by decide) rfl rfl ?_
      refine zx_lift (pc' := 60) (fun _ => zq_aload_n rfl rfl dX12_mark_59 rfl) ?_
      refine zx_lift (pc' := 63) (fun _ => zt_getR zfr_X12_25 zfd_57_8 dX12_mark_60 rfl) ?_
      refine zx_lift (pc' := 64) (fun _ => zq_iload_n rfl rfl dX12_mark_63 rfl) ?_
      refine zx_iaload (pc' := 65) zsh_63 dX12_mark_64 rfl ?_
      exact zx_iret rfl dX12_mark_65
    refine zx_ite (fun hc => ?_) (fun hn5 => ?_)
    · refine zx_tabIn (tgt := 66) hc dX12_mark_13 (by decide) (by decide) rfl rfl ?_
      refine zx_lift (pc' := 67) (fun _ => zq_aload_n rfl rfl dX12_mark_66 rfl) ?_
      refine zx_lift (pc' := 70) (fun _ => zt_getR zfr_X12_31 zfd_57_10 dX12_mark_67 rfl) ?_
      refine zx_lift (pc' := 71) (fun _ => zq_iload_n rfl rfl dX12_mark_70 rfl) ?_
      refine zx_iaload (pc' := 72) zsh_65 dX12_mark_71 rfl ?_
      exact zx_iret rfl dX12_mark_72
    refine zx_ite (fun hc => ?_) (fun hn8 => ?_)
    · refine zx_tabIn (tgt := 73) hc dX12_mark_13 (by decide) (by decide) rfl rfl ?_
      refine zx_lift (pc' := 74) (fun _ => zq_aload_n rfl rfl dX12_mark_73 rfl) ?_
      refine zx_lift (pc' := 75) (fun _ => zq_iload_n rfl rfl dX12_mark_74 rfl) ?_
      refine zx_cVi (pc' := 78) zcv_X12_284 (cX12_behind_mc N p1 s2) zob_57 rfl (by decide) (Nat.le_of_ble_eq_true rfl) dX12_mark_75 rfl rfl (fun r6 s7 => ?_)
      exact zx_iret rfl dX12_mark_78
    refine zx_ite (fun hc => ?_) (fun hn9 => ?_)
    · refine zx_tabIn (tgt := 79) hc dX12_mark_13 (by decide) (by decide) rfl rfl ?_
      refine zx_lift (pc' := 80) (fun _ => zq_aload_n rfl rfl dX12_mark_79 rfl) ?_
      refine zx_lift (pc' := 83) (fun _ => zt_getR zfr_X12_34 zfd_57_11 dX12_mark_80 rfl) ?_
      refine zx_lift (pc' := 84) (fun _ => zq_iload_n rfl rfl dX12_mark_83 rfl) ?_
      refine zx_iaload (pc' := 85) zsh_66 dX12_mark_84 rfl ?_
      exact zx_iret rfl dX12_mark_85
    refine zx_ite (fun hc => ?_) (fun hn10 => ?_)
    · refine zx_tabIn (tgt := 86) hc dX12_mark_13 (by decide) (by decide) rfl rfl ?_
      refine zx_lift (pc' := 87) (fun _ => zq_aload_n rfl rfl dX12_mark_86 rfl) ?_
      refine zx_lift (pc' := 90) (fun _ => zt_getR zfr_X12_37 zfd_57_12 dX12_mark_87 rfl) ?_
      refine zx_lift (pc' := 91) (fun _ => zq_iload_n rfl rfl dX12_mark_90 rfl) ?_
      refine zx_iaload (pc' := 92) zsh_67 dX12_mark_91 rfl ?_
      exact zx_iret rfl dX12_mark_92
    refine zx_tabOut (tgt := 93) dX12_mark_13 (by have := zq_tk (k := 0) hn3 (by decide); have := zq_tk (k := 1) hn4 (by decide); have := zq_tk (k := 2) hn5 (by decide); have := zq_tk (k := 3) hn8 (by decide); have := zq_tk (k := 4) hn9 (by decide); have := zq_tk (k := 5) hn10 (by decide); omega) rfl ?_
    refine zx_lift (pc' := 96) (fun _ => zq_sipush (v := (-1002)) dX12_mark_93 rfl rfl) ?_
    exact zx_iret rfl dX12_mark_96
  · refine zx_lift (pc' := 11) (fun _ => zq_sipush (v := (-1001)) dX12_mark_8 rfl rfl) ?_
    exact zx_iret rfl dX12_mark_11
theorem cX12_mark_mc (N : Nat)  (p1 : Int32) (p2 : Int32) (s : zq_S) (v : Int32 × zq_S) (h : mX12_mark N p1 p2 s = some v) : zq_MC yX12_mark cX12_mark 3 (some .int) ⟨2, 0, 0, 46⟩ 0 0 [.ref 57, .int p1, .int p2] (zq_en s) (zv_i v.1, zq_en v.2) := zq_MC_x [.ref 57, .int p1, .int p2] (by decide +kernel) rfl rfl (Nat.le_of_ble_eq_true rfl) (xX12_mark N p1 p2 s) h
def mX12_isCopy (N : Nat)  (p1 : Int32) (s : zq_S) : Option (Int32 × zq_S) :=
  zq_b2 (mX12_in N (Int32.toInt64 p1) (0 : Int64) (Int32.toInt64 ((zgf s 57 54) - (1 : Int32))) s) (fun r1 s2 =>
  zq_bz r1 (some (r1, s2)))
set_option maxRecDepth 20000 in
set_option maxHeartbeats 2000000 in
theorem xX12_isCopy (N : Nat)  (p1 : Int32) (s : zq_S) : zq_X yX12_isCopy RX12 cX12_isCopy 2 (some .boolean) ⟨1, 0, 0, 25⟩ zv_i 0 [.ref 57, .int p1] [] s (mX12_isCopy N p1 s) := by
  unfold mX12_isCopy
  refine zx_lift (pc' := 1) (fun _ => zq_iload_n rfl rfl dX12_isCopy_0 rfl) ?_
  refine zx_lift (pc' := 2) (fun _ => zq_i2l dX12_isCopy_1 rfl) ?_
  refine zx_lift (pc' := 3) (fun _ => zq_lconst (v := 0) dX12_isCopy_2 rfl rfl) ?_
  refine zx_lift (pc' := 4) (fun _ => zq_aload_n rfl rfl dX12_isCopy_3 rfl) ?_
  refine zx_lift (pc' := 7) (fun _ => zt_getI zfr_X12_295 zfd_57_54 dX12_isCopy_4 rfl) ?_
  refine zx_lift (pc' := 8) (fun _ => zq_iconst (v := 1) dX12_isCopy_7 rfl rfl) ?_
  refine zx_lift (pc' := 9) (fun _ => zq_isub dX12_isCopy_8 rfl) ?_
  refine zx_lift (pc' := 10) (fun _ => zq_i2l dX12_isCopy_9 rfl) ?_
  refine zx_cSi (pc' := 13) zcs_X12_144 (cX12_in_mc N (Int32.toInt64 p1) (0 : Int64) (Int32.toInt64 ((zgf s 57 54) - (1 : Int32))) s) rfl (by decide) (Nat.le_of_ble_eq_true rfl) dX12_isCopy_10 rfl rfl (fun r1 s2 => ?_)
  exact zx_zretg rfl dX12_isCopy_13
theorem cX12_isCopy_mc (N : Nat)  (p1 : Int32) (s : zq_S) (v : Int32 × zq_S) (h : mX12_isCopy N p1 s = some v) : zq_MC yX12_isCopy cX12_isCopy 2 (some .boolean) ⟨1, 0, 0, 25⟩ 0 0 [.ref 57, .int p1] (zq_en s) (zv_i v.1, zq_en v.2) := zq_MC_x [.ref 57, .int p1] (by decide +kernel) rfl rfl (Nat.le_of_ble_eq_true rfl) (xX12_isCopy N p1 s) h
