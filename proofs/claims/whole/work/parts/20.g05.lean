def jX4_waysOn_a45_j43 (N : Nat)  (f1 : Int32) (f5 : Int32)  (self : Int64 × Int32 × zq_S → Option (Int64 × zq_S)) (w3 : Int64) (w6 : Int32) (s : zq_S) : Option (Int64 × zq_S) :=
  zq_let (w6 + (1 : Int32)) (fun x3 =>
  self (w3, x3, s))
set_option maxRecDepth 20000 in
set_option maxHeartbeats 2000000 in
theorem xX4_waysOn_a45_j43_j (N : Nat)  (f1 : Int32) (f5 : Int32)  (self : Int64 × Int32 × zq_S → Option (Int64 × zq_S)) (hself : ∀ v, zq_X yX4_waysOn RX4 cX4_waysOn 7 (some .long) ⟨1, 0, 0, 23⟩ zv_l 15 [.null, .int f1, .ref 45, .long v.1, .null, .int f5, .int v.2.1] [] v.2.2 (self v)) (w3 : Int64) (w6 : Int32) (s : zq_S) : zq_X yX4_waysOn RX4 cX4_waysOn 7 (some .long) ⟨1, 0, 0, 23⟩ zv_l 43 [.null, .int f1, .ref 45, .long w3, .null, .int f5, .int w6] [] s (jX4_waysOn_a45_j43 N f1 f5 self w3 w6 s) := by
  unfold jX4_waysOn_a45_j43
  refine zx_iinc (pc' := 46) (ls' := fun x3 => [.null, .int f1, .ref 45, .long w3, .null, .int f5, .int x3]) rfl rfl (by decide) rfl (fun _ => rfl) dX4_waysOn_43 rfl (fun x3 => ?_)
  refine zx_lift (pc' := 15) (fun _ => zq_goto dX4_waysOn_46 rfl) ?_
  exact hself (w3, x3, s)
def bX4_waysOn_a45_15 (N : Nat)  (f1 : Int32) (f5 : Int32)  (self : Int64 × Int32 × zq_S → Option (Int64 × zq_S)) (v : Int64 × Int32 × zq_S) : Option (Int64 × zq_S) :=
  if (10 : Int32) ≤ v.2.1 then
  some (v.1, v.2.2)
  else
  if ((f5 >>> (v.2.1 &&& 31)) &&& (1 : Int32)) = (0 : Int32) then
  jX4_waysOn_a45_j43 N f1 f5 self v.1 v.2.1 v.2.2
  else
  zq_ck (f1 ||| ((1 : Int32) <<< (v.2.1 &&& 31))) 1024 (
  zq_let (v.1 + (zgl v.2.2 45 (f1 ||| ((1 : Int32) <<< (v.2.1 &&& 31))))) (fun x4 =>
  jX4_waysOn_a45_j43 N f1 f5 self x4 v.2.1 v.2.2))
set_option maxRecDepth 20000 in
set_option maxHeartbeats 2000000 in
theorem xX4_waysOn_a45_15 (N : Nat)  (f1 : Int32) (f5 : Int32)  (self : Int64 × Int32 × zq_S → Option (Int64 × zq_S)) (hself : ∀ v, zq_X yX4_waysOn RX4 cX4_waysOn 7 (some .long) ⟨1, 0, 0, 23⟩ zv_l 15 [.null, .int f1, .ref 45, .long v.1, .null, .int f5, .int v.2.1] [] v.2.2 (self v)) (v : Int64 × Int32 × zq_S) : zq_X yX4_waysOn RX4 cX4_waysOn 7 (some .long) ⟨1, 0, 0, 23⟩ zv_l 15 [.null, .int f1, .ref 45, .long v.1, .null, .int f5, .int v.2.1] [] v.2.2 (bX4_waysOn_a45_15 N f1 f5 self v) := by
  unfold bX4_waysOn_a45_15
  refine zx_lift (pc' := 17) (fun _ => zq_iload rfl dX4_waysOn_15 rfl) ?_
  refine zx_lift (pc' := 19) (fun _ => zq_bipush (v := 10) dX4_waysOn_17 rfl rfl) ?_
  refine zx_icmp_ge (pc' := 22) (tgt := 49) dX4_waysOn_19 rfl rfl (fun hc => ?_) (fun hc => ?_)
  · refine zx_lift (pc' := 50) (fun _ => zq_lload_n rfl rfl dX4_waysOn_49 rfl) ?_
    exact zx_lret rfl dX4_waysOn_50
  · refine zx_lift (pc' := 24) (fun _ => zq_iload rfl dX4_waysOn_22 rfl) ?_
    refine zx_lift (pc' := 26) (fun _ => zq_iload rfl dX4_waysOn_24 rfl) ?_
    refine zx_lift (pc' := 27) (fun _ => zq_ishr dX4_waysOn_26 rfl) ?_
    refine zx_lift (pc' := 28) (fun _ => zq_iconst (v := 1) dX4_waysOn_27 rfl rfl) ?_
    refine zx_lift (pc' := 29) (fun _ => zq_iand dX4_waysOn_28 rfl) ?_
    refine zx_if_eq (pc' := 32) (tgt := 43) dX4_waysOn_29 rfl rfl (fun hc => ?_) (fun hc => ?_)
    · exact xX4_waysOn_a45_j43_j N f1 f5 self hself v.1 v.2.1 v.2.2
    · refine zx_lift (pc' := 33) (fun _ => zq_lload_n rfl rfl dX4_waysOn_32 rfl) ?_
      refine zx_lift (pc' := 34) (fun _ => zq_aload_n rfl rfl dX4_waysOn_33 rfl) ?_
      refine zx_lift (pc' := 35) (fun _ => zq_iload_n rfl rfl dX4_waysOn_34 rfl) ?_
      refine zx_lift (pc' := 36) (fun _ => zq_iconst (v := 1) dX4_waysOn_35 rfl rfl) ?_
      refine zx_lift (pc' := 38) (fun _ => zq_iload rfl dX4_waysOn_36 rfl) ?_
      refine zx_lift (pc' := 39) (fun _ => zq_ishl dX4_waysOn_38 rfl) ?_
      refine zx_lift (pc' := 40) (fun _ => zq_ior dX4_waysOn_39 rfl) ?_
      refine zx_laload (pc' := 41) zsh_45 dX4_waysOn_40 rfl ?_
      refine zx_lift (pc' := 42) (fun _ => zq_ladd dX4_waysOn_41 rfl) ?_
      refine zx_lstore_n (pc' := 43) (ls' := fun x4 => [.null, .int f1, .ref 45, .long x4, .null, .int f5, .int v.2.1]) rfl (by decide) rfl (fun _ => rfl) dX4_waysOn_42 rfl (fun x4 => ?_)
      exact xX4_waysOn_a45_j43_j N f1 f5 self hself x4 v.2.1 v.2.2
theorem yX4_waysOn_a45_15 (N : Nat)  (f1 : Int32) (f5 : Int32)  (n : Nat) : ∀ v : Int64 × Int32 × zq_S, zq_X yX4_waysOn RX4 cX4_waysOn 7 (some .long) ⟨1, 0, 0, 23⟩ zv_l 15 [.null, .int f1, .ref 45, .long v.1, .null, .int f5, .int v.2.1] [] v.2.2 (zq_loop (bX4_waysOn_a45_15 N f1 f5 ) n v) := by
  induction n with
  | zero => exact fun v u hu => by cases hu
  | succ n ih =>
    intro v
    rw [zq_loop_s]
    exact xX4_waysOn_a45_15 N f1 f5  (zq_loop (bX4_waysOn_a45_15 N f1 f5 ) n) ih v
def mX4_waysOn_a45 (N : Nat)  (p1 : Int32) (s : zq_S) : Option (Int64 × zq_S) :=
  zq_b2 (mX3_following N p1 s) (fun r1 s2 =>
  zq_loop (bX4_waysOn_a45_15 N p1 r1 ) N ((0 : Int64), (0 : Int32), s2))
set_option maxRecDepth 20000 in
set_option maxHeartbeats 2000000 in
theorem xX4_waysOn_a45 (N : Nat)  (p1 : Int32) (s : zq_S) : zq_X yX4_waysOn RX4 cX4_waysOn 7 (some .long) ⟨1, 0, 0, 23⟩ zv_l 0 [.ref 44, .int p1, .ref 45, .null, .null, .null, .null] [] s (mX4_waysOn_a45 N p1 s) := by
  unfold mX4_waysOn_a45
  refine zx_lift (pc' := 1) (fun _ => zq_lconst (v := 0) dX4_waysOn_0 rfl rfl) ?_
  refine zx_lift (pc' := 2) (fun _ => zq_lstore_n (ls' := [.ref 44, .int p1, .ref 45, .long (0 : Int64), .null, .null, .null]) rfl (by decide) rfl rfl dX4_waysOn_1 rfl) ?_
  refine zx_lift (pc' := 3) (fun _ => zq_aload_n rfl rfl dX4_waysOn_2 rfl) ?_
  refine zx_lift (pc' := 6) (fun _ => zt_getR zfr_X4_19 zfd_44_0 dX4_waysOn_3 rfl) ?_
  refine zx_lift (pc' := 7) (fun _ => zq_iload_n rfl rfl dX4_waysOn_6 rfl) ?_
  refine zx_cVi (pc' := 10) zcv_X4_57 (cX3_following_mc N p1 s) zob_31 rfl (by decide) (Nat.le_of_ble_eq_true rfl) dX4_waysOn_7 rfl rfl (fun r1 s2 => ?_)
  refine zx_lift (pc' := 12) (fun _ => zq_istore (ls' := [.ref 44, .int p1, .ref 45, .long (0 : Int64), .null, .int r1, .null]) (by decide) rfl rfl dX4_waysOn_10 rfl) ?_
  refine zx_lift (pc' := 13) (fun _ => zq_iconst (v := 0) dX4_waysOn_12 rfl rfl) ?_
  refine zx_lift (pc' := 15) (fun _ => zq_istore (ls' := [.ref 44, .int p1, .ref 45, .long (0 : Int64), .null, .int r1, .int (0 : Int32)]) (by decide) rfl rfl dX4_waysOn_13 rfl) ?_
  refine zx_less [.null, .int p1, .ref 45, .long (0 : Int64), .null, .int r1, .int (0 : Int32)] (zq_cz (zq_cr (zq_cr (zq_cr (zq_cz (zq_cr (zq_cr zq_cn))))))) ?_
  refine yX4_waysOn_a45_15 N p1 r1  N ((0 : Int64), (0 : Int32), s2)
theorem cX4_waysOn_a45_mc (N : Nat)  (p1 : Int32) (s : zq_S) (v : Int64 × zq_S) (h : mX4_waysOn_a45 N p1 s = some v) : zq_MC yX4_waysOn cX4_waysOn 7 (some .long) ⟨1, 0, 0, 23⟩ 0 0 [.ref 44, .int p1, .ref 45] (zq_en s) (zv_l v.1, zq_en v.2) := zq_MC_x [.ref 44, .int p1, .ref 45, .null, .null, .null, .null] (by decide +kernel) rfl rfl (Nat.le_of_ble_eq_true rfl) (xX4_waysOn_a45 N p1 s) h
def jX4_countWays_a45_j40 (N : Nat)    (self : Int32 × zq_S → Option (Unit × zq_S)) (w2 : Int32) (s : zq_S) : Option (Unit × zq_S) :=
  zq_let (w2 + (-1 : Int32)) (fun x6 =>
  self (x6, s))
set_option maxRecDepth 20000 in
set_option maxHeartbeats 2000000 in
theorem xX4_countWays_a45_j40_j (N : Nat)    (self : Int32 × zq_S → Option (Unit × zq_S)) (hself : ∀ v, zq_X yX4_countWays RX4 cX4_countWays 4 none ⟨3, 0, 0, 64⟩ zv_v 10 [.ref 44, .ref 45, .int v.1, .null] [] v.2 (self v)) (w2 : Int32) (s : zq_S) : zq_X yX4_countWays RX4 cX4_countWays 4 none ⟨3, 0, 0, 64⟩ zv_v 40 [.ref 44, .ref 45, .int w2, .null] [] s (jX4_countWays_a45_j40 N self w2 s) := by
  unfold jX4_countWays_a45_j40
  refine zx_iinc (pc' := 43) (ls' := fun x6 => [.ref 44, .ref 45, .int x6, .null]) rfl rfl (by decide) rfl (fun _ => rfl) dX4_countWays_40 rfl (fun x6 => ?_)
  refine zx_lift (pc' := 10) (fun _ => zq_goto dX4_countWays_43 rfl) ?_
  exact hself (x6, s)
def bX4_countWays_a45_10 (N : Nat)    (self : Int32 × zq_S → Option (Unit × zq_S)) (v : Int32 × zq_S) : Option (Unit × zq_S) :=
  if v.1 < (0 : Int32) then
  some ((), v.2)
  else
  zq_b2 (mX3_goodAt N v.1 v.2) (fun r4 s5 =>
  zq_ck r4 1024 (
  if (lg_cmp (zgl s5 45 r4) (0 : Int64)) = (0 : Int32) then
  jX4_countWays_a45_j40 N self v.1 s5
  else
  zq_b2 (mX4_waysOn_a45 N r4 s5) (fun r7 s8 =>
  zq_ck r4 1024 (
  zq_let (zpl s8 45 r4 r7) (fun s9 =>
  jX4_countWays_a45_j40 N self v.1 s9)))))
set_option maxRecDepth 20000 in
set_option maxHeartbeats 2000000 in
theorem xX4_countWays_a45_10 (N : Nat)    (self : Int32 × zq_S → Option (Unit × zq_S)) (hself : ∀ v, zq_X yX4_countWays RX4 cX4_countWays 4 none ⟨3, 0, 0, 64⟩ zv_v 10 [.ref 44, .ref 45, .int v.1, .null] [] v.2 (self v)) (v : Int32 × zq_S) : zq_X yX4_countWays RX4 cX4_countWays 4 none ⟨3, 0, 0, 64⟩ zv_v 10 [.ref 44, .ref 45, .int v.1, .null] [] v.2 (bX4_countWays_a45_10 N self v) := by
  unfold bX4_countWays_a45_10
  refine zx_lift (pc' := 11) (fun _ => zq_iload_n rfl rfl dX4_countWays_10 rfl) ?_
  refine zx_if_lt (pc' := 14) (tgt := 46) dX4_countWays_11 rfl rfl (fun hc => ?_) (fun hc => ?_)
  · exact zx_vret rfl dX4_countWays_46
  · refine zx_lift (pc' := 15) (fun _ => zq_aload_n rfl rfl dX4_countWays_14 rfl) ?_
    refine zx_lift (pc' := 18) (fun _ => zt_getR zfr_X4_19 zfd_44_0 dX4_countWays_15 rfl) ?_
    refine zx_lift (pc' := 19) (fun _ => zq_iload_n rfl rfl dX4_countWays_18 rfl) ?_
    refine zx_cVi (pc' := 22) zcv_X4_65 (cX3_goodAt_mc N v.1 v.2) zob_31 rfl (by decide) (Nat.le_of_ble_eq_true rfl) dX4_countWays_19 rfl rfl (fun r4 s5 => ?_)
    refine zx_lift (pc' := 23) (fun _ => zq_istore_n (ls' := [.ref 44, .ref 45, .int v.1, .int r4]) rfl (by decide) rfl rfl dX4_countWays_22 rfl) ?_
    refine zx_lift (pc' := 24) (fun _ => zq_aload_n rfl rfl dX4_countWays_23 rfl) ?_
    refine zx_lift (pc' := 25) (fun _ => zq_iload_n rfl rfl dX4_countWays_24 rfl) ?_
    refine zx_laload (pc' := 26) zsh_45 dX4_countWays_25 rfl ?_
    refine zx_lift (pc' := 27) (fun _ => zq_lconst (v := 0) dX4_countWays_26 rfl rfl) ?_
    refine zx_lift (pc' := 28) (fun _ => zq_lcmp dX4_countWays_27 rfl) ?_
    refine zx_if_eq (pc' := 31) (tgt := 40) dX4_countWays_28 rfl rfl (fun hc => ?_) (fun hc => ?_)
    · refine zx_less [.ref 44, .ref 45, .int v.1, .null] (zq_cr (zq_cr (zq_cr (zq_cz zq_cn)))) ?_
      exact xX4_countWays_a45_j40_j N self hself v.1 s5
    · refine zx_lift (pc' := 32) (fun _ => zq_aload_n rfl rfl dX4_countWays_31 rfl) ?_
      refine zx_lift (pc' := 33) (fun _ => zq_iload_n rfl rfl dX4_countWays_32 rfl) ?_
      refine zx_lift (pc' := 34) (fun _ => zq_aload_n rfl rfl dX4_countWays_33 rfl) ?_
      refine zx_lift (pc' := 35) (fun _ => zq_iload_n rfl rfl dX4_countWays_34 rfl) ?_
      refine zx_lift (pc' := 36) (fun _ => zq_aload_n rfl rfl dX4_countWays_35 rfl) ?_
      refine zx_cVl (pc' := 39) zcv_X4_80 (cX4_waysOn_a45_mc N r4 s5) zob_44 rfl (by decide) (Nat.le_of_ble_eq_true rfl) dX4_countWays_36 rfl rfl (fun r7 s8 => ?_)
      refine zx_lastore (pc' := 40) zsh_45 dX4_countWays_39 rfl (fun s9 => ?_)
      refine zx_less [.ref 44, .ref 45, .int v.1, .null] (zq_cr (zq_cr (zq_cr (zq_cz zq_cn)))) ?_
      exact xX4_countWays_a45_j40_j N self hself v.1 s9
theorem yX4_countWays_a45_10 (N : Nat)    (n : Nat) : ∀ v : Int32 × zq_S, zq_X yX4_countWays RX4 cX4_countWays 4 none ⟨3, 0, 0, 64⟩ zv_v 10 [.ref 44, .ref 45, .int v.1, .null] [] v.2 (zq_loop (bX4_countWays_a45_10 N ) n v) := by
  induction n with
  | zero => exact fun v u hu => by cases hu
  | succ n ih =>
    intro v
    rw [zq_loop_s]
    exact xX4_countWays_a45_10 N  (zq_loop (bX4_countWays_a45_10 N ) n) ih v
def mX4_countWays_a45 (N : Nat)   (s : zq_S) : Option (Unit × zq_S) :=
  zq_b2 (mX3_goodCount N s) (fun r1 s2 =>
  zq_let (r1 - (2 : Int32)) (fun x3 =>
  zq_loop (bX4_countWays_a45_10 N ) N (x3, s2)))
set_option maxRecDepth 20000 in
set_option maxHeartbeats 2000000 in
theorem xX4_countWays_a45 (N : Nat)   (s : zq_S) : zq_X yX4_countWays RX4 cX4_countWays 4 none ⟨3, 0, 0, 64⟩ zv_v 0 [.ref 44, .ref 45, .null, .null] [] s (mX4_countWays_a45 N s) := by
  unfold mX4_countWays_a45
  refine zx_lift (pc' := 1) (fun _ => zq_aload_n rfl rfl dX4_countWays_0 rfl) ?_
  refine zx_lift (pc' := 4) (fun _ => zt_getR zfr_X4_19 zfd_44_0 dX4_countWays_1 rfl) ?_
  refine zx_cVi (pc' := 7) zcv_X4_61 (cX3_goodCount_mc N s) zob_31 rfl (by decide) (Nat.le_of_ble_eq_true rfl) dX4_countWays_4 rfl rfl (fun r1 s2 => ?_)
  refine zx_lift (pc' := 8) (fun _ => zq_iconst (v := 2) dX4_countWays_7 rfl rfl) ?_
  refine zx_lift (pc' := 9) (fun _ => zq_isub dX4_countWays_8 rfl) ?_
  refine zx_istore_n (pc' := 10) (ls' := fun x3 => [.ref 44, .ref 45, .int x3, .null]) rfl (by decide) rfl (fun _ => rfl) dX4_countWays_9 rfl (fun x3 => ?_)
  refine yX4_countWays_a45_10 N  N (x3, s2)
theorem cX4_countWays_a45_mc (N : Nat)   (s : zq_S) (v : Unit × zq_S) (h : mX4_countWays_a45 N s = some v) : zq_MC yX4_countWays cX4_countWays 4 none ⟨3, 0, 0, 64⟩ 0 0 [.ref 44, .ref 45] (zq_en s) (zv_v v.1, zq_en v.2) := zq_MC_x [.ref 44, .ref 45, .null, .null] (by decide +kernel) rfl rfl (Nat.le_of_ble_eq_true rfl) (xX4_countWays_a45 N s) h
def jX4_number_j41 (N : Nat)    (s : zq_S) : Option (Int64 × zq_S) :=
  zq_ck (0 : Int32) 1024 (
  some ((zgl s 45 (0 : Int32)), s))
set_option maxRecDepth 20000 in
set_option maxHeartbeats 2000000 in
theorem xX4_number_j41_j (N : Nat)    (s : zq_S) : zq_X yX4_number RX4 cX4_number 1 (some .long) ⟨4, 0, 0, 87⟩ zv_l 41 [.ref 44] [] s (jX4_number_j41 N s) := by
  unfold jX4_number_j41
  refine zx_lift (pc' := 42) (fun _ => zq_aload_n rfl rfl dX4_number_41 rfl) ?_
  refine zx_lift (pc' := 45) (fun _ => zt_getR zfr_X4_9 zfd_44_4 dX4_number_42 rfl) ?_
  refine zx_lift (pc' := 46) (fun _ => zq_iconst (v := 0) dX4_number_45 rfl rfl) ?_
  refine zx_laload (pc' := 47) zsh_45 dX4_number_46 rfl ?_
  exact zx_lret rfl dX4_number_47
def mX4_number (N : Nat)   (s : zq_S) : Option (Int64 × zq_S) :=
  if (zgf s 44 5) = (zgf s 31 8) then
  jX4_number_j41 N s
  else
  zq_let (zpf s 44 5 (zgf s 31 8)) (fun s1 =>
  zq_let (zpfl s1 45 1024 (1 : Int64)) (fun s2 =>
  zq_b2 (mX4_countWays_a45 N s2) (fun r3 s4 =>
  jX4_number_j41 N s4)))
set_option maxRecDepth 20000 in
set_option maxHeartbeats 2000000 in
theorem xX4_number (N : Nat)   (s : zq_S) : zq_X yX4_number RX4 cX4_number 1 (some .long) ⟨4, 0, 0, 87⟩ zv_l 0 [.ref 44] [] s (mX4_number N s) := by
  unfold mX4_number
  refine zx_lift (pc' := 1) (fun _ => zq_aload_n rfl rfl dX4_number_0 rfl) ?_
  refine zx_lift (pc' := 4) (fun _ => zt_getI zfr_X4_15 zfd_44_5 dX4_number_1 rfl) ?_
  refine zx_lift (pc' := 5) (fun _ => zq_aload_n rfl rfl dX4_number_4 rfl) ?_
  refine zx_lift (pc' := 8) (fun _ => zt_getR zfr_X4_19 zfd_44_0 dX4_number_5 rfl) ?_
  refine zx_lift (pc' := 11) (fun _ => zt_getI zfr_X4_34 zfd_31_8 dX4_number_8 rfl) ?_
  refine zx_icmp_eq (pc' := 14) (tgt := 41) dX4_number_11 rfl rfl (fun hc => ?_) (fun hc => ?_)
  · exact xX4_number_j41_j N s
  · refine zx_lift (pc' := 15) (fun _ => zq_aload_n rfl rfl dX4_number_14 rfl) ?_
    refine zx_lift (pc' := 16) (fun _ => zq_aload_n rfl rfl dX4_number_15 rfl) ?_
    refine zx_lift (pc' := 19) (fun _ => zt_getR zfr_X4_19 zfd_44_0 dX4_number_16 rfl) ?_
    refine zx_lift (pc' := 22) (fun _ => zt_getI zfr_X4_34 zfd_31_8 dX4_number_19 rfl) ?_
    refine zx_putI (pc' := 25) zfr_X4_15 (fun _ => ⟨rfl, rfl⟩) zfd_44_5 dX4_number_22 rfl (fun s1 => ?_)
    refine zx_lift (pc' := 26) (fun _ => zq_aload_n rfl rfl dX4_number_25 rfl) ?_
    refine zx_lift (pc' := 29) (fun _ => zt_getR zfr_X4_9 zfd_44_4 dX4_number_26 rfl) ?_
    refine zx_lift (pc' := 30) (fun _ => zq_lconst (v := 1) dX4_number_29 rfl rfl) ?_
    refine zx_fillL (pc' := 33) zcs_X4_39 zsh_45 ⟨by decide, by decide, Nat.le_of_ble_eq_true rfl⟩ dX4_number_30 rfl (fun s2 => ?_)
    refine zx_lift (pc' := 34) (fun _ => zq_aload_n rfl rfl dX4_number_33 rfl) ?_
    refine zx_lift (pc' := 35) (fun _ => zq_aload_n rfl rfl dX4_number_34 rfl) ?_
    refine zx_lift (pc' := 38) (fun _ => zt_getR zfr_X4_9 zfd_44_4 dX4_number_35 rfl) ?_
    refine zx_cVv (pc' := 41) zcv_X4_45 (cX4_countWays_a45_mc N s2) zob_44 rfl (by decide) (Nat.le_of_ble_eq_true rfl) dX4_number_38 rfl rfl (fun r3 s4 => ?_)
    exact xX4_number_j41_j N s4
theorem cX4_number_mc (N : Nat)   (s : zq_S) (v : Int64 × zq_S) (h : mX4_number N s = some v) : zq_MC yX4_number cX4_number 1 (some .long) ⟨4, 0, 0, 87⟩ 0 0 [.ref 44] (zq_en s) (zv_l v.1, zq_en v.2) := zq_MC_x [.ref 44] (by decide +kernel) rfl rfl (Nat.le_of_ble_eq_true rfl) (xX4_number N s) h
def jX4_markAt_j20 (N : Nat)    (s : zq_S) : Option (Int32 × zq_S) :=
  some ((-1 : Int32), s)
set_option maxRecDepth 20000 in
set_option maxHeartbeats 2000000 in
theorem xX4_markAt_j20_j (N : Nat)    (s : zq_S) : zq_X yX4_markAt RX4 cX4_markAt 10 (some .int) ⟨5, 0, 0, 107⟩ zv_i 20 [.null, .null, .null, .null, .null, .null, .null, .null, .null, .null] [] s (jX4_markAt_j20 N s) := by
  unfold jX4_markAt_j20
  refine zx_lift (pc' := 21) (fun _ => zq_iconst (v := (-1)) dX4_markAt_20 rfl rfl) ?_
  exact zx_iret rfl dX4_markAt_21
def jX4_markAt_j117 (N : Nat)  (f3 : Int32) (f6 : Int32) (f8 : Int32) (f9 : Int32) (k126 : Int64 × Int32 × zq_S → Option (Int32 × zq_S)) (self : Int64 × Int32 × zq_S → Option (Int32 × zq_S)) (w7 : Int32) (t0 : Int64) (t1 : Int64) (s : zq_S) : Option (Int32 × zq_S) :=
  zq_let (t1 - t0) (fun x7 =>
  zq_let (w7 + (1 : Int32)) (fun x8 =>
  self (x7, x8, s)))
set_option maxRecDepth 20000 in
set_option maxHeartbeats 2000000 in
theorem xX4_markAt_j117_j (N : Nat)  (f3 : Int32) (f6 : Int32) (f8 : Int32) (f9 : Int32) (k126 : Int64 × Int32 × zq_S → Option (Int32 × zq_S)) (hk126 : ∀ e, zq_X yX4_markAt RX4 cX4_markAt 10 (some .int) ⟨5, 0, 0, 107⟩ zv_i 126 [.ref 44, .null, .null, .int f3, .long e.1, .null, .int f6, .int e.2.1, .int f8, .null] [] e.2.2 (k126 e)) (self : Int64 × Int32 × zq_S → Option (Int32 × zq_S)) (hself : ∀ v, zq_X yX4_markAt RX4 cX4_markAt 10 (some .int) ⟨5, 0, 0, 107⟩ zv_i 54 [.ref 44, .null, .null, .int f3, .long v.1, .null, .int f6, .int v.2.1, .int f8, .int f9] [] v.2.2 (self v)) (w7 : Int32) (t0 : Int64) (t1 : Int64) (s : zq_S) : zq_X yX4_markAt RX4 cX4_markAt 10 (some .int) ⟨5, 0, 0, 107⟩ zv_i 117 [.ref 44, .null, .null, .int f3, .null, .null, .int f6, .int w7, .int f8, .int f9] [.long t0, .long t1] s (jX4_markAt_j117 N f3 f6 f8 f9 k126 self w7 t0 t1 s) := by
  unfold jX4_markAt_j117
  refine zx_lift (pc' := 118) (fun _ => zq_lsub dX4_markAt_117 rfl) ?_
  refine zx_lstore (pc' := 120) (ls' := fun x7 => [.ref 44, .null, .null, .int f3, .long x7, .null, .int f6, .int w7, .int f8, .int f9]) (by decide) rfl (fun _ => rfl) dX4_markAt_118 rfl (fun x7 => ?_)
  refine zx_iinc (pc' := 123) (ls' := fun x8 => [.ref 44, .null, .null, .int f3, .long x7, .null, .int f6, .int x8, .int f8, .int f9]) rfl rfl (by decide) rfl (fun _ => rfl) dX4_markAt_120 rfl (fun x8 => ?_)
  refine zx_lift (pc' := 54) (fun _ => zq_goto dX4_markAt_123 rfl) ?_
  exact hself (x7, x8, s)
def jX4_markAt_j89 (N : Nat)  (f3 : Int32) (f6 : Int32) (f8 : Int32) (f9 : Int32) (k126 : Int64 × Int32 × zq_S → Option (Int32 × zq_S)) (self : Int64 × Int32 × zq_S → Option (Int32 × zq_S)) (w4 : Int64) (w7 : Int32) (s : zq_S) : Option (Int32 × zq_S) :=
  if ((f9 >>> (w7 &&& 31)) &&& (1 : Int32)) = (0 : Int32) then
  jX4_markAt_j117 N f3 f6 f8 f9 k126 self w7 (0 : Int64) w4 s
  else
  zq_ck (f6 ||| ((1 : Int32) <<< (w7 &&& 31))) 1024 (
  jX4_markAt_j117 N f3 f6 f8 f9 k126 self w7 (zgl s 45 (f6 ||| ((1 : Int32) <<< (w7 &&& 31)))) w4 s)
set_option maxRecDepth 20000 in
set_option maxHeartbeats 2000000 in
theorem xX4_markAt_j89_j (N : Nat)  (f3 : Int32) (f6 : Int32) (f8 : Int32) (f9 : Int32) (k126 : Int64 × Int32 × zq_S → Option (Int32 × zq_S)) (hk126 : ∀ e, zq_X yX4_markAt RX4 cX4_markAt 10 (some .int) ⟨5, 0, 0, 107⟩ zv_i 126 [.ref 44, .null, .null, .int f3, .long e.1, .null, .int f6, .int e.2.1, .int f8, .null] [] e.2.2 (k126 e)) (self : Int64 × Int32 × zq_S → Option (Int32 × zq_S)) (hself : ∀ v, zq_X yX4_markAt RX4 cX4_markAt 10 (some .int) ⟨5, 0, 0, 107⟩ zv_i 54 [.ref 44, .null, .null, .int f3, .long v.1, .null, .int f6, .int v.2.1, .int f8, .int f9] [] v.2.2 (self v)) (w4 : Int64) (w7 : Int32) (s : zq_S) : zq_X yX4_markAt RX4 cX4_markAt 10 (some .int) ⟨5, 0, 0, 107⟩ zv_i 89 [.ref 44, .null, .null, .int f3, .long w4, .null, .int f6, .int w7, .int f8, .int f9] [] s (jX4_markAt_j89 N f3 f6 f8 f9 k126 self w4 w7 s) := by
  unfold jX4_markAt_j89
  refine zx_lift (pc' := 91) (fun _ => zq_lload rfl dX4_markAt_89 rfl) ?_
  refine zx_lift (pc' := 93) (fun _ => zq_iload rfl dX4_markAt_91 rfl) ?_
  refine zx_lift (pc' := 95) (fun _ => zq_iload rfl dX4_markAt_93 rfl) ?_
  refine zx_lift (pc' := 96) (fun _ => zq_ishr dX4_markAt_95 rfl) ?_
  refine zx_lift (pc' := 97) (fun _ => zq_iconst (v := 1) dX4_markAt_96 rfl rfl) ?_
  refine zx_lift (pc' := 98) (fun _ => zq_iand dX4_markAt_97 rfl) ?_
  refine zx_if_ne (pc' := 101) (tgt := 105) dX4_markAt_98 rfl rfl (fun hc => ?_) (fun hc => ?_)
  · refine zx_lift (pc' := 106) (fun _ => zq_aload_n rfl rfl dX4_markAt_105 rfl) ?_
    refine zx_lift (pc' := 109) (fun _ => zt_getR zfr_X4_9 zfd_44_4 dX4_markAt_106 rfl) ?_
    refine zx_lift (pc' := 111) (fun _ => zq_iload rfl dX4_markAt_109 rfl) ?_
    refine zx_lift (pc' := 112) (fun _ => zq_iconst (v := 1) dX4_markAt_111 rfl rfl) ?_
    refine zx_lift (pc' := 114) (fun _ => zq_iload rfl dX4_markAt_112 rfl) ?_
    refine zx_lift (pc' := 115) (fun _ => zq_ishl dX4_markAt_114 rfl) ?_
    refine zx_lift (pc' := 116) (fun _ => zq_ior dX4_markAt_115 rfl) ?_
    refine zx_laload (pc' := 117) zsh_45 dX4_markAt_116 rfl ?_
    refine zx_less [.ref 44, .null, .null, .int f3, .null, .null, .int f6, .int w7, .int f8, .int f9] (zq_cr (zq_cz (zq_cz (zq_cr (zq_cz (zq_cz (zq_cr (zq_cr (zq_cr (zq_cr zq_cn)))))))))) ?_
    exact xX4_markAt_j117_j N f3 f6 f8 f9 k126 hk126 self hself w7 (zgl s 45 (f6 ||| ((1 : Int32) <<< (w7 &&& 31)))) w4 s
  · refine zx_lift (pc' := 102) (fun _ => zq_lconst (v := 0) dX4_markAt_101 rfl rfl) ?_
    refine zx_lift (pc' := 117) (fun _ => zq_goto dX4_markAt_102 rfl) ?_
    refine zx_less [.ref 44, .null, .null, .int f3, .null, .null, .int f6, .int w7, .int f8, .int f9] (zq_cr (zq_cz (zq_cz (zq_cr (zq_cz (zq_cz (zq_cr (zq_cr (zq_cr (zq_cr zq_cn)))))))))) ?_
    exact xX4_markAt_j117_j N f3 f6 f8 f9 k126 hk126 self hself w7 (0 : Int64) w4 s
def bX4_markAt_54 (N : Nat)  (f3 : Int32) (f6 : Int32) (f8 : Int32) (f9 : Int32) (k126 : Int64 × Int32 × zq_S → Option (Int32 × zq_S)) (self : Int64 × Int32 × zq_S → Option (Int32 × zq_S)) (v : Int64 × Int32 × zq_S) : Option (Int32 × zq_S) :=
  if (9 : Int32) ≤ v.2.1 then
  k126 (v.1, v.2.1, v.2.2)
  else
  if ((f9 >>> (v.2.1 &&& 31)) &&& (1 : Int32)) = (0 : Int32) then
  jX4_markAt_j89 N f3 f6 f8 f9 k126 self v.1 v.2.1 v.2.2
  else
  zq_ck (f6 ||| ((1 : Int32) <<< (v.2.1 &&& 31))) 1024 (
  if (lg_cmp v.1 (zgl v.2.2 45 (f6 ||| ((1 : Int32) <<< (v.2.1 &&& 31))))) < (0 : Int32) then
  k126 (v.1, v.2.1, v.2.2)
  else
  jX4_markAt_j89 N f3 f6 f8 f9 k126 self v.1 v.2.1 v.2.2)
set_option maxRecDepth 20000 in
set_option maxHeartbeats 2000000 in
theorem xX4_markAt_54 (N : Nat)  (f3 : Int32) (f6 : Int32) (f8 : Int32) (f9 : Int32) (k126 : Int64 × Int32 × zq_S → Option (Int32 × zq_S)) (hk126 : ∀ e, zq_X yX4_markAt RX4 cX4_markAt 10 (some .int) ⟨5, 0, 0, 107⟩ zv_i 126 [.ref 44, .null, .null, .int f3, .long e.1, .null, .int f6, .int e.2.1, .int f8, .null] [] e.2.2 (k126 e)) (self : Int64 × Int32 × zq_S → Option (Int32 × zq_S)) (hself : ∀ v, zq_X yX4_markAt RX4 cX4_markAt 10 (some .int) ⟨5, 0, 0, 107⟩ zv_i 54 [.ref 44, .null, .null, .int f3, .long v.1, .null, .int f6, .int v.2.1, .int f8, .int f9] [] v.2.2 (self v)) (v : Int64 × Int32 × zq_S) : zq_X yX4_markAt RX4 cX4_markAt 10 (some .int) ⟨5, 0, 0, 107⟩ zv_i 54 [.ref 44, .null, .null, .int f3, .long v.1, .null, .int f6, .int v.2.1, .int f8, .int f9] [] v.2.2 (bX4_markAt_54 N f3 f6 f8 f9 k126 self v) := by
  unfold bX4_markAt_54
  refine zx_lift (pc' := 56) (fun _ => zq_iload rfl dX4_markAt_54 rfl) ?_
  refine zx_lift (pc' := 58) (fun _ => zq_bipush (v := 9) dX4_markAt_56 rfl rfl) ?_
  refine zx_icmp_ge (pc' := 61) (tgt := 126) dX4_markAt_58 rfl rfl (fun hc => ?_) (fun hc => ?_)
  · refine zx_less [.ref 44, .null, .null, .int f3, .long v.1, .null, .int f6, .int v.2.1, .int f8, .null] (zq_cr (zq_cz (zq_cz (zq_cr (zq_cr (zq_cz (zq_cr (zq_cr (zq_cr (zq_cz zq_cn)))))))))) ?_
    exact hk126 (v.1, v.2.1, v.2.2)
  · refine zx_lift (pc' := 63) (fun _ => zq_iload rfl dX4_markAt_61 rfl) ?_
    refine zx_lift (pc' := 65) (fun _ => zq_iload rfl dX4_markAt_63 rfl) ?_
    refine zx_lift (pc' := 66) (fun _ => zq_ishr dX4_markAt_65 rfl) ?_
    refine zx_lift (pc' := 67) (fun _ => zq_iconst (v := 1) dX4_markAt_66 rfl rfl) ?_
    refine zx_lift (pc' := 68) (fun _ => zq_iand dX4_markAt_67 rfl) ?_
    refine zx_if_eq (pc' := 71) (tgt := 89) dX4_markAt_68 rfl rfl (fun hc => ?_) (fun hc => ?_)
    · exact xX4_markAt_j89_j N f3 f6 f8 f9 k126 hk126 self hself v.1 v.2.1 v.2.2
    · refine zx_lift (pc' := 73) (fun _ => zq_lload rfl dX4_markAt_71 rfl) ?_
      refine zx_lift (pc' := 74) (fun _ => zq_aload_n rfl rfl dX4_markAt_73 rfl) ?_
      refine zx_lift (pc' := 77) (fun _ => zt_getR zfr_X4_9 zfd_44_4 dX4_markAt_74 rfl) ?_
      refine zx_lift (pc' := 79) (fun _ => zq_iload rfl dX4_markAt_77 rfl) ?_
      refine zx_lift (pc' := 80) (fun _ => zq_iconst (v := 1) dX4_markAt_79 rfl rfl) ?_
      refine zx_lift (pc' := 82) (fun _ => zq_iload rfl dX4_markAt_80 rfl) ?_
      refine zx_lift (pc' := 83) (fun _ => zq_ishl dX4_markAt_82 rfl) ?_
      refine zx_lift (pc' := 84) (fun _ => zq_ior dX4_markAt_83 rfl) ?_
      refine zx_laload (pc' := 85) zsh_45 dX4_markAt_84 rfl ?_
      refine zx_lift (pc' := 86) (fun _ => zq_lcmp dX4_markAt_85 rfl) ?_
      refine zx_if_lt (pc' := 89) (tgt := 126) dX4_markAt_86 rfl rfl (fun hc => ?_) (fun hc => ?_)
      · refine zx_less [.ref 44, .null, .null, .int f3, .long v.1, .null, .int f6, .int v.2.1, .int f8, .null] (zq_cr (zq_cz (zq_cz (zq_cr (zq_cr (zq_cz (zq_cr (zq_cr (zq_cr (zq_cz zq_cn)))))))))) ?_
        exact hk126 (v.1, v.2.1, v.2.2)
      · exact xX4_markAt_j89_j N f3 f6 f8 f9 k126 hk126 self hself v.1 v.2.1 v.2.2
theorem yX4_markAt_54 (N : Nat)  (f3 : Int32) (f6 : Int32) (f8 : Int32) (f9 : Int32) (k126 : Int64 × Int32 × zq_S → Option (Int32 × zq_S)) (hk126 : ∀ e, zq_X yX4_markAt RX4 cX4_markAt 10 (some .int) ⟨5, 0, 0, 107⟩ zv_i 126 [.ref 44, .null, .null, .int f3, .long e.1, .null, .int f6, .int e.2.1, .int f8, .null] [] e.2.2 (k126 e)) (n : Nat) : ∀ v : Int64 × Int32 × zq_S, zq_X yX4_markAt RX4 cX4_markAt 10 (some .int) ⟨5, 0, 0, 107⟩ zv_i 54 [.ref 44, .null, .null, .int f3, .long v.1, .null, .int f6, .int v.2.1, .int f8, .int f9] [] v.2.2 (zq_loop (bX4_markAt_54 N f3 f6 f8 f9 k126) n v) := by
  induction n with
  | zero => exact fun v u hu => by cases hu
  | succ n ih =>
    intro v
    rw [zq_loop_s]
    exact xX4_markAt_54 N f3 f6 f8 f9 k126 hk126 (zq_loop (bX4_markAt_54 N f3 f6 f8 f9 k126) n) ih v
def jX4_markAt_j126 (N : Nat)  (f3 : Int32)  (self : Int64 × Int32 × Int32 × Int32 × zq_S → Option (Int32 × zq_S)) (w4 : Int64) (w6 : Int32) (w7 : Int32) (w8 : Int32) (s : zq_S) : Option (Int32 × zq_S) :=
  zq_let (w6 ||| ((1 : Int32) <<< (w7 &&& 31))) (fun x10 =>
  zq_let (w8 + (1 : Int32)) (fun x11 =>
  self (w4, x10, w7, x11, s)))
set_option maxRecDepth 20000 in
set_option maxHeartbeats 2000000 in
theorem xX4_markAt_j126_j (N : Nat)  (f3 : Int32)  (self : Int64 × Int32 × Int32 × Int32 × zq_S → Option (Int32 × zq_S)) (hself : ∀ v, zq_X yX4_markAt RX4 cX4_markAt 10 (some .int) ⟨5, 0, 0, 107⟩ zv_i 34 [.ref 44, .null, .null, .int f3, .long v.1, .null, .int v.2.1, .int v.2.2.1, .int v.2.2.2.1, .null] [] v.2.2.2.2 (self v)) (w4 : Int64) (w6 : Int32) (w7 : Int32) (w8 : Int32) (s : zq_S) : zq_X yX4_markAt RX4 cX4_markAt 10 (some .int) ⟨5, 0, 0, 107⟩ zv_i 126 [.ref 44, .null, .null, .int f3, .long w4, .null, .int w6, .int w7, .int w8, .null] [] s (jX4_markAt_j126 N f3 self w4 w6 w7 w8 s) := by
  unfold jX4_markAt_j126
  refine zx_lift (pc' := 128) (fun _ => zq_iload rfl dX4_markAt_126 rfl) ?_
  refine zx_lift (pc' := 129) (fun _ => zq_iconst (v := 1) dX4_markAt_128 rfl rfl) ?_
  refine zx_lift (pc' := 131) (fun _ => zq_iload rfl dX4_markAt_129 rfl) ?_
  refine zx_lift (pc' := 132) (fun _ => zq_ishl dX4_markAt_131 rfl) ?_
  refine zx_lift (pc' := 133) (fun _ => zq_ior dX4_markAt_132 rfl) ?_
  refine zx_istore (pc' := 135) (ls' := fun x10 => [.ref 44, .null, .null, .int f3, .long w4, .null, .int x10, .int w7, .int w8, .null]) (by decide) rfl (fun _ => rfl) dX4_markAt_133 rfl (fun x10 => ?_)
  refine zx_iinc (pc' := 138) (ls' := fun x11 => [.ref 44, .null, .null, .int f3, .long w4, .null, .int x10, .int w7, .int x11, .null]) rfl rfl (by decide) rfl (fun _ => rfl) dX4_markAt_135 rfl (fun x11 => ?_)
  refine zx_lift (pc' := 34) (fun _ => zq_goto dX4_markAt_138 rfl) ?_
  exact hself (w4, x10, w7, x11, s)
def bX4_markAt_34 (N : Nat)  (f3 : Int32)  (self : Int64 × Int32 × Int32 × Int32 × zq_S → Option (Int32 × zq_S)) (v : Int64 × Int32 × Int32 × Int32 × zq_S) : Option (Int32 × zq_S) :=
  if f3 < v.2.2.2.1 then
  some (v.2.2.1, v.2.2.2.2)
  else
  zq_b2 (mX3_following N v.2.1 v.2.2.2.2) (fun r5 s6 =>
  zq_loop (bX4_markAt_54 N f3 v.2.1 v.2.2.2.1 r5 (fun e9 =>
  jX4_markAt_j126 N f3 self e9.1 v.2.1 e9.2.1 v.2.2.2.1 e9.2.2)) N (v.1, (0 : Int32), s6))
set_option maxRecDepth 20000 in
set_option maxHeartbeats 2000000 in
theorem xX4_markAt_34 (N : Nat)  (f3 : Int32)  (self : Int64 × Int32 × Int32 × Int32 × zq_S → Option (Int32 × zq_S)) (hself : ∀ v, zq_X yX4_markAt RX4 cX4_markAt 10 (some .int) ⟨5, 0, 0, 107⟩ zv_i 34 [.ref 44, .null, .null, .int f3, .long v.1, .null, .int v.2.1, .int v.2.2.1, .int v.2.2.2.1, .null] [] v.2.2.2.2 (self v)) (v : Int64 × Int32 × Int32 × Int32 × zq_S) : zq_X yX4_markAt RX4 cX4_markAt 10 (some .int) ⟨5, 0, 0, 107⟩ zv_i 34 [.ref 44, .null, .null, .int f3, .long v.1, .null, .int v.2.1, .int v.2.2.1, .int v.2.2.2.1, .null] [] v.2.2.2.2 (bX4_markAt_34 N f3 self v) := by
  unfold bX4_markAt_34
  refine zx_lift (pc' := 36) (fun _ => zq_iload rfl dX4_markAt_34 rfl) ?_
  refine zx_lift (pc' := 37) (fun _ => zq_iload_n rfl rfl dX4_markAt_36 rfl) ?_
  refine zx_icmp_gt (pc' := 40) (tgt := 141) dX4_markAt_37 rfl rfl (fun hc => ?_) (fun hc => ?_)
  · refine zx_lift (pc' := 143) (fun _ => zq_iload rfl dX4_markAt_141 rfl) ?_
    exact zx_iret rfl dX4_markAt_143
  · refine zx_lift (pc' := 41) (fun _ => zq_aload_n rfl rfl dX4_markAt_40 rfl) ?_
    refine zx_lift (pc' := 44) (fun _ => zt_getR zfr_X4_19 zfd_44_0 dX4_markAt_41 rfl) ?_
    refine zx_lift (pc' := 46) (fun _ => zq_iload rfl dX4_markAt_44 rfl) ?_
    refine zx_cVi (pc' := 49) zcv_X4_57 (cX3_following_mc N v.2.1 v.2.2.2.2) zob_31 rfl (by decide) (Nat.le_of_ble_eq_true rfl) dX4_markAt_46 rfl rfl (fun r5 s6 => ?_)
    refine zx_lift (pc' := 51) (fun _ => zq_istore (ls' := [.ref 44, .null, .null, .int f3, .long v.1, .null, .int v.2.1, .int v.2.2.1, .int v.2.2.2.1, .int r5]) (by decide) rfl rfl dX4_markAt_49 rfl) ?_
    refine zx_lift (pc' := 52) (fun _ => zq_iconst (v := 0) dX4_markAt_51 rfl rfl) ?_
    refine zx_lift (pc' := 54) (fun _ => zq_istore (ls' := [.ref 44, .null, .null, .int f3, .long v.1, .null, .int v.2.1, .int (0 : Int32), .int v.2.2.2.1, .int r5]) (by decide) rfl rfl dX4_markAt_52 rfl) ?_
    refine yX4_markAt_54 N f3 v.2.1 v.2.2.2.1 r5 _ (fun e9 => ?_) N (v.1, (0 : Int32), s6)
    exact xX4_markAt_j126_j N f3 self hself e9.1 v.2.1 e9.2.1 v.2.2.2.1 e9.2.2
theorem yX4_markAt_34 (N : Nat)  (f3 : Int32)  (n : Nat) : ∀ v : Int64 × Int32 × Int32 × Int32 × zq_S, zq_X yX4_markAt RX4 cX4_markAt 10 (some .int) ⟨5, 0, 0, 107⟩ zv_i 34 [.ref 44, .null, .null, .int f3, .long v.1, .null, .int v.2.1, .int v.2.2.1, .int v.2.2.2.1, .null] [] v.2.2.2.2 (zq_loop (bX4_markAt_34 N f3 ) n v) := by
  induction n with
  | zero => exact fun v u hu => by cases hu
  | succ n ih =>
    intro v
    rw [zq_loop_s]
    exact xX4_markAt_34 N f3  (zq_loop (bX4_markAt_34 N f3 ) n) ih v
def mX4_markAt (N : Nat)  (p1 : Int64) (p3 : Int32) (s : zq_S) : Option (Int32 × zq_S) :=
  zq_b2 (mX4_number N s) (fun r1 s2 =>
  if (0 : Int32) ≤ (lg_cmp p1 r1) then
  jX4_markAt_j20 N s2
  else
  zq_b2 (mX3_hasMark N p3 s2) (fun r3 s4 =>
  if r3 = (0 : Int32) then
  jX4_markAt_j20 N s4
  else
  zq_loop (bX4_markAt_34 N p3 ) N (p1, (0 : Int32), (-1 : Int32), (0 : Int32), s4)))
set_option maxRecDepth 20000 in
set_option maxHeartbeats 2000000 in
theorem xX4_markAt (N : Nat)  (p1 : Int64) (p3 : Int32) (s : zq_S) : zq_X yX4_markAt RX4 cX4_markAt 10 (some .int) ⟨5, 0, 0, 107⟩ zv_i 0 [.ref 44, .long p1, .null, .int p3, .null, .null, .null, .null, .null, .null] [] s (mX4_markAt N p1 p3 s) := by
  unfold mX4_markAt
  refine zx_lift (pc' := 1) (fun _ => zq_lload_n rfl rfl dX4_markAt_0 rfl) ?_
  refine zx_lift (pc' := 2) (fun _ => zq_aload_n rfl rfl dX4_markAt_1 rfl) ?_
  refine zx_cVl (pc' := 5) zcv_X4_49 (cX4_number_mc N s) zob_44 rfl (by decide) (Nat.le_of_ble_eq_true rfl) dX4_markAt_2 rfl rfl (fun r1 s2 => ?_)
  refine zx_lift (pc' := 6) (fun _ => zq_lcmp dX4_markAt_5 rfl) ?_
  refine zx_if_ge (pc' := 9) (tgt := 20) dX4_markAt_6 rfl rfl (fun hc => ?_) (fun hc => ?_)
  · refine zx_less [.null, .null, .null, .null, .null, .null, .null, .null, .null, .null] (zq_cz (zq_cz (zq_cz (zq_cz (zq_cz (zq_cz (zq_cz (zq_cz (zq_cz (zq_cz zq_cn)))))))))) ?_
    exact xX4_markAt_j20_j N s2
  · refine zx_lift (pc' := 10) (fun _ => zq_aload_n rfl rfl dX4_markAt_9 rfl) ?_
    refine zx_lift (pc' := 13) (fun _ => zt_getR zfr_X4_19 zfd_44_0 dX4_markAt_10 rfl) ?_
    refine zx_lift (pc' := 14) (fun _ => zq_iload_n rfl rfl dX4_markAt_13 rfl) ?_
    refine zx_cVi (pc' := 17) zcv_X4_53 (cX3_hasMark_mc N p3 s2) zob_31 rfl (by decide) (Nat.le_of_ble_eq_true rfl) dX4_markAt_14 rfl rfl (fun r3 s4 => ?_)
    refine zx_if_ne (pc' := 20) (tgt := 22) dX4_markAt_17 rfl rfl (fun hc => ?_) (fun hc => ?_)
    · refine zx_lift (pc' := 23) (fun _ => zq_lload_n rfl rfl dX4_markAt_22 rfl) ?_
      refine zx_lift (pc' := 25) (fun _ => zq_lstore (ls' := [.ref 44, .long p1, .null, .int p3, .long p1, .null, .null, .null, .null, .null]) (by decide) rfl rfl dX4_markAt_23 rfl) ?_
      refine zx_lift (pc' := 26) (fun _ => zq_iconst (v := 0) dX4_markAt_25 rfl rfl) ?_
      refine zx_lift (pc' := 28) (fun _ => zq_istore (ls' := [.ref 44, .long p1, .null, .int p3, .long p1, .null, .int (0 : Int32), .null, .null, .null]) (by decide) rfl rfl dX4_markAt_26 rfl) ?_
      refine zx_lift (pc' := 29) (fun _ => zq_iconst (v := (-1)) dX4_markAt_28 rfl rfl) ?_
      refine zx_lift (pc' := 31) (fun _ => zq_istore (ls' := [.ref 44, .long p1, .null, .int p3, .long p1, .null, .int (0 : Int32), .int (-1 : Int32), .null, .null]) (by decide) rfl rfl dX4_markAt_29 rfl) ?_
      refine zx_lift (pc' := 32) (fun _ => zq_iconst (v := 0) dX4_markAt_31 rfl rfl) ?_
      refine zx_lift (pc' := 34) (fun _ => zq_istore (ls' := [.ref 44, .long p1, .null, .int p3, .long p1, .null, .int (0 : Int32), .int (-1 : Int32), .int (0 : Int32), .null]) (by decide) rfl rfl dX4_markAt_32 rfl) ?_
      refine zx_less [.ref 44, .null, .null, .int p3, .long p1, .null, .int (0 : Int32), .int (-1 : Int32), .int (0 : Int32), .null] (zq_cr (zq_cz (zq_cz (zq_cr (zq_cr (zq_cz (zq_cr (zq_cr (zq_cr (zq_cz zq_cn)))))))))) ?_
      refine yX4_markAt_34 N p3  N (p1, (0 : Int32), (-1 : Int32), (0 : Int32), s4)
    · refine zx_less [.null, .null, .null, .null, .null, .null, .null, .null, .null, .null] (zq_cz (zq_cz (zq_cz (zq_cz (zq_cz (zq_cz (zq_cz (zq_cz (zq_cz (zq_cz zq_cn)))))))))) ?_
      exact xX4_markAt_j20_j N s4
theorem cX4_markAt_mc (N : Nat)  (p1 : Int64) (p3 : Int32) (s : zq_S) (v : Int32 × zq_S) (h : mX4_markAt N p1 p3 s = some v) : zq_MC yX4_markAt cX4_markAt 10 (some .int) ⟨5, 0, 0, 107⟩ 0 0 [.ref 44, .long p1, .int p3] (zq_en s) (zv_i v.1, zq_en v.2) := zq_MC_x [.ref 44, .long p1, .null, .int p3, .null, .null, .null, .null, .null, .null] (by decide +kernel) rfl rfl (Nat.le_of_ble_eq_true rfl) (xX4_markAt N p1 p3 s) h
def jX11_order_j21 (N : Nat)   (t0 : Int32) (s : zq_S) : Option (Int32 × zq_S) :=
  some (t0, s)
set_option maxRecDepth 20000 in
set_option maxHeartbeats 2000000 in
theorem xX11_order_j21_j (N : Nat)   (t0 : Int32) (s : zq_S) : zq_X yX11_order RX11 cX11_order 4 (some .int) ⟨6, 0, 0, 136⟩ zv_i 21 [.null, .null, .null, .null] [.int t0] s (jX11_order_j21 N t0 s) := by
  unfold jX11_order_j21
  exact zx_iret rfl dX11_order_21
def mX11_order (N : Nat)  (p1 : Int64) (p3 : Int32) (s : zq_S) : Option (Int32 × zq_S) :=
  if (0 : Int32) ≤ (lg_cmp p1 (0 : Int64)) then
  zq_b2 (mX4_markAt N p1 p3 s) (fun r1 s2 =>
  jX11_order_j21 N r1 s2)
  else
  jX11_order_j21 N (-1002 : Int32) s
set_option maxRecDepth 20000 in
set_option maxHeartbeats 2000000 in
theorem xX11_order (N : Nat)  (p1 : Int64) (p3 : Int32) (s : zq_S) : zq_X yX11_order RX11 cX11_order 4 (some .int) ⟨6, 0, 0, 136⟩ zv_i 0 [.ref 0, .long p1, .null, .int p3] [] s (mX11_order N p1 p3 s) := by
  unfold mX11_order
  refine zx_lift (pc' := 1) (fun _ => zq_lload_n rfl rfl dX11_order_0 rfl) ?_
  refine zx_lift (pc' := 2) (fun _ => zq_lconst (v := 0) dX11_order_1 rfl rfl) ?_
  refine zx_lift (pc' := 3) (fun _ => zq_lcmp dX11_order_2 rfl) ?_
  refine zx_if_ge (pc' := 6) (tgt := 12) dX11_order_3 rfl rfl (fun hc => ?_) (fun hc => ?_)
  · refine zx_lift (pc' := 13) (fun _ => zq_aload_n rfl rfl dX11_order_12 rfl) ?_
    refine zx_lift (pc' := 16) (fun _ => zt_getR zfr_X11_54 zfd_0_4 dX11_order_13 rfl) ?_
    refine zx_lift (pc' := 17) (fun _ => zq_lload_n rfl rfl dX11_order_16 rfl) ?_
    refine zx_lift (pc' := 18) (fun _ => zq_iload_n rfl rfl dX11_order_17 rfl) ?_
    refine zx_cVi (pc' := 21) zcv_X11_198 (cX4_markAt_mc N p1 p3 s) zob_44 rfl (by decide) (Nat.le_of_ble_eq_true rfl) dX11_order_18 rfl rfl (fun r1 s2 => ?_)
    refine zx_less [.null, .null, .null, .null] (zq_cz (zq_cz (zq_cz (zq_cz zq_cn)))) ?_
    exact xX11_order_j21_j N r1 s2
  · refine zx_lift (pc' := 9) (fun _ => zq_sipush (v := (-1002)) dX11_order_6 rfl rfl) ?_
    refine zx_lift (pc' := 21) (fun _ => zq_goto dX11_order_9 rfl) ?_
    refine zx_less [.null, .null, .null, .null] (zq_cz (zq_cz (zq_cz (zq_cz zq_cn)))) ?_
    exact xX11_order_j21_j N (-1002 : Int32) s
theorem cX11_order_mc (N : Nat)  (p1 : Int64) (p3 : Int32) (s : zq_S) (v : Int32 × zq_S) (h : mX11_order N p1 p3 s = some v) : zq_MC yX11_order cX11_order 4 (some .int) ⟨6, 0, 0, 136⟩ 0 0 [.ref 0, .long p1, .int p3] (zq_en s) (zv_i v.1, zq_en v.2) := zq_MC_x [.ref 0, .long p1, .null, .int p3] (by decide +kernel) rfl rfl (Nat.le_of_ble_eq_true rfl) (xX11_order N p1 p3 s) h
def mX11_orders (N : Nat)   (s : zq_S) : Option (Int64 × zq_S) :=
  zq_b2 (mX4_number N s) (fun r1 s2 =>
  some (r1, s2))
set_option maxRecDepth 20000 in
set_option maxHeartbeats 2000000 in
theorem xX11_orders (N : Nat)   (s : zq_S) : zq_X yX11_orders RX11 cX11_orders 1 (some .long) ⟨5, 0, 0, 107⟩ zv_l 0 [.ref 0] [] s (mX11_orders N s) := by
  unfold mX11_orders
  refine zx_lift (pc' := 1) (fun _ => zq_aload_n rfl rfl dX11_orders_0 rfl) ?_
  refine zx_lift (pc' := 4) (fun _ => zt_getR zfr_X11_54 zfd_0_4 dX11_orders_1 rfl) ?_
  refine zx_cVl (pc' := 7) zcv_X11_195 (cX4_number_mc N s) zob_44 rfl (by decide) (Nat.le_of_ble_eq_true rfl) dX11_orders_4 rfl rfl (fun r1 s2 => ?_)
  exact zx_lret rfl dX11_orders_7
theorem cX11_orders_mc (N : Nat)   (s : zq_S) (v : Int64 × zq_S) (h : mX11_orders N s = some v) : zq_MC yX11_orders cX11_orders 1 (some .long) ⟨5, 0, 0, 107⟩ 0 0 [.ref 0] (zq_en s) (zv_l v.1, zq_en v.2) := zq_MC_x [.ref 0] (by decide +kernel) rfl rfl (Nat.le_of_ble_eq_true rfl) (xX11_orders N s) h
def jX11_place_j65 (N : Nat)   (t0 : Int32) (s : zq_S) : Option (Int32 × zq_S) :=
  some (t0, s)
set_option maxRecDepth 20000 in
set_option maxHeartbeats 2000000 in
theorem xX11_place_j65_j (N : Nat)   (t0 : Int32) (s : zq_S) : zq_X yX11_place RX11 cX11_place 3 (some .int) ⟨1, 0, 0, 21⟩ zv_i 65 [.null, .null, .null] [.int t0] s (jX11_place_j65 N t0 s) := by
  unfold jX11_place_j65
  exact zx_iret rfl dX11_place_65
def mX11_place (N : Nat)  (p1 : Int32) (p2 : Int32) (s : zq_S) : Option (Int32 × zq_S) :=
  zq_b2 (mX3_hasMark N p1 s) (fun r1 s2 =>
  if r1 = (0 : Int32) then
  some ((-1001 : Int32), s2)
  else
  if p2 = (0 : Int32) then
  zq_ck p1 10 (
  zq_b2 (mJ6_bitCount_0f7a4 N (zga s2 34 p1) s2) (fun r5 s6 =>
  some (r5, s6)))
  else
  if p2 = (1 : Int32) then
  zq_ck p1 10 (
  zq_b2 (mJ6_bitCount_0f7a4 N (zga s2 35 p1) s2) (fun r3 s4 =>
  jX11_place_j65 N (((zgf s2 (zs (zgb s2 0)) 7) - (1 : Int32)) - r3) s4))
  else
  jX11_place_j65 N (-1002 : Int32) s2)
set_option maxRecDepth 20000 in
set_option maxHeartbeats 2000000 in
theorem xX11_place (N : Nat)  (p1 : Int32) (p2 : Int32) (s : zq_S) : zq_X yX11_place RX11 cX11_place 3 (some .int) ⟨1, 0, 0, 21⟩ zv_i 0 [.ref 0, .int p1, .int p2] [] s (mX11_place N p1 p2 s) := by
  unfold mX11_place
  refine zx_lift (pc' := 1) (fun _ => zq_aload_n rfl rfl dX11_place_0 rfl) ?_
  refine zx_lift (pc' := 4) (fun _ => zt_getR zfr_X11_31 zfd_0_1 dX11_place_1 rfl) ?_
  refine zx_lift (pc' := 5) (fun _ => zq_iload_n rfl rfl dX11_place_4 rfl) ?_
  refine zx_cVi (pc' := 8) zcv_X11_130 (cX3_hasMark_mc N p1 s) zob_31 rfl (by decide) (Nat.le_of_ble_eq_true rfl) dX11_place_5 rfl rfl (fun r1 s2 => ?_)
  refine zx_if_ne (pc' := 11) (tgt := 15) dX11_place_8 rfl rfl (fun hc => ?_) (fun hc => ?_)
  · refine zx_lift (pc' := 16) (fun _ => zq_iload_n rfl rfl dX11_place_15 rfl) ?_
    refine zx_if_ne (pc' := 19) (tgt := 32) dX11_place_16 rfl rfl (fun hc => ?_) (fun hc => ?_)
    · refine zx_lift (pc' := 33) (fun _ => zq_iload_n rfl rfl dX11_place_32 rfl) ?_
      refine zx_lift (pc' := 34) (fun _ => zq_iconst (v := 1) dX11_place_33 rfl rfl) ?_
      refine zx_icmp_ne (pc' := 37) (tgt := 62) dX11_place_34 rfl rfl (fun hc => ?_) (fun hc => ?_)
      · refine zx_lift (pc' := 65) (fun _ => zq_sipush (v := (-1002)) dX11_place_62 rfl rfl) ?_
        refine zx_less [.null, .null, .null] (zq_cz (zq_cz (zq_cz zq_cn))) ?_
        exact xX11_place_j65_j N (-1002 : Int32) s2
      · refine zx_lift (pc' := 38) (fun _ => zq_aload_n rfl rfl dX11_place_37 rfl) ?_
        refine zx_lift (pc' := 41) (fun _ => zt_getP zfr_X11_12 zfd_0_10 dX11_place_38 rfl) ?_
        refine zx_lift (pc' := 44) (fun _ => zt_getI zfr_X11_120 (zfd_s_7 (zgb s2 0)) dX11_place_41 rfl) ?_
        refine zx_lift (pc' := 45) (fun _ => zq_iconst (v := 1) dX11_place_44 rfl rfl) ?_
        refine zx_lift (pc' := 46) (fun _ => zq_isub dX11_place_45 rfl) ?_
        refine zx_lift (pc' := 47) (fun _ => zq_aload_n rfl rfl dX11_place_46 rfl) ?_
        refine zx_lift (pc' := 50) (fun _ => zt_getR zfr_X11_31 zfd_0_1 dX11_place_47 rfl) ?_
        refine zx_lift (pc' := 53) (fun _ => zt_getR zfr_X11_144 zfd_31_4 dX11_place_50 rfl) ?_
        refine zx_lift (pc' := 54) (fun _ => zq_iload_n rfl rfl dX11_place_53 rfl) ?_
        refine zx_iaload (pc' := 55) zsh_35 dX11_place_54 rfl ?_
        refine zx_cSi (pc' := 58) zcs_X11_208 (cJ6_bitCount_0f7a4_mc N (zga s2 35 p1) s2) rfl (by decide) (Nat.le_of_ble_eq_true rfl) dX11_place_55 rfl rfl (fun r3 s4 => ?_)
        refine zx_lift (pc' := 59) (fun _ => zq_isub dX11_place_58 rfl) ?_
        refine zx_lift (pc' := 65) (fun _ => zq_goto dX11_place_59 rfl) ?_
        refine zx_less [.null, .null, .null] (zq_cz (zq_cz (zq_cz zq_cn))) ?_
        exact xX11_place_j65_j N (((zgf s2 (zs (zgb s2 0)) 7) - (1 : Int32)) - r3) s4
    · refine zx_lift (pc' := 20) (fun _ => zq_aload_n rfl rfl dX11_place_19 rfl) ?_
      refine zx_lift (pc' := 23) (fun _ => zt_getR zfr_X11_31 zfd_0_1 dX11_place_20 rfl) ?_
      refine zx_lift (pc' := 26) (fun _ => zt_getR zfr_X11_141 zfd_31_3 dX11_place_23 rfl) ?_
      refine zx_lift (pc' := 27) (fun _ => zq_iload_n rfl rfl dX11_place_26 rfl) ?_
      refine zx_iaload (pc' := 28) zsh_34 dX11_place_27 rfl ?_
      refine zx_cSi (pc' := 31) zcs_X11_208 (cJ6_bitCount_0f7a4_mc N (zga s2 34 p1) s2) rfl (by decide) (Nat.le_of_ble_eq_true rfl) dX11_place_28 rfl rfl (fun r5 s6 => ?_)
      exact zx_iret rfl dX11_place_31
  · refine zx_lift (pc' := 14) (fun _ => zq_sipush (v := (-1001)) dX11_place_11 rfl rfl) ?_
    exact zx_iret rfl dX11_place_14
theorem cX11_place_mc (N : Nat)  (p1 : Int32) (p2 : Int32) (s : zq_S) (v : Int32 × zq_S) (h : mX11_place N p1 p2 s = some v) : zq_MC yX11_place cX11_place 3 (some .int) ⟨1, 0, 0, 21⟩ 0 0 [.ref 0, .int p1, .int p2] (zq_en s) (zv_i v.1, zq_en v.2) := zq_MC_x [.ref 0, .int p1, .int p2] (by decide +kernel) rfl rfl (Nat.le_of_ble_eq_true rfl) (xX11_place N p1 p2 s) h
def jX11_print_j48 (N : Nat)   (t0 : Int32) (s : zq_S) : Option (Int32 × zq_S) :=
  some (t0, s)
set_option maxRecDepth 20000 in
set_option maxHeartbeats 2000000 in
theorem xX11_print_j48_j (N : Nat)   (t0 : Int32) (s : zq_S) : zq_X yX11_print RX11 cX11_print 2 (some .int) ⟨0, 0, 0, 0⟩ zv_i 48 [.null, .null] [.int t0] s (jX11_print_j48 N t0 s) := by
  unfold jX11_print_j48
  exact zx_iret rfl dX11_print_48
def jX11_print_j35 (N : Nat)    (s : zq_S) : Option (Int32 × zq_S) :=
  jX11_print_j48 N (-1 : Int32) s
set_option maxRecDepth 20000 in
set_option maxHeartbeats 2000000 in
theorem xX11_print_j35_j (N : Nat)    (s : zq_S) : zq_X yX11_print RX11 cX11_print 2 (some .int) ⟨0, 0, 0, 0⟩ zv_i 35 [.null, .null] [] s (jX11_print_j35 N s) := by
  unfold jX11_print_j35
  refine zx_lift (pc' := 36) (fun _ => zq_iconst (v := (-1)) dX11_print_35 rfl rfl) ?_
  refine zx_lift (pc' := 48) (fun _ => zq_goto dX11_print_36 rfl) ?_
  exact xX11_print_j48_j N (-1 : Int32) s
def mX11_print (N : Nat)  (p1 : Int32) (s : zq_S) : Option (Int32 × zq_S) :=
  if p1 = (-1 : Int32) then
  some ((zgf s (zs (zgb s 0)) 1), s)
  else
  if p1 < (0 : Int32) then
  jX11_print_j35 N s
  else
  if (zgf s (zs (zgb s 0)) 1) ≤ p1 then
  jX11_print_j35 N s
  else
  if p1 < (400 : Int32) then
  zq_ck p1 400 (
  jX11_print_j48 N (zga s (zs (zgb s 0) + 1) p1) s)
  else
  jX11_print_j35 N s
set_option maxRecDepth 20000 in
set_option maxHeartbeats 2000000 in
theorem xX11_print (N : Nat)  (p1 : Int32) (s : zq_S) : zq_X yX11_print RX11 cX11_print 2 (some .int) ⟨0, 0, 0, 0⟩ zv_i 0 [.ref 0, .int p1] [] s (mX11_print N p1 s) := by
  unfold mX11_print
  refine zx_lift (pc' := 1) (fun _ => zq_iload_n rfl rfl dX11_print_0 rfl) ?_
  refine zx_lift (pc' := 2) (fun _ => zq_iconst (v := (-1)) dX11_print_1 rfl rfl) ?_
  refine zx_icmp_ne (pc' := 5) (tgt := 13) dX11_print_2 rfl rfl (fun hc => ?_) (fun hc => ?_)
  · refine zx_lift (pc' := 14) (fun _ => zq_iload_n rfl rfl dX11_print_13 rfl) ?_
    refine zx_if_lt (pc' := 17) (tgt := 35) dX11_print_14 rfl rfl (fun hc => ?_) (fun hc => ?_)
    · refine zx_less [.null, .null] (zq_cz (zq_cz zq_cn)) ?_
      exact xX11_print_j35_j N s
    · refine zx_lift (pc' := 18) (fun _ => zq_iload_n rfl rfl dX11_print_17 rfl) ?_
      refine zx_lift (pc' := 19) (fun _ => zq_aload_n rfl rfl dX11_print_18 rfl) ?_
      refine zx_lift (pc' := 22) (fun _ => zt_getP zfr_X11_12 zfd_0_10 dX11_print_19 rfl) ?_
      refine zx_lift (pc' := 25) (fun _ => zt_getI zfr_X11_123 (zfd_s_1 (zgb s 0)) dX11_print_22 rfl) ?_
      refine zx_icmp_ge (pc' := 28) (tgt := 35) dX11_print_25 rfl rfl (fun hc => ?_) (fun hc => ?_)
      · refine zx_less [.null, .null] (zq_cz (zq_cz zq_cn)) ?_
        exact xX11_print_j35_j N s
      · refine zx_lift (pc' := 29) (fun _ => zq_iload_n rfl rfl dX11_print_28 rfl) ?_
        refine zx_lift (pc' := 32) (fun _ => zq_sipush (v := 400) dX11_print_29 rfl rfl) ?_
        refine zx_icmp_lt (pc' := 35) (tgt := 39) dX11_print_32 rfl rfl (fun hc => ?_) (fun hc => ?_)
        · refine zx_lift (pc' := 40) (fun _ => zq_aload_n rfl rfl dX11_print_39 rfl) ?_
          refine zx_lift (pc' := 43) (fun _ => zt_getP zfr_X11_12 zfd_0_10 dX11_print_40 rfl) ?_
          refine zx_lift (pc' := 46) (fun _ => zt_getR zfr_X11_126 (zfd_s_0 (zgb s 0)) dX11_print_43 rfl) ?_
          refine zx_lift (pc' := 47) (fun _ => zq_iload_n rfl rfl dX11_print_46 rfl) ?_
          refine zx_baload (pc' := 48) (zsh_s1 (zgb s 0)) dX11_print_47 rfl ?_
          refine zx_less [.null, .null] (zq_cz (zq_cz zq_cn)) ?_
          exact xX11_print_j48_j N (zga s (zs (zgb s 0) + 1) p1) s
        · refine zx_less [.null, .null] (zq_cz (zq_cz zq_cn)) ?_
          exact xX11_print_j35_j N s
  · refine zx_lift (pc' := 6) (fun _ => zq_aload_n rfl rfl dX11_print_5 rfl) ?_
    refine zx_lift (pc' := 9) (fun _ => zt_getP zfr_X11_12 zfd_0_10 dX11_print_6 rfl) ?_
    refine zx_lift (pc' := 12) (fun _ => zt_getI zfr_X11_123 (zfd_s_1 (zgb s 0)) dX11_print_9 rfl) ?_
    exact zx_iret rfl dX11_print_12
theorem cX11_print_mc (N : Nat)  (p1 : Int32) (s : zq_S) (v : Int32 × zq_S) (h : mX11_print N p1 s = some v) : zq_MC yX11_print cX11_print 2 (some .int) ⟨0, 0, 0, 0⟩ 0 0 [.ref 0, .int p1] (zq_en s) (zv_i v.1, zq_en v.2) := zq_MC_x [.ref 0, .int p1] (by decide +kernel) rfl rfl (Nat.le_of_ble_eq_true rfl) (xX11_print N p1 s) h
def mX11_see (N : Nat)  (p1 : Int32) (s : zq_S) : Option (Int32 × zq_S) :=
  zq_b2 (mX3_refuse N p1 s) (fun r1 s2 =>
  if r1 = (0 : Int32) then
  zq_b2 (mX9_with N p1 s2) (fun r3 s4 =>
  zq_b2 (mX8_take N true false (4 : Int32) p1 s4) (fun r5 s6 =>
  zq_b2 (mX8_sizeOf N true (4 : Int32) s6) (fun r7 s8 =>
  some (r7, s8))))
  else
  some (r1, s2))
set_option maxRecDepth 20000 in
set_option maxHeartbeats 2000000 in
theorem xX11_see (N : Nat)  (p1 : Int32) (s : zq_S) : zq_X yX11_see RX11 cX11_see 3 (some .int) ⟨3, 0, 0, 71⟩ zv_i 0 [.ref 0, .int p1, .null] [] s (mX11_see N p1 s) := by
  unfold mX11_see
  refine zx_lift (pc' := 1) (fun _ => zq_aload_n rfl rfl dX11_see_0 rfl) ?_
  refine zx_lift (pc' := 4) (fun _ => zt_getR zfr_X11_31 zfd_0_1 dX11_see_1 rfl) ?_
  refine zx_lift (pc' := 5) (fun _ => zq_iload_n rfl rfl dX11_see_4 rfl) ?_
  refine zx_cVi (pc' := 8) zcv_X11_189 (cX3_refuse_mc N p1 s) zob_31 rfl (by decide) (Nat.le_of_ble_eq_true rfl) dX11_see_5 rfl rfl (fun r1 s2 => ?_)
  refine zx_lift (pc' := 9) (fun _ => zq_istore_n (ls' := [.ref 0, .int p1, .int r1]) rfl (by decide) rfl rfl dX11_see_8 rfl) ?_
  refine zx_lift (pc' := 10) (fun _ => zq_iload_n rfl rfl dX11_see_9 rfl) ?_
  refine zx_if_eq (pc' := 13) (tgt := 15) dX11_see_10 rfl rfl (fun hc => ?_) (fun hc => ?_)
  · refine zx_lift (pc' := 16) (fun _ => zq_aload_n rfl rfl dX11_see_15 rfl) ?_
    refine zx_lift (pc' := 19) (fun _ => zt_getR zfr_X11_79 zfd_0_7 dX11_see_16 rfl) ?_
    refine zx_lift (pc' := 20) (fun _ => zq_iconst (v := 4) dX11_see_19 rfl rfl) ?_
    refine zx_lift (pc' := 21) (fun _ => zq_aload_n rfl rfl dX11_see_20 rfl) ?_
    refine zx_lift (pc' := 24) (fun _ => zt_getR zfr_X11_38 zfd_0_2 dX11_see_21 rfl) ?_
    refine zx_lift (pc' := 25) (fun _ => zq_iload_n rfl rfl dX11_see_24 rfl) ?_
    refine zx_cVw (pc' := 28) zcv_X11_252 (cX9_with_mc N p1 s2) zob_38 rfl (by decide) (Nat.le_of_ble_eq_true rfl) dX11_see_25 rfl rfl (fun r3 s4 => ?_)
    refine zx_lift (pc' := 29) (fun _ => zq_iload_n rfl rfl dX11_see_28 rfl) ?_
    refine zx_cVv (pc' := 32) zcv_X11_264 (cX8_take_mc N true false (4 : Int32) p1 s4) (zob_f true) rfl (by decide) (Nat.le_of_ble_eq_true rfl) dX11_see_29 rfl rfl (fun r5 s6 => ?_)
    refine zx_lift (pc' := 33) (fun _ => zq_aload_n rfl rfl dX11_see_32 rfl) ?_
    refine zx_lift (pc' := 36) (fun _ => zt_getR zfr_X11_79 zfd_0_7 dX11_see_33 rfl) ?_
    refine zx_lift (pc' := 37) (fun _ => zq_iconst (v := 4) dX11_see_36 rfl rfl) ?_
    refine zx_cVi (pc' := 40) zcv_X11_166 (cX8_sizeOf_mc N true (4 : Int32) s6) (zob_f true) rfl (by decide) (Nat.le_of_ble_eq_true rfl) dX11_see_37 rfl rfl (fun r7 s8 => ?_)
    exact zx_iret rfl dX11_see_40
  · refine zx_lift (pc' := 14) (fun _ => zq_iload_n rfl rfl dX11_see_13 rfl) ?_
    exact zx_iret rfl dX11_see_14
theorem cX11_see_mc (N : Nat)  (p1 : Int32) (s : zq_S) (v : Int32 × zq_S) (h : mX11_see N p1 s = some v) : zq_MC yX11_see cX11_see 3 (some .int) ⟨3, 0, 0, 71⟩ 0 0 [.ref 0, .int p1] (zq_en s) (zv_i v.1, zq_en v.2) := zq_MC_x [.ref 0, .int p1, .null] (by decide +kernel) rfl rfl (Nat.le_of_ble_eq_true rfl) (xX11_see N p1 s) h
def jX6_markAt_j26 (N : Nat)   (t0 : Int32) (s : zq_S) : Option (Int32 × zq_S) :=
  some (t0, s)
set_option maxRecDepth 20000 in
set_option maxHeartbeats 2000000 in
theorem xX6_markAt_j26_j (N : Nat)   (t0 : Int32) (s : zq_S) : zq_X yX6_markAt RX6 cX6_markAt 2 (some .int) ⟨6, 0, 0, 139⟩ zv_i 26 [.null, .null] [.int t0] s (jX6_markAt_j26 N t0 s) := by
  unfold jX6_markAt_j26
  exact zx_iret rfl dX6_markAt_26
def mX6_markAt (N : Nat)  (p1 : Int32) (s : zq_S) : Option (Int32 × zq_S) :=
  zq_b2 (mX6_fewest N s) (fun r1 s2 =>
  zq_b2 (mX3_hasMark N p1 s2) (fun r3 s4 =>
  if r3 = (0 : Int32) then
  jX6_markAt_j26 N (-1 : Int32) s4
  else
  zq_ck p1 10 (
  jX6_markAt_j26 N (zga s4 47 p1) s4)))
set_option maxRecDepth 20000 in
set_option maxHeartbeats 2000000 in
theorem xX6_markAt (N : Nat)  (p1 : Int32) (s : zq_S) : zq_X yX6_markAt RX6 cX6_markAt 2 (some .int) ⟨6, 0, 0, 139⟩ zv_i 0 [.ref 46, .int p1] [] s (mX6_markAt N p1 s) := by
  unfold mX6_markAt
  refine zx_lift (pc' := 1) (fun _ => zq_aload_n rfl rfl dX6_markAt_0 rfl) ?_
  refine zx_cVi (pc' := 4) zcv_X6_55 (cX6_fewest_mc N s) zob_46 rfl (by decide) (Nat.le_of_ble_eq_true rfl) dX6_markAt_1 rfl rfl (fun r1 s2 => ?_)
  refine zx_lift (pc' := 5) (fun _ => zq_pop rfl dX6_markAt_4 rfl) ?_
  refine zx_lift (pc' := 6) (fun _ => zq_aload_n rfl rfl dX6_markAt_5 rfl) ?_
  refine zx_lift (pc' := 9) (fun _ => zt_getR zfr_X6_23 zfd_46_0 dX6_markAt_6 rfl) ?_
  refine zx_lift (pc' := 10) (fun _ => zq_iload_n rfl rfl dX6_markAt_9 rfl) ?_
  refine zx_cVi (pc' := 13) zcv_X6_59 (cX3_hasMark_mc N p1 s2) zob_31 rfl (by decide) (Nat.le_of_ble_eq_true rfl) dX6_markAt_10 rfl rfl (fun r3 s4 => ?_)
  refine zx_if_eq (pc' := 16) (tgt := 25) dX6_markAt_13 rfl rfl (fun hc => ?_) (fun hc => ?_)
  · refine zx_lift (pc' := 26) (fun _ => zq_iconst (v := (-1)) dX6_markAt_25 rfl rfl) ?_
    refine zx_less [.null, .null] (zq_cz (zq_cz zq_cn)) ?_
    exact xX6_markAt_j26_j N (-1 : Int32) s4
  · refine zx_lift (pc' := 17) (fun _ => zq_aload_n rfl rfl dX6_markAt_16 rfl) ?_
    refine zx_lift (pc' := 20) (fun _ => zt_getR zfr_X6_9 zfd_46_4 dX6_markAt_17 rfl) ?_
    refine zx_lift (pc' := 21) (fun _ => zq_iload_n rfl rfl dX6_markAt_20 rfl) ?_
    refine zx_iaload (pc' := 22) zsh_47 dX6_markAt_21 rfl ?_
    refine zx_lift (pc' := 26) (fun _ => zq_goto dX6_markAt_22 rfl) ?_
    refine zx_less [.null, .null] (zq_cz (zq_cz zq_cn)) ?_
    exact xX6_markAt_j26_j N (zga s4 47 p1) s4
theorem cX6_markAt_mc (N : Nat)  (p1 : Int32) (s : zq_S) (v : Int32 × zq_S) (h : mX6_markAt N p1 s = some v) : zq_MC yX6_markAt cX6_markAt 2 (some .int) ⟨6, 0, 0, 139⟩ 0 0 [.ref 46, .int p1] (zq_en s) (zv_i v.1, zq_en v.2) := zq_MC_x [.ref 46, .int p1] (by decide +kernel) rfl rfl (Nat.le_of_ble_eq_true rfl) (xX6_markAt N p1 s) h
def mX11_session (N : Nat)  (p1 : Int32) (s : zq_S) : Option (Int32 × zq_S) :=
  zq_b2 (mX6_markAt N p1 s) (fun r1 s2 =>
  some (r1, s2))
set_option maxRecDepth 20000 in
set_option maxHeartbeats 2000000 in
theorem xX11_session (N : Nat)  (p1 : Int32) (s : zq_S) : zq_X yX11_session RX11 cX11_session 2 (some .int) ⟨7, 0, 0, 160⟩ zv_i 0 [.ref 0, .int p1] [] s (mX11_session N p1 s) := by
  unfold mX11_session
  refine zx_lift (pc' := 1) (fun _ => zq_aload_n rfl rfl dX11_session_0 rfl) ?_
  refine zx_lift (pc' := 4) (fun _ => zt_getR zfr_X11_61 zfd_0_5 dX11_session_1 rfl) ?_
  refine zx_lift (pc' := 5) (fun _ => zq_iload_n rfl rfl dX11_session_4 rfl) ?_
  refine zx_cVi (pc' := 8) zcv_X11_213 (cX6_markAt_mc N p1 s) zob_46 rfl (by decide) (Nat.le_of_ble_eq_true rfl) dX11_session_5 rfl rfl (fun r1 s2 => ?_)
  exact zx_iret rfl dX11_session_8
theorem cX11_session_mc (N : Nat)  (p1 : Int32) (s : zq_S) (v : Int32 × zq_S) (h : mX11_session N p1 s = some v) : zq_MC yX11_session cX11_session 2 (some .int) ⟨7, 0, 0, 160⟩ 0 0 [.ref 0, .int p1] (zq_en s) (zv_i v.1, zq_en v.2) := zq_MC_x [.ref 0, .int p1] (by decide +kernel) rfl rfl (Nat.le_of_ble_eq_true rfl) (xX11_session N p1 s) h
def mX7_wipe (N : Nat) (b0 : Bool)  (s : zq_S) : Option (Unit × zq_S) :=
  zq_let (zpf s (zs b0) 1 (0 : Int32)) (fun s1 =>
  zq_let (zpf s1 (zs b0) 2 (0 : Int32)) (fun s2 =>
  zq_let (zpf s2 (zs b0) 6 (0 : Int32)) (fun s3 =>
  zq_let (zpf s3 (zs b0) 7 (0 : Int32)) (fun s4 =>
  zq_let (zpf s4 (zs b0) 8 (0 : Int32)) (fun s5 =>
  zq_let (zpfi s5 (zs b0 + 6) 10 (0 : Int32)) (fun s6 =>
  zq_let (zpfi s6 (zs b0 + 7) 10 (0 : Int32)) (fun s7 =>
  zq_let (zpfi s7 (zs b0 + 11) 10 (-1 : Int32)) (fun s8 =>
  some ((), s8)))))))))
set_option maxRecDepth 20000 in
set_option maxHeartbeats 2000000 in
theorem xX7_wipe (N : Nat) (b0 : Bool)  (s : zq_S) : zq_X yX7_wipe RX7 cX7_wipe 1 none ⟨1, 0, 0, 23⟩ zv_v 0 [.ref (zs b0)] [] s (mX7_wipe N b0 s) := by
  unfold mX7_wipe
  refine zx_lift (pc' := 1) (fun _ => zq_aload_n rfl rfl dX7_wipe_0 rfl) ?_
  refine zx_lift (pc' := 2) (fun _ => zq_iconst (v := 0) dX7_wipe_1 rfl rfl) ?_
  refine zx_putI (pc' := 5) zfr_X7_46 (fun _ => ⟨rfl, rfl⟩) (zfd_s_1 b0) dX7_wipe_2 rfl (fun s1 => ?_)
  refine zx_lift (pc' := 6) (fun _ => zq_aload_n rfl rfl dX7_wipe_5 rfl) ?_
  refine zx_lift (pc' := 7) (fun _ => zq_iconst (v := 0) dX7_wipe_6 rfl rfl) ?_
  refine zx_putI (pc' := 10) zfr_X7_50 (fun _ => ⟨by decide, rfl⟩) (zfd_s_2 b0) dX7_wipe_7 rfl (fun s2 => ?_)
  refine zx_lift (pc' := 11) (fun _ => zq_aload_n rfl rfl dX7_wipe_10 rfl) ?_
  refine zx_lift (pc' := 12) (fun _ => zq_iconst (v := 0) dX7_wipe_11 rfl rfl) ?_
  refine zx_putI (pc' := 15) zfr_X7_54 (fun _ => ⟨rfl, rfl⟩) (zfd_s_6 b0) dX7_wipe_12 rfl (fun s3 => ?_)
  refine zx_lift (pc' := 16) (fun _ => zq_aload_n rfl rfl dX7_wipe_15 rfl) ?_
  refine zx_lift (pc' := 17) (fun _ => zq_iconst (v := 0) dX7_wipe_16 rfl rfl) ?_
  refine zx_putI (pc' := 20) zfr_X7_57 (fun _ => ⟨rfl, rfl⟩) (zfd_s_7 b0) dX7_wipe_17 rfl (fun s4 => ?_)
  refine zx_lift (pc' := 21) (fun _ => zq_aload_n rfl rfl dX7_wipe_20 rfl) ?_
  refine zx_lift (pc' := 22) (fun _ => zq_iconst (v := 0) dX7_wipe_21 rfl rfl) ?_
  refine zx_putI (pc' := 25) zfr_X7_60 (fun _ => ⟨rfl, rfl⟩) (zfd_s_8 b0) dX7_wipe_22 rfl (fun s5 => ?_)
  refine zx_lift (pc' := 26) (fun _ => zq_aload_n rfl rfl dX7_wipe_25 rfl) ?_
  refine zx_lift (pc' := 29) (fun _ => zt_getR zfr_X7_28 (zfd_s_10 b0) dX7_wipe_26 rfl) ?_
  refine zx_lift (pc' := 30) (fun _ => zq_iconst (v := 0) dX7_wipe_29 rfl rfl) ?_
  refine zx_fillI (pc' := 33) zcs_X7_63 (zsh_s6 b0) ⟨by decide, by decide, Nat.le_of_ble_eq_true rfl⟩ dX7_wipe_30 rfl (fun s6 => ?_)
  refine zx_lift (pc' := 34) (fun _ => zq_aload_n rfl rfl dX7_wipe_33 rfl) ?_
  refine zx_lift (pc' := 37) (fun _ => zt_getR zfr_X7_31 (zfd_s_11 b0) dX7_wipe_34 rfl) ?_
  refine zx_lift (pc' := 38) (fun _ => zq_iconst (v := 0) dX7_wipe_37 rfl rfl) ?_
  refine zx_fillI (pc' := 41) zcs_X7_63 (zsh_s7 b0) ⟨by decide, by decide, Nat.le_of_ble_eq_true rfl⟩ dX7_wipe_38 rfl (fun s7 => ?_)
  refine zx_lift (pc' := 42) (fun _ => zq_aload_n rfl rfl dX7_wipe_41 rfl) ?_
  refine zx_lift (pc' := 45) (fun _ => zt_getR zfr_X7_43 (zfd_s_15 b0) dX7_wipe_42 rfl) ?_
  refine zx_lift (pc' := 46) (fun _ => zq_iconst (v := (-1)) dX7_wipe_45 rfl rfl) ?_
  refine zx_fillI (pc' := 49) zcs_X7_63 (zsh_s11 b0) ⟨by decide, by decide, Nat.le_of_ble_eq_true rfl⟩ dX7_wipe_46 rfl (fun s8 => ?_)
  exact zx_vret rfl dX7_wipe_49
theorem cX7_wipe_mc (N : Nat) (b0 : Bool)  (s : zq_S) (v : Unit × zq_S) (h : mX7_wipe N b0 s = some v) : zq_MC yX7_wipe cX7_wipe 1 none ⟨1, 0, 0, 23⟩ 0 0 [.ref (zs b0)] (zq_en s) (zv_v v.1, zq_en v.2) := zq_MC_x [.ref (zs b0)] (by decide +kernel) rfl rfl (Nat.le_of_ble_eq_true rfl) (xX7_wipe N b0 s) h
def mX5_start (N : Nat) (b1 : Bool)  (s : zq_S) : Option (Unit × zq_S) :=
  zq_b2 (mX7_wipe N b1 s) (fun r1 s2 =>
  zq_let (zpb s2 2 b1) (fun s3 =>
  zq_let (zpf s3 26 4 (0 : Int32)) (fun s4 =>
  zq_let (zpf s4 26 6 (0 : Int32)) (fun s5 =>
  zq_let (zpf s5 26 7 (0 : Int32)) (fun s6 =>
  zq_let (zpf s6 26 8 (-1 : Int32)) (fun s7 =>
  zq_let (zpf s7 26 9 (-1 : Int32)) (fun s8 =>
  zq_let (zpfi s8 29 10 (-1 : Int32)) (fun s9 =>
  zq_let (zpfi s9 30 10 (-1 : Int32)) (fun s10 =>
  some ((), s10))))))))))
set_option maxRecDepth 20000 in
set_option maxHeartbeats 2000000 in
theorem xX5_start (N : Nat) (b1 : Bool)  (s : zq_S) : zq_X yX5_start RX5 cX5_start 2 none ⟨2, 0, 0, 43⟩ zv_v 0 [.ref 26, .ref (zs b1)] [] s (mX5_start N b1 s) := by
  unfold mX5_start
  refine zx_lift (pc' := 1) (fun _ => zq_aload_n rfl rfl dX5_start_0 rfl) ?_
  refine zx_cVv (pc' := 4) zcv_X5_71 (cX7_wipe_mc N b1 s) (zob_s b1) rfl (by decide) (Nat.le_of_ble_eq_true rfl) dX5_start_1 rfl rfl (fun r1 s2 => ?_)
  refine zx_lift (pc' := 5) (fun _ => zq_aload_n rfl rfl dX5_start_4 rfl) ?_
  refine zx_lift (pc' := 6) (fun _ => zq_aload_n rfl rfl dX5_start_5 rfl) ?_
  refine zx_putP (pc' := 9) zfr_X5_29 (fun _ _ => ⟨rfl, rfl⟩) zpt_2 dX5_start_6 rfl (fun s3 => ?_)
  refine zx_lift (pc' := 10) (fun _ => zq_aload_n rfl rfl dX5_start_9 rfl) ?_
  refine zx_lift (pc' := 11) (fun _ => zq_iconst (v := 0) dX5_start_10 rfl rfl) ?_
  refine zx_putI (pc' := 14) zfr_X5_48 (fun _ => ⟨rfl, rfl⟩) zfd_26_4 dX5_start_11 rfl (fun s4 => ?_)
  refine zx_lift (pc' := 15) (fun _ => zq_aload_n rfl rfl dX5_start_14 rfl) ?_
  refine zx_lift (pc' := 16) (fun _ => zq_iconst (v := 0) dX5_start_15 rfl rfl) ?_
  refine zx_putI (pc' := 19) zfr_X5_51 (fun _ => ⟨rfl, rfl⟩) zfd_26_6 dX5_start_16 rfl (fun s5 => ?_)
  refine zx_lift (pc' := 20) (fun _ => zq_aload_n rfl rfl dX5_start_19 rfl) ?_
  refine zx_lift (pc' := 21) (fun _ => zq_iconst (v := 0) dX5_start_20 rfl rfl) ?_
  refine zx_putI (pc' := 24) zfr_X5_58 (fun _ => ⟨rfl, rfl⟩) zfd_26_7 dX5_start_21 rfl (fun s6 => ?_)
  refine zx_lift (pc' := 25) (fun _ => zq_aload_n rfl rfl dX5_start_24 rfl) ?_
  refine zx_lift (pc' := 26) (fun _ => zq_iconst (v := (-1)) dX5_start_25 rfl rfl) ?_
  refine zx_putI (pc' := 29) zfr_X5_74 (fun _ => ⟨rfl, rfl⟩) zfd_26_8 dX5_start_26 rfl (fun s7 => ?_)
  refine zx_lift (pc' := 30) (fun _ => zq_aload_n rfl rfl dX5_start_29 rfl) ?_
  refine zx_lift (pc' := 31) (fun _ => zq_iconst (v := (-1)) dX5_start_30 rfl rfl) ?_
  refine zx_putI (pc' := 34) zfr_X5_77 (fun _ => ⟨rfl, rfl⟩) zfd_26_9 dX5_start_31 rfl (fun s8 => ?_)
  refine zx_lift (pc' := 35) (fun _ => zq_aload_n rfl rfl dX5_start_34 rfl) ?_
  refine zx_lift (pc' := 38) (fun _ => zt_getR zfr_X5_23 zfd_26_10 dX5_start_35 rfl) ?_
  refine zx_lift (pc' := 39) (fun _ => zq_iconst (v := (-1)) dX5_start_38 rfl rfl) ?_
  refine zx_fillI (pc' := 42) zcs_X5_80 zsh_29 ⟨by decide, by decide, Nat.le_of_ble_eq_true rfl⟩ dX5_start_39 rfl (fun s9 => ?_)
  refine zx_lift (pc' := 43) (fun _ => zq_aload_n rfl rfl dX5_start_42 rfl) ?_
  refine zx_lift (pc' := 46) (fun _ => zt_getR zfr_X5_26 zfd_26_11 dX5_start_43 rfl) ?_
  refine zx_lift (pc' := 47) (fun _ => zq_iconst (v := (-1)) dX5_start_46 rfl rfl) ?_
  refine zx_fillI (pc' := 50) zcs_X5_80 zsh_30 ⟨by decide, by decide, Nat.le_of_ble_eq_true rfl⟩ dX5_start_47 rfl (fun s10 => ?_)
  exact zx_vret rfl dX5_start_50
theorem cX5_start_mc (N : Nat) (b1 : Bool)  (s : zq_S) (v : Unit × zq_S) (h : mX5_start N b1 s = some v) : zq_MC yX5_start cX5_start 2 none ⟨2, 0, 0, 43⟩ 0 0 [.ref 26, .ref (zs b1)] (zq_en s) (zv_v v.1, zq_en v.2) := zq_MC_x [.ref 26, .ref (zs b1)] (by decide +kernel) rfl rfl (Nat.le_of_ble_eq_true rfl) (xX5_start N b1 s) h
def jX5_byteAt_j33 (N : Nat)   (t0 : Int32) (s : zq_S) : Option (Int32 × zq_S) :=
  some (t0, s)
set_option maxRecDepth 20000 in
set_option maxHeartbeats 2000000 in
theorem xX5_byteAt_j33_j (N : Nat)   (t0 : Int32) (s : zq_S) : zq_X yX5_byteAt RX5 cX5_byteAt 2 (some .int) ⟨0, 0, 0, 0⟩ zv_i 33 [.null, .null] [.int t0] s (jX5_byteAt_j33 N t0 s) := by
  unfold jX5_byteAt_j33
  exact zx_iret rfl dX5_byteAt_33
def jX5_byteAt_j32 (N : Nat)    (s : zq_S) : Option (Int32 × zq_S) :=
  jX5_byteAt_j33 N (0 : Int32) s
set_option maxRecDepth 20000 in
set_option maxHeartbeats 2000000 in
theorem xX5_byteAt_j32_j (N : Nat)    (s : zq_S) : zq_X yX5_byteAt RX5 cX5_byteAt 2 (some .int) ⟨0, 0, 0, 0⟩ zv_i 32 [.null, .null] [] s (jX5_byteAt_j32 N s) := by
  unfold jX5_byteAt_j32
  refine zx_lift (pc' := 33) (fun _ => zq_iconst (v := 0) dX5_byteAt_32 rfl rfl) ?_
  exact xX5_byteAt_j33_j N (0 : Int32) s
def mX5_byteAt (N : Nat)  (p1 : Int32) (s : zq_S) : Option (Int32 × zq_S) :=
  if p1 < (0 : Int32) then
  jX5_byteAt_j32 N s
  else
  if (zgf s 26 1) ≤ p1 then
  jX5_byteAt_j32 N s
  else
  if (400 : Int32) ≤ p1 then
  jX5_byteAt_j32 N s
  else
  zq_ck p1 400 (
  jX5_byteAt_j33 N ((zga s 27 p1) &&& (255 : Int32)) s)
set_option maxRecDepth 20000 in
set_option maxHeartbeats 2000000 in
theorem xX5_byteAt (N : Nat)  (p1 : Int32) (s : zq_S) : zq_X yX5_byteAt RX5 cX5_byteAt 2 (some .int) ⟨0, 0, 0, 0⟩ zv_i 0 [.ref 26, .int p1] [] s (mX5_byteAt N p1 s) := by
  unfold mX5_byteAt
  refine zx_lift (pc' := 1) (fun _ => zq_iload_n rfl rfl dX5_byteAt_0 rfl) ?_
  refine zx_if_lt (pc' := 4) (tgt := 32) dX5_byteAt_1 rfl rfl (fun hc => ?_) (fun hc => ?_)
  · refine zx_less [.null, .null] (zq_cz (zq_cz zq_cn)) ?_
    exact xX5_byteAt_j32_j N s
  · refine zx_lift (pc' := 5) (fun _ => zq_iload_n rfl rfl dX5_byteAt_4 rfl) ?_
    refine zx_lift (pc' := 6) (fun _ => zq_aload_n rfl rfl dX5_byteAt_5 rfl) ?_
    refine zx_lift (pc' := 9) (fun _ => zt_getI zfr_X5_33 zfd_26_1 dX5_byteAt_6 rfl) ?_
    refine zx_icmp_ge (pc' := 12) (tgt := 32) dX5_byteAt_9 rfl rfl (fun hc => ?_) (fun hc => ?_)
    · refine zx_less [.null, .null] (zq_cz (zq_cz zq_cn)) ?_
      exact xX5_byteAt_j32_j N s
    · refine zx_lift (pc' := 13) (fun _ => zq_iload_n rfl rfl dX5_byteAt_12 rfl) ?_
      refine zx_lift (pc' := 16) (fun _ => zq_sipush (v := 400) dX5_byteAt_13 rfl rfl) ?_
      refine zx_icmp_ge (pc' := 19) (tgt := 32) dX5_byteAt_16 rfl rfl (fun hc => ?_) (fun hc => ?_)
      · refine zx_less [.null, .null] (zq_cz (zq_cz zq_cn)) ?_
        exact xX5_byteAt_j32_j N s
      · refine zx_lift (pc' := 20) (fun _ => zq_aload_n rfl rfl dX5_byteAt_19 rfl) ?_
        refine zx_lift (pc' := 23) (fun _ => zt_getR zfr_X5_9 zfd_26_0 dX5_byteAt_20 rfl) ?_
        refine zx_lift (pc' := 24) (fun _ => zq_iload_n rfl rfl dX5_byteAt_23 rfl) ?_
        refine zx_baload (pc' := 25) zsh_27 dX5_byteAt_24 rfl ?_
        refine zx_lift (pc' := 28) (fun _ => zq_sipush (v := 255) dX5_byteAt_25 rfl rfl) ?_
        refine zx_lift (pc' := 29) (fun _ => zq_iand dX5_byteAt_28 rfl) ?_
        refine zx_lift (pc' := 33) (fun _ => zq_goto dX5_byteAt_29 rfl) ?_
        refine zx_less [.null, .null] (zq_cz (zq_cz zq_cn)) ?_
        exact xX5_byteAt_j33_j N ((zga s 27 p1) &&& (255 : Int32)) s
theorem cX5_byteAt_mc (N : Nat)  (p1 : Int32) (s : zq_S) (v : Int32 × zq_S) (h : mX5_byteAt N p1 s = some v) : zq_MC yX5_byteAt cX5_byteAt 2 (some .int) ⟨0, 0, 0, 0⟩ 0 0 [.ref 26, .int p1] (zq_en s) (zv_i v.1, zq_en v.2) := zq_MC_x [.ref 26, .int p1] (by decide +kernel) rfl rfl (Nat.le_of_ble_eq_true rfl) (xX5_byteAt N p1 s) h
def jX5_isFigure_j25 (N : Nat)   (t0 : Int32) (s : zq_S) : Option (Int32 × zq_S) :=
  zq_bz t0 (some (t0, s))
set_option maxRecDepth 20000 in
set_option maxHeartbeats 2000000 in
theorem xX5_isFigure_j25_j (N : Nat)   (t0 : Int32) (s : zq_S) : zq_X yX5_isFigure RX5 cX5_isFigure 2 (some .boolean) ⟨1, 0, 0, 21⟩ zv_i 25 [.null, .null] [.int t0] s (jX5_isFigure_j25 N t0 s) := by
  unfold jX5_isFigure_j25
  exact zx_zretg rfl dX5_isFigure_25
def jX5_isFigure_j24 (N : Nat)    (s : zq_S) : Option (Int32 × zq_S) :=
  jX5_isFigure_j25 N (0 : Int32) s
set_option maxRecDepth 20000 in
set_option maxHeartbeats 2000000 in
theorem xX5_isFigure_j24_j (N : Nat)    (s : zq_S) : zq_X yX5_isFigure RX5 cX5_isFigure 2 (some .boolean) ⟨1, 0, 0, 21⟩ zv_i 24 [.null, .null] [] s (jX5_isFigure_j24 N s) := by
  unfold jX5_isFigure_j24
  refine zx_lift (pc' := 25) (fun _ => zq_iconst (v := 0) dX5_isFigure_24 rfl rfl) ?_
  exact xX5_isFigure_j25_j N (0 : Int32) s
def mX5_isFigure (N : Nat)  (p1 : Int32) (s : zq_S) : Option (Int32 × zq_S) :=
  zq_b2 (mX5_byteAt N p1 s) (fun r1 s2 =>
  if r1 < (48 : Int32) then
  jX5_isFigure_j24 N s2
  else
  zq_b2 (mX5_byteAt N p1 s2) (fun r3 s4 =>
  if (57 : Int32) < r3 then
  jX5_isFigure_j24 N s4
  else
  jX5_isFigure_j25 N (1 : Int32) s4))
set_option maxRecDepth 20000 in
set_option maxHeartbeats 2000000 in
theorem xX5_isFigure (N : Nat)  (p1 : Int32) (s : zq_S) : zq_X yX5_isFigure RX5 cX5_isFigure 2 (some .boolean) ⟨1, 0, 0, 21⟩ zv_i 0 [.ref 26, .int p1] [] s (mX5_isFigure N p1 s) := by
  unfold mX5_isFigure
  refine zx_lift (pc' := 1) (fun _ => zq_aload_n rfl rfl dX5_isFigure_0 rfl) ?_
  refine zx_lift (pc' := 2) (fun _ => zq_iload_n rfl rfl dX5_isFigure_1 rfl) ?_
  refine zx_cVi (pc' := 5) zcv_X5_86 (cX5_byteAt_mc N p1 s) zob_26 rfl (by decide) (Nat.le_of_ble_eq_true rfl) dX5_isFigure_2 rfl rfl (fun r1 s2 => ?_)
  refine zx_lift (pc' := 7) (fun _ => zq_bipush (v := 48) dX5_isFigure_5 rfl rfl) ?_
  refine zx_icmp_lt (pc' := 10) (tgt := 24) dX5_isFigure_7 rfl rfl (fun hc => ?_) (fun hc => ?_)
  · refine zx_less [.null, .null] (zq_cz (zq_cz zq_cn)) ?_
    exact xX5_isFigure_j24_j N s2
  · refine zx_lift (pc' := 11) (fun _ => zq_aload_n rfl rfl dX5_isFigure_10 rfl) ?_
    refine zx_lift (pc' := 12) (fun _ => zq_iload_n rfl rfl dX5_isFigure_11 rfl) ?_
    refine zx_cVi (pc' := 15) zcv_X5_86 (cX5_byteAt_mc N p1 s2) zob_26 rfl (by decide) (Nat.le_of_ble_eq_true rfl) dX5_isFigure_12 rfl rfl (fun r3 s4 => ?_)
    refine zx_lift (pc' := 17) (fun _ => zq_bipush (v := 57) dX5_isFigure_15 rfl rfl) ?_
    refine zx_icmp_gt (pc' := 20) (tgt := 24) dX5_isFigure_17 rfl rfl (fun hc => ?_) (fun hc => ?_)
    · refine zx_less [.null, .null] (zq_cz (zq_cz zq_cn)) ?_
      exact xX5_isFigure_j24_j N s4
    · refine zx_lift (pc' := 21) (fun _ => zq_iconst (v := 1) dX5_isFigure_20 rfl rfl) ?_
      refine zx_lift (pc' := 25) (fun _ => zq_goto dX5_isFigure_21 rfl) ?_
      refine zx_less [.null, .null] (zq_cz (zq_cz zq_cn)) ?_
      exact xX5_isFigure_j25_j N (1 : Int32) s4
theorem cX5_isFigure_mc (N : Nat)  (p1 : Int32) (s : zq_S) (v : Int32 × zq_S) (h : mX5_isFigure N p1 s = some v) : zq_MC yX5_isFigure cX5_isFigure 2 (some .boolean) ⟨1, 0, 0, 21⟩ 0 0 [.ref 26, .int p1] (zq_en s) (zv_i v.1, zq_en v.2) := zq_MC_x [.ref 26, .int p1] (by decide +kernel) rfl rfl (Nat.le_of_ble_eq_true rfl) (xX5_isFigure N p1 s) h
def jX5_endOfToken_j34 (N : Nat)   (w2 : Int32) (s : zq_S) : Option (Int32 × zq_S) :=
  some (w2, s)
set_option maxRecDepth 20000 in
set_option maxHeartbeats 2000000 in
theorem xX5_endOfToken_j34_j (N : Nat)   (w2 : Int32) (s : zq_S) : zq_X yX5_endOfToken RX5 cX5_endOfToken 3 (some .int) ⟨2, 0, 0, 42⟩ zv_i 34 [.null, .null, .int w2] [] s (jX5_endOfToken_j34 N w2 s) := by
  unfold jX5_endOfToken_j34
  refine zx_lift (pc' := 35) (fun _ => zq_iload_n rfl rfl dX5_endOfToken_34 rfl) ?_
  exact zx_iret rfl dX5_endOfToken_35
def bX5_endOfToken_12 (N : Nat)   (k34 : Int32 × zq_S → Option (Int32 × zq_S)) (self : Int32 × zq_S → Option (Int32 × zq_S)) (v : Int32 × zq_S) : Option (Int32 × zq_S) :=
  if (zgf v.2 26 1) ≤ v.1 then
  k34 (v.1, v.2)
  else
  zq_b2 (mX5_isFigure N v.1 v.2) (fun r4 s5 =>
  if r4 = (0 : Int32) then
  k34 (v.1, s5)
  else
  zq_let (v.1 + (1 : Int32)) (fun x6 =>
  self (x6, s5)))
set_option maxRecDepth 20000 in
set_option maxHeartbeats 2000000 in
theorem xX5_endOfToken_12 (N : Nat)   (k34 : Int32 × zq_S → Option (Int32 × zq_S)) (hk34 : ∀ e, zq_X yX5_endOfToken RX5 cX5_endOfToken 3 (some .int) ⟨2, 0, 0, 42⟩ zv_i 34 [.null, .null, .int e.1] [] e.2 (k34 e)) (self : Int32 × zq_S → Option (Int32 × zq_S)) (hself : ∀ v, zq_X yX5_endOfToken RX5 cX5_endOfToken 3 (some .int) ⟨2, 0, 0, 42⟩ zv_i 12 [.ref 26, .null, .int v.1] [] v.2 (self v)) (v : Int32 × zq_S) : zq_X yX5_endOfToken RX5 cX5_endOfToken 3 (some .int) ⟨2, 0, 0, 42⟩ zv_i 12 [.ref 26, .null, .int v.1] [] v.2 (bX5_endOfToken_12 N k34 self v) := by
  unfold bX5_endOfToken_12
  refine zx_lift (pc' := 13) (fun _ => zq_iload_n rfl rfl dX5_endOfToken_12 rfl) ?_
  refine zx_lift (pc' := 14) (fun _ => zq_aload_n rfl rfl dX5_endOfToken_13 rfl) ?_
  refine zx_lift (pc' := 17) (fun _ => zt_getI zfr_X5_33 zfd_26_1 dX5_endOfToken_14 rfl) ?_
  refine zx_icmp_ge (pc' := 20) (tgt := 34) dX5_endOfToken_17 rfl rfl (fun hc => ?_) (fun hc => ?_)
  · refine zx_less [.null, .null, .int v.1] (zq_cz (zq_cz (zq_cr zq_cn))) ?_
    exact hk34 (v.1, v.2)
  · refine zx_lift (pc' := 21) (fun _ => zq_aload_n rfl rfl dX5_endOfToken_20 rfl) ?_
    refine zx_lift (pc' := 22) (fun _ => zq_iload_n rfl rfl dX5_endOfToken_21 rfl) ?_
    refine zx_cVi (pc' := 25) zcv_X5_89 (cX5_isFigure_mc N v.1 v.2) zob_26 rfl (by decide) (Nat.le_of_ble_eq_true rfl) dX5_endOfToken_22 rfl rfl (fun r4 s5 => ?_)
    refine zx_if_eq (pc' := 28) (tgt := 34) dX5_endOfToken_25 rfl rfl (fun hc => ?_) (fun hc => ?_)
    · refine zx_less [.null, .null, .int v.1] (zq_cz (zq_cz (zq_cr zq_cn))) ?_
      exact hk34 (v.1, s5)
    · refine zx_iinc (pc' := 31) (ls' := fun x6 => [.ref 26, .null, .int x6]) rfl rfl (by decide) rfl (fun _ => rfl) dX5_endOfToken_28 rfl (fun x6 => ?_)
      refine zx_lift (pc' := 12) (fun _ => zq_goto dX5_endOfToken_31 rfl) ?_
      exact hself (x6, s5)
theorem yX5_endOfToken_12 (N : Nat)   (k34 : Int32 × zq_S → Option (Int32 × zq_S)) (hk34 : ∀ e, zq_X yX5_endOfToken RX5 cX5_endOfToken 3 (some .int) ⟨2, 0, 0, 42⟩ zv_i 34 [.null, .null, .int e.1] [] e.2 (k34 e)) (n : Nat) : ∀ v : Int32 × zq_S, zq_X yX5_endOfToken RX5 cX5_endOfToken 3 (some .int) ⟨2, 0, 0, 42⟩ zv_i 12 [.ref 26, .null, .int v.1] [] v.2 (zq_loop (bX5_endOfToken_12 N k34) n v) := by
  induction n with
  | zero => exact fun v u hu => by cases hu
  | succ n ih =>
    intro v
    rw [zq_loop_s]
    exact xX5_endOfToken_12 N k34 hk34 (zq_loop (bX5_endOfToken_12 N k34) n) ih v
def mX5_endOfToken (N : Nat)  (p1 : Int32) (s : zq_S) : Option (Int32 × zq_S) :=
  zq_let (p1 + (1 : Int32)) (fun x1 =>
  zq_b2 (mX5_isFigure N p1 s) (fun r2 s3 =>
  if r2 = (0 : Int32) then
  jX5_endOfToken_j34 N x1 s3
  else
  zq_loop (bX5_endOfToken_12 N (fun e7 =>
  jX5_endOfToken_j34 N e7.1 e7.2)) N (x1, s3)))
set_option maxRecDepth 20000 in
set_option maxHeartbeats 2000000 in
theorem xX5_endOfToken (N : Nat)  (p1 : Int32) (s : zq_S) : zq_X yX5_endOfToken RX5 cX5_endOfToken 3 (some .int) ⟨2, 0, 0, 42⟩ zv_i 0 [.ref 26, .int p1, .null] [] s (mX5_endOfToken N p1 s) := by
  unfold mX5_endOfToken
  refine zx_lift (pc' := 1) (fun _ => zq_iload_n rfl rfl dX5_endOfToken_0 rfl) ?_
  refine zx_lift (pc' := 2) (fun _ => zq_iconst (v := 1) dX5_endOfToken_1 rfl rfl) ?_
  refine zx_lift (pc' := 3) (fun _ => zq_iadd dX5_endOfToken_2 rfl) ?_
  refine zx_istore_n (pc' := 4) (ls' := fun x1 => [.ref 26, .int p1, .int x1]) rfl (by decide) rfl (fun _ => rfl) dX5_endOfToken_3 rfl (fun x1 => ?_)
  refine zx_lift (pc' := 5) (fun _ => zq_aload_n rfl rfl dX5_endOfToken_4 rfl) ?_
  refine zx_lift (pc' := 6) (fun _ => zq_iload_n rfl rfl dX5_endOfToken_5 rfl) ?_
  refine zx_cVi (pc' := 9) zcv_X5_89 (cX5_isFigure_mc N p1 s) zob_26 rfl (by decide) (Nat.le_of_ble_eq_true rfl) dX5_endOfToken_6 rfl rfl (fun r2 s3 => ?_)
  refine zx_if_eq (pc' := 12) (tgt := 34) dX5_endOfToken_9 rfl rfl (fun hc => ?_) (fun hc => ?_)
  · refine zx_less [.null, .null, .int x1] (zq_cz (zq_cz (zq_cr zq_cn))) ?_
    exact xX5_endOfToken_j34_j N x1 s3
  · refine zx_less [.ref 26, .null, .int x1] (zq_cr (zq_cz (zq_cr zq_cn))) ?_
    refine yX5_endOfToken_12 N _ (fun e7 => ?_) N (x1, s3)
    exact xX5_endOfToken_j34_j N e7.1 e7.2
theorem cX5_endOfToken_mc (N : Nat)  (p1 : Int32) (s : zq_S) (v : Int32 × zq_S) (h : mX5_endOfToken N p1 s = some v) : zq_MC yX5_endOfToken cX5_endOfToken 3 (some .int) ⟨2, 0, 0, 42⟩ 0 0 [.ref 26, .int p1] (zq_en s) (zv_i v.1, zq_en v.2) := zq_MC_x [.ref 26, .int p1, .null] (by decide +kernel) rfl rfl (Nat.le_of_ble_eq_true rfl) (xX5_endOfToken N p1 s) h
def jX7_printSign_j31 (N : Nat) (b0 : Bool)   (s : zq_S) : Option (Unit × zq_S) :=
  zq_let (zpf s (zs b0) 2 (0 : Int32)) (fun s1 =>
  some ((), s1))
set_option maxRecDepth 20000 in
set_option maxHeartbeats 2000000 in
theorem xX7_printSign_j31_j (N : Nat) (b0 : Bool)   (s : zq_S) : zq_X yX7_printSign RX7 cX7_printSign 2 none ⟨0, 0, 0, 0⟩ zv_v 31 [.ref (zs b0), .null] [] s (jX7_printSign_j31 N b0 s) := by
  unfold jX7_printSign_j31
  refine zx_lift (pc' := 32) (fun _ => zq_aload_n rfl rfl dX7_printSign_31 rfl) ?_
  refine zx_lift (pc' := 33) (fun _ => zq_iconst (v := 0) dX7_printSign_32 rfl rfl) ?_
  refine zx_putI (pc' := 36) zfr_X7_50 (fun _ => ⟨by decide, rfl⟩) (zfd_s_2 b0) dX7_printSign_33 rfl (fun s1 => ?_)
  exact zx_vret rfl dX7_printSign_36
def mX7_printSign (N : Nat) (b0 : Bool) (p1 : Int32) (s : zq_S) : Option (Unit × zq_S) :=
  if (400 : Int32) ≤ (zgf s (zs b0) 1) then
  jX7_printSign_j31 N b0 s
  else
  zq_ck (zgf s (zs b0) 1) 400 (
  zq_let (zpab s (zs b0 + 1) (zgf s (zs b0) 1) ((Int32.toInt8 p1).toInt32)) (fun s2 =>
  zq_let (zpf s2 (zs b0) 1 ((zgf s2 (zs b0) 1) + (1 : Int32))) (fun s3 =>
  jX7_printSign_j31 N b0 s3)))
set_option maxRecDepth 20000 in
set_option maxHeartbeats 2000000 in
theorem xX7_printSign (N : Nat) (b0 : Bool) (p1 : Int32) (s : zq_S) : zq_X yX7_printSign RX7 cX7_printSign 2 none ⟨0, 0, 0, 0⟩ zv_v 0 [.ref (zs b0), .int p1] [] s (mX7_printSign N b0 p1 s) := by
  unfold mX7_printSign
  refine zx_lift (pc' := 1) (fun _ => zq_aload_n rfl rfl dX7_printSign_0 rfl) ?_
  refine zx_lift (pc' := 4) (fun _ => zt_getI zfr_X7_46 (zfd_s_1 b0) dX7_printSign_1 rfl) ?_
  refine zx_lift (pc' := 7) (fun _ => zq_sipush (v := 400) dX7_printSign_4 rfl rfl) ?_
  refine zx_icmp_ge (pc' := 10) (tgt := 31) dX7_printSign_7 rfl rfl (fun hc => ?_) (fun hc => ?_)
  · refine zx_less [.ref (zs b0), .null] (zq_cr (zq_cz zq_cn)) ?_
    exact xX7_printSign_j31_j N b0 s
  · refine zx_lift (pc' := 11) (fun _ => zq_aload_n rfl rfl dX7_printSign_10 rfl) ?_
    refine zx_lift (pc' := 14) (fun _ => zt_getR zfr_X7_9 (zfd_s_0 b0) dX7_printSign_11 rfl) ?_
    refine zx_lift (pc' := 15) (fun _ => zq_aload_n rfl rfl dX7_printSign_14 rfl) ?_
    refine zx_lift (pc' := 18) (fun _ => zt_getI zfr_X7_46 (zfd_s_1 b0) dX7_printSign_15 rfl) ?_
    refine zx_lift (pc' := 19) (fun _ => zq_iload_n rfl rfl dX7_printSign_18 rfl) ?_
    refine zx_lift (pc' := 20) (fun _ => zq_i2b dX7_printSign_19 rfl) ?_
    refine zx_bastore (pc' := 21) (zsh_s1 b0) dX7_printSign_20 rfl (fun s2 => ?_)
    refine zx_lift (pc' := 22) (fun _ => zq_aload_n rfl rfl dX7_printSign_21 rfl) ?_
    refine zx_lift (pc' := 23) (fun _ => zq_dup rfl dX7_printSign_22 rfl) ?_
    refine zx_lift (pc' := 26) (fun _ => zt_getI zfr_X7_46 (zfd_s_1 b0) dX7_printSign_23 rfl) ?_
    refine zx_lift (pc' := 27) (fun _ => zq_iconst (v := 1) dX7_printSign_26 rfl rfl) ?_
    refine zx_lift (pc' := 28) (fun _ => zq_iadd dX7_printSign_27 rfl) ?_
    refine zx_putI (pc' := 31) zfr_X7_46 (fun _ => ⟨rfl, rfl⟩) (zfd_s_1 b0) dX7_printSign_28 rfl (fun s3 => ?_)
    refine zx_less [.ref (zs b0), .null] (zq_cr (zq_cz zq_cn)) ?_
    exact xX7_printSign_j31_j N b0 s3
theorem cX7_printSign_mc (N : Nat) (b0 : Bool) (p1 : Int32) (s : zq_S) (v : Unit × zq_S) (h : mX7_printSign N b0 p1 s = some v) : zq_MC yX7_printSign cX7_printSign 2 none ⟨0, 0, 0, 0⟩ 0 0 [.ref (zs b0), .int p1] (zq_en s) (zv_v v.1, zq_en v.2) := zq_MC_x [.ref (zs b0), .int p1] (by decide +kernel) rfl rfl (Nat.le_of_ble_eq_true rfl) (xX7_printSign N b0 p1 s) h
def jX7_addItem_j49 (N : Nat) (b0 : Bool)   (s : zq_S) : Option (Unit × zq_S) :=
  some ((), s)
set_option maxRecDepth 20000 in
set_option maxHeartbeats 2000000 in
theorem xX7_addItem_j49_j (N : Nat) (b0 : Bool)   (s : zq_S) : zq_X yX7_addItem RX7 cX7_addItem 2 none ⟨0, 0, 0, 0⟩ zv_v 49 [.null, .null] [] s (jX7_addItem_j49 N b0 s) := by
  unfold jX7_addItem_j49
  exact zx_vret rfl dX7_addItem_49
def mX7_addItem (N : Nat) (b0 : Bool) (p1 : Int32) (s : zq_S) : Option (Unit × zq_S) :=
  if (100 : Int32) ≤ (zgf s (zs b0) 6) then
  jX7_addItem_j49 N b0 s
  else
  zq_ck (zgf s (zs b0) 6) 100 (
  zq_let (zpa s (zs b0 + 2) (zgf s (zs b0) 6) p1) (fun s1 =>
  zq_ck (zgf s1 (zs b0) 6) 100 (
  zq_let (zpa s1 (zs b0 + 3) (zgf s1 (zs b0) 6) (-1 : Int32)) (fun s2 =>
  zq_ck (zgf s2 (zs b0) 6) 100 (
  zq_let (zpa s2 (zs b0 + 4) (zgf s2 (zs b0) 6) (-1 : Int32)) (fun s3 =>
  zq_let (zpf s3 (zs b0) 6 ((zgf s3 (zs b0) 6) + (1 : Int32))) (fun s4 =>
  jX7_addItem_j49 N b0 s4)))))))
set_option maxRecDepth 20000 in
set_option maxHeartbeats 2000000 in
theorem xX7_addItem (N : Nat) (b0 : Bool) (p1 : Int32) (s : zq_S) : zq_X yX7_addItem RX7 cX7_addItem 2 none ⟨0, 0, 0, 0⟩ zv_v 0 [.ref (zs b0), .int p1] [] s (mX7_addItem N b0 p1 s) := by
  unfold mX7_addItem
  refine zx_lift (pc' := 1) (fun _ => zq_aload_n rfl rfl dX7_addItem_0 rfl) ?_
  refine zx_lift (pc' := 4) (fun _ => zt_getI zfr_X7_54 (zfd_s_6 b0) dX7_addItem_1 rfl) ?_
  refine zx_lift (pc' := 6) (fun _ => zq_bipush (v := 100) dX7_addItem_4 rfl rfl) ?_
  refine zx_icmp_ge (pc' := 9) (tgt := 49) dX7_addItem_6 rfl rfl (fun hc => ?_) (fun hc => ?_)
  · refine zx_less [.null, .null] (zq_cz (zq_cz zq_cn)) ?_
    exact xX7_addItem_j49_j N b0 s
  · refine zx_lift (pc' := 10) (fun _ => zq_aload_n rfl rfl dX7_addItem_9 rfl) ?_
    refine zx_lift (pc' := 13) (fun _ => zt_getR zfr_X7_15 (zfd_s_3 b0) dX7_addItem_10 rfl) ?_
    refine zx_lift (pc' := 14) (fun _ => zq_aload_n rfl rfl dX7_addItem_13 rfl) ?_
    refine zx_lift (pc' := 17) (fun _ => zt_getI zfr_X7_54 (zfd_s_6 b0) dX7_addItem_14 rfl) ?_
    refine zx_lift (pc' := 18) (fun _ => zq_iload_n rfl rfl dX7_addItem_17 rfl) ?_
    refine zx_iastore (pc' := 19) (zsh_s2 b0) dX7_addItem_18 rfl (fun s1 => ?_)
    refine zx_lift (pc' := 20) (fun _ => zq_aload_n rfl rfl dX7_addItem_19 rfl) ?_
    refine zx_lift (pc' := 23) (fun _ => zt_getR zfr_X7_19 (zfd_s_4 b0) dX7_addItem_20 rfl) ?_
    refine zx_lift (pc' := 24) (fun _ => zq_aload_n rfl rfl dX7_addItem_23 rfl) ?_
    refine zx_lift (pc' := 27) (fun _ => zt_getI zfr_X7_54 (zfd_s_6 b0) dX7_addItem_24 rfl) ?_
    refine zx_lift (pc' := 28) (fun _ => zq_iconst (v := (-1)) dX7_addItem_27 rfl rfl) ?_
    refine zx_iastore (pc' := 29) (zsh_s3 b0) dX7_addItem_28 rfl (fun s2 => ?_)
    refine zx_lift (pc' := 30) (fun _ => zq_aload_n rfl rfl dX7_addItem_29 rfl) ?_
    refine zx_lift (pc' := 33) (fun _ => zt_getR zfr_X7_22 (zfd_s_5 b0) dX7_addItem_30 rfl) ?_
    refine zx_lift (pc' := 34) (fun _ => zq_aload_n rfl rfl dX7_addItem_33 rfl) ?_
    refine zx_lift (pc' := 37) (fun _ => zt_getI zfr_X7_54 (zfd_s_6 b0) dX7_addItem_34 rfl) ?_
    refine zx_lift (pc' := 38) (fun _ => zq_iconst (v := (-1)) dX7_addItem_37 rfl rfl) ?_
    refine zx_iastore (pc' := 39) (zsh_s4 b0) dX7_addItem_38 rfl (fun s3 => ?_)
    refine zx_lift (pc' := 40) (fun _ => zq_aload_n rfl rfl dX7_addItem_39 rfl) ?_
    refine zx_lift (pc' := 41) (fun _ => zq_dup rfl dX7_addItem_40 rfl) ?_
    refine zx_lift (pc' := 44) (fun _ => zt_getI zfr_X7_54 (zfd_s_6 b0) dX7_addItem_41 rfl) ?_
    refine zx_lift (pc' := 45) (fun _ => zq_iconst (v := 1) dX7_addItem_44 rfl rfl) ?_
    refine zx_lift (pc' := 46) (fun _ => zq_iadd dX7_addItem_45 rfl) ?_
    refine zx_putI (pc' := 49) zfr_X7_54 (fun _ => ⟨rfl, rfl⟩) (zfd_s_6 b0) dX7_addItem_46 rfl (fun s4 => ?_)
    refine zx_less [.null, .null] (zq_cz (zq_cz zq_cn)) ?_
    exact xX7_addItem_j49_j N b0 s4
theorem cX7_addItem_mc (N : Nat) (b0 : Bool) (p1 : Int32) (s : zq_S) (v : Unit × zq_S) (h : mX7_addItem N b0 p1 s = some v) : zq_MC yX7_addItem cX7_addItem 2 none ⟨0, 0, 0, 0⟩ 0 0 [.ref (zs b0), .int p1] (zq_en s) (zv_v v.1, zq_en v.2) := zq_MC_x [.ref (zs b0), .int p1] (by decide +kernel) rfl rfl (Nat.le_of_ble_eq_true rfl) (xX7_addItem N b0 p1 s) h
def mX5_go (N : Nat)  (p1 : Int32) (s : zq_S) : Option (Int32 × zq_S) :=
  zq_let (zpf s 26 4 p1) (fun s1 =>
  some ((0 : Int32), s1))
set_option maxRecDepth 20000 in
set_option maxHeartbeats 2000000 in
theorem xX5_go (N : Nat)  (p1 : Int32) (s : zq_S) : zq_X yX5_go RX5 cX5_go 2 (some .int) ⟨0, 0, 0, 0⟩ zv_i 0 [.ref 26, .int p1] [] s (mX5_go N p1 s) := by
  unfold mX5_go
  refine zx_lift (pc' := 1) (fun _ => zq_aload_n rfl rfl dX5_go_0 rfl) ?_
  refine zx_lift (pc' := 2) (fun _ => zq_iload_n rfl rfl dX5_go_1 rfl) ?_
  refine zx_putI (pc' := 5) zfr_X5_48 (fun _ => ⟨rfl, rfl⟩) zfd_26_4 dX5_go_2 rfl (fun s1 => ?_)
  refine zx_lift (pc' := 6) (fun _ => zq_iconst (v := 0) dX5_go_5 rfl rfl) ?_
  exact zx_iret rfl dX5_go_6
theorem cX5_go_mc (N : Nat)  (p1 : Int32) (s : zq_S) (v : Int32 × zq_S) (h : mX5_go N p1 s = some v) : zq_MC yX5_go cX5_go 2 (some .int) ⟨0, 0, 0, 0⟩ 0 0 [.ref 26, .int p1] (zq_en s) (zv_i v.1, zq_en v.2) := zq_MC_x [.ref 26, .int p1] (by decide +kernel) rfl rfl (Nat.le_of_ble_eq_true rfl) (xX5_go N p1 s) h
def bX5_isWithinArrow_2 (N : Nat)   (k43 : zq_S → Option (Int32 × zq_S)) (self : Int32 × zq_S → Option (Int32 × zq_S)) (v : Int32 × zq_S) : Option (Int32 × zq_S) :=
  if (zgf v.2 26 6) ≤ v.1 then
  k43 v.2
  else
  if (8 : Int32) ≤ v.1 then
  k43 v.2
  else
  zq_ck v.1 8 (
  zq_ck (zga v.2 28 v.1) 100 (
  if (zga v.2 (zs (zgb v.2 2) + 2) (zga v.2 28 v.1)) = (60 : Int32) then
  some ((1 : Int32), v.2)
  else
  zq_let (v.1 + (1 : Int32)) (fun x1 =>
  self (x1, v.2))))
set_option maxRecDepth 20000 in
set_option maxHeartbeats 2000000 in
theorem xX5_isWithinArrow_2 (N : Nat)   (k43 : zq_S → Option (Int32 × zq_S)) (hk43 : ∀ e, zq_X yX5_isWithinArrow RX5 cX5_isWithinArrow 2 (some .boolean) ⟨0, 0, 0, 0⟩ zv_i 43 [.null, .null] [] e (k43 e)) (self : Int32 × zq_S → Option (Int32 × zq_S)) (hself : ∀ v, zq_X yX5_isWithinArrow RX5 cX5_isWithinArrow 2 (some .boolean) ⟨0, 0, 0, 0⟩ zv_i 2 [.ref 26, .int v.1] [] v.2 (self v)) (v : Int32 × zq_S) : zq_X yX5_isWithinArrow RX5 cX5_isWithinArrow 2 (some .boolean) ⟨0, 0, 0, 0⟩ zv_i 2 [.ref 26, .int v.1] [] v.2 (bX5_isWithinArrow_2 N k43 self v) := by
  unfold bX5_isWithinArrow_2
  refine zx_lift (pc' := 3) (fun _ => zq_iload_n rfl rfl dX5_isWithinArrow_2 rfl) ?_
  refine zx_lift (pc' := 4) (fun _ => zq_aload_n rfl rfl dX5_isWithinArrow_3 rfl) ?_
  refine zx_lift (pc' := 7) (fun _ => zt_getI zfr_X5_51 zfd_26_6 dX5_isWithinArrow_4 rfl) ?_
  refine zx_icmp_ge (pc' := 10) (tgt := 43) dX5_isWithinArrow_7 rfl rfl (fun hc => ?_) (fun hc => ?_)
  · refine zx_less [.null, .null] (zq_cz (zq_cz zq_cn)) ?_
    exact hk43 v.2
  · refine zx_lift (pc' := 11) (fun _ => zq_iload_n rfl rfl dX5_isWithinArrow_10 rfl) ?_
    refine zx_lift (pc' := 13) (fun _ => zq_bipush (v := 8) dX5_isWithinArrow_11 rfl rfl) ?_
    refine zx_icmp_ge (pc' := 16) (tgt := 43) dX5_isWithinArrow_13 rfl rfl (fun hc => ?_) (fun hc => ?_)
    · refine zx_less [.null, .null] (zq_cz (zq_cz zq_cn)) ?_
      exact hk43 v.2
    · refine zx_lift (pc' := 17) (fun _ => zq_aload_n rfl rfl dX5_isWithinArrow_16 rfl) ?_
      refine zx_lift (pc' := 20) (fun _ => zt_getP zfr_X5_29 zfd_26_3 dX5_isWithinArrow_17 rfl) ?_
      refine zx_lift (pc' := 23) (fun _ => zt_getR zfr_X5_130 (zfd_s_3 (zgb v.2 2)) dX5_isWithinArrow_20 rfl) ?_
      refine zx_lift (pc' := 24) (fun _ => zq_aload_n rfl rfl dX5_isWithinArrow_23 rfl) ?_
      refine zx_lift (pc' := 27) (fun _ => zt_getR zfr_X5_19 zfd_26_5 dX5_isWithinArrow_24 rfl) ?_
      refine zx_lift (pc' := 28) (fun _ => zq_iload_n rfl rfl dX5_isWithinArrow_27 rfl) ?_
      refine zx_iaload (pc' := 29) zsh_28 dX5_isWithinArrow_28 rfl ?_
      refine zx_iaload (pc' := 30) (zsh_s2 (zgb v.2 2)) dX5_isWithinArrow_29 rfl ?_
      refine zx_lift (pc' := 32) (fun _ => zq_bipush (v := 60) dX5_isWithinArrow_30 rfl rfl) ?_
      refine zx_icmp_ne (pc' := 35) (tgt := 37) dX5_isWithinArrow_32 rfl rfl (fun hc => ?_) (fun hc => ?_)
      · refine zx_iinc (pc' := 40) (ls' := fun x1 => [.ref 26, .int x1]) rfl rfl (by decide) rfl (fun _ => rfl) dX5_isWithinArrow_37 rfl (fun x1 => ?_)
        refine zx_lift (pc' := 2) (fun _ => zq_goto dX5_isWithinArrow_40 rfl) ?_
        exact hself (x1, v.2)
      · refine zx_lift (pc' := 36) (fun _ => zq_iconst (v := 1) dX5_isWithinArrow_35 rfl rfl) ?_
        exact zx_zret rfl (by decide) dX5_isWithinArrow_36
theorem yX5_isWithinArrow_2 (N : Nat)   (k43 : zq_S → Option (Int32 × zq_S)) (hk43 : ∀ e, zq_X yX5_isWithinArrow RX5 cX5_isWithinArrow 2 (some .boolean) ⟨0, 0, 0, 0⟩ zv_i 43 [.null, .null] [] e (k43 e)) (n : Nat) : ∀ v : Int32 × zq_S, zq_X yX5_isWithinArrow RX5 cX5_isWithinArrow 2 (some .boolean) ⟨0, 0, 0, 0⟩ zv_i 2 [.ref 26, .int v.1] [] v.2 (zq_loop (bX5_isWithinArrow_2 N k43) n v) := by
  induction n with
  | zero => exact fun v u hu => by cases hu
  | succ n ih =>
    intro v
    rw [zq_loop_s]
    exact xX5_isWithinArrow_2 N k43 hk43 (zq_loop (bX5_isWithinArrow_2 N k43) n) ih v
def jX5_isWithinArrow_j43 (N : Nat)    (s : zq_S) : Option (Int32 × zq_S) :=
  some ((0 : Int32), s)
set_option maxRecDepth 20000 in
set_option maxHeartbeats 2000000 in
theorem xX5_isWithinArrow_j43_j (N : Nat)    (s : zq_S) : zq_X yX5_isWithinArrow RX5 cX5_isWithinArrow 2 (some .boolean) ⟨0, 0, 0, 0⟩ zv_i 43 [.null, .null] [] s (jX5_isWithinArrow_j43 N s) := by
  unfold jX5_isWithinArrow_j43
  refine zx_lift (pc' := 44) (fun _ => zq_iconst (v := 0) dX5_isWithinArrow_43 rfl rfl) ?_
  exact zx_zret rfl (by decide) dX5_isWithinArrow_44
def mX5_isWithinArrow (N : Nat)   (s : zq_S) : Option (Int32 × zq_S) :=
  zq_loop (bX5_isWithinArrow_2 N (fun e2 =>
  jX5_isWithinArrow_j43 N e2)) N ((0 : Int32), s)
set_option maxRecDepth 20000 in
set_option maxHeartbeats 2000000 in
theorem xX5_isWithinArrow (N : Nat)   (s : zq_S) : zq_X yX5_isWithinArrow RX5 cX5_isWithinArrow 2 (some .boolean) ⟨0, 0, 0, 0⟩ zv_i 0 [.ref 26, .null] [] s (mX5_isWithinArrow N s) := by
  unfold mX5_isWithinArrow
  refine zx_lift (pc' := 1) (fun _ => zq_iconst (v := 0) dX5_isWithinArrow_0 rfl rfl) ?_
  refine zx_lift (pc' := 2) (fun _ => zq_istore_n (ls' := [.ref 26, .int (0 : Int32)]) rfl (by decide) rfl rfl dX5_isWithinArrow_1 rfl) ?_
  refine yX5_isWithinArrow_2 N _ (fun e2 => ?_) N ((0 : Int32), s)
  exact xX5_isWithinArrow_j43_j N e2
theorem cX5_isWithinArrow_mc (N : Nat)   (s : zq_S) (v : Int32 × zq_S) (h : mX5_isWithinArrow N s = some v) : zq_MC yX5_isWithinArrow cX5_isWithinArrow 2 (some .boolean) ⟨0, 0, 0, 0⟩ 0 0 [.ref 26] (zq_en s) (zv_i v.1, zq_en v.2) := zq_MC_x [.ref 26, .null] (by decide +kernel) rfl rfl (Nat.le_of_ble_eq_true rfl) (xX5_isWithinArrow N s) h
