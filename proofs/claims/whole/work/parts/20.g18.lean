def jX12_findMarks_j331 (N : Nat)    (self : Int32 × Int32 × Int32 × Int32 × zq_S → Option (Unit × zq_S)) (w1 : Int32) (w2 : Int32) (w3 : Int32) (w4 : Int32) (s : zq_S) : Option (Unit × zq_S) :=
  zq_let (w4 + (1 : Int32)) (fun x12 =>
  self (w1, w2, w3, x12, s))
set_option maxRecDepth 20000 in
set_option maxHeartbeats 2000000 in
theorem xX12_findMarks_j331_j (N : Nat)    (self : Int32 × Int32 × Int32 × Int32 × zq_S → Option (Unit × zq_S)) (hself : ∀ v, zq_X yX12_findMarks RX12 cX12_findMarks 6 none ⟨1, 0, 0, 24⟩ zv_v 9 [.ref 57, .int v.1, .int v.2.1, .int v.2.2.1, .int v.2.2.2.1, .null] [] v.2.2.2.2 (self v)) (w1 : Int32) (w2 : Int32) (w3 : Int32) (w4 : Int32) (s : zq_S) : zq_X yX12_findMarks RX12 cX12_findMarks 6 none ⟨1, 0, 0, 24⟩ zv_v 331 [.ref 57, .int w1, .int w2, .int w3, .int w4, .null] [] s (jX12_findMarks_j331 N self w1 w2 w3 w4 s) := by
  unfold jX12_findMarks_j331
  refine zx_iinc (pc' := 334) (ls' := fun x12 => [.ref 57, .int w1, .int w2, .int w3, .int x12, .null]) rfl rfl (by decide) rfl (fun _ => rfl) dX12_findMarks_331 rfl (fun x12 => ?_)
  refine zx_lift (pc' := 9) (fun _ => zq_goto dX12_findMarks_334 rfl) ?_
  exact hself (w1, w2, w3, x12, s)
def jX12_findMarks_j268 (N : Nat)    (self : Int32 × Int32 × Int32 × Int32 × zq_S → Option (Unit × zq_S)) (w1 : Int32) (w2 : Int32) (w3 : Int32) (w4 : Int32) (w5 : Int32) (s : zq_S) : Option (Unit × zq_S) :=
  zq_let (if w5 = (6 : Int32) then (-1 : Int32) else w3) (fun x11 =>
  if w5 = (7 : Int32) then
  zq_ck w4 400 (
  zq_let (if x11 < (0 : Int32) then (0 : Int32) else ((1 : Int32) <<< (x11 &&& 31))) (fun x13 =>
  zq_b2 (mX12_setMark N (zga s 60 w4) (4 : Int32) (w1 ||| x13) w2 s) (fun r14 s15 =>
  zq_ck w4 400 (
  zq_ck (zga s15 60 w4) 10 (
  zq_let (zpa s15 66 (zga s15 60 w4) (1 : Int32)) (fun s16 =>
  zq_ck w4 400 (
  zq_let (zga s16 60 w4) (fun x17 =>
  jX12_findMarks_j331 N self w1 w2 x17 w4 s16))))))))
  else
  jX12_findMarks_j331 N self w1 w2 x11 w4 s)
set_option maxRecDepth 20000 in
set_option maxHeartbeats 2000000 in
theorem xX12_findMarks_j268_j (N : Nat)    (self : Int32 × Int32 × Int32 × Int32 × zq_S → Option (Unit × zq_S)) (hself : ∀ v, zq_X yX12_findMarks RX12 cX12_findMarks 6 none ⟨1, 0, 0, 24⟩ zv_v 9 [.ref 57, .int v.1, .int v.2.1, .int v.2.2.1, .int v.2.2.2.1, .null] [] v.2.2.2.2 (self v)) (w1 : Int32) (w2 : Int32) (w3 : Int32) (w4 : Int32) (w5 : Int32) (s : zq_S) : zq_X yX12_findMarks RX12 cX12_findMarks 6 none ⟨1, 0, 0, 24⟩ zv_v 268 [.ref 57, .int w1, .int w2, .int w3, .int w4, .int w5] [] s (jX12_findMarks_j268 N self w1 w2 w3 w4 w5 s) := by
  unfold jX12_findMarks_j268
  refine zx_lift (pc' := 270) (fun _ => zq_iload rfl dX12_findMarks_268 rfl) ?_
  refine zx_lift (pc' := 272) (fun _ => zq_bipush (v := 6) dX12_findMarks_270 rfl rfl) ?_
  refine zx_tern (pcJ := 277) (lsJ := fun x11 => [.ref 57, .int w1, .int w2, .int x11, .int w4, .int w5]) (stJ := fun x11 => []) (fun x11 => ?_) (fun f hJ => ?_)
  rotate_left
  · refine zx_licmp_ne (pc' := 275) (tgt := 277) dX12_findMarks_272 rfl rfl (fun _ => ?_) (fun _ => ?_)
    · exact zx_lessJ (zq_cr (zq_cr (zq_cr (zq_cr (zq_cr (zq_cr zq_cn)))))) (hJ _)
    · refine zx_lift (pc' := 276) (fun _ => zq_iconst (v := (-1)) dX12_findMarks_275 rfl rfl) ?_
      refine zx_lift (pc' := 277) (fun _ => zq_istore_n (ls' := [.ref 57, .int w1, .int w2, .int (-1 : Int32), .int w4, .int w5]) rfl (by decide) rfl rfl dX12_findMarks_276 rfl) ?_
      exact zx_lessJ (zq_cr (zq_cr (zq_cr (zq_cr (zq_cr (zq_cr zq_cn)))))) (hJ _)
  refine zx_lift (pc' := 279) (fun _ => zq_iload rfl dX12_findMarks_277 rfl) ?_
  refine zx_lift (pc' := 281) (fun _ => zq_bipush (v := 7) dX12_findMarks_279 rfl rfl) ?_
  refine zx_icmp_ne (pc' := 284) (tgt := 331) dX12_findMarks_281 rfl rfl (fun hc => ?_) (fun hc => ?_)
  · refine zx_less [.ref 57, .int w1, .int w2, .int x11, .int w4, .null] (zq_cr (zq_cr (zq_cr (zq_cr (zq_cr (zq_cz zq_cn)))))) ?_
    exact xX12_findMarks_j331_j N self hself w1 w2 x11 w4 s
  · refine zx_lift (pc' := 285) (fun _ => zq_aload_n rfl rfl dX12_findMarks_284 rfl) ?_
    refine zx_lift (pc' := 286) (fun _ => zq_aload_n rfl rfl dX12_findMarks_285 rfl) ?_
    refine zx_lift (pc' := 289) (fun _ => zt_getR zfr_X12_16 zfd_57_3 dX12_findMarks_286 rfl) ?_
    refine zx_lift (pc' := 291) (fun _ => zq_iload rfl dX12_findMarks_289 rfl) ?_
    refine zx_iaload (pc' := 292) zsh_60 dX12_findMarks_291 rfl ?_
    refine zx_lift (pc' := 293) (fun _ => zq_iconst (v := 4) dX12_findMarks_292 rfl rfl) ?_
    refine zx_lift (pc' := 294) (fun _ => zq_iload_n rfl rfl dX12_findMarks_293 rfl) ?_
    refine zx_lift (pc' := 295) (fun _ => zq_iload_n rfl rfl dX12_findMarks_294 rfl) ?_
    refine zx_tern (pcJ := 305) (lsJ := fun x13 => [.ref 57, .int w1, .int w2, .null, .int w4, .null]) (stJ := fun x13 => [.int x13, .int w1, .int (4 : Int32), .int (zga s 60 w4), .ref 57]) (fun x13 => ?_) (fun f hJ => ?_)
    rotate_left
    · refine zx_lif_lt (pc' := 298) (tgt := 304) dX12_findMarks_295 rfl rfl (fun _ => ?_) (fun _ => ?_)
      · refine zx_lift (pc' := 305) (fun _ => zq_iconst (v := 0) dX12_findMarks_304 rfl rfl) ?_
        exact zx_lessJ (zq_cr (zq_cr (zq_cr (zq_cz (zq_cr (zq_cz zq_cn)))))) (hJ _)
      · refine zx_lift (pc' := 299) (fun _ => zq_iconst (v := 1) dX12_findMarks_298 rfl rfl) ?_
        refine zx_lift (pc' := 300) (fun _ => zq_iload_n rfl rfl dX12_findMarks_299 rfl) ?_
        refine zx_lift (pc' := 301) (fun _ => zq_ishl dX12_findMarks_300 rfl) ?_
        refine zx_lift (pc' := 305) (fun _ => zq_goto dX12_findMarks_301 rfl) ?_
        exact zx_lessJ (zq_cr (zq_cr (zq_cr (zq_cz (zq_cr (zq_cz zq_cn)))))) (hJ _)
    refine zx_lift (pc' := 306) (fun _ => zq_ior dX12_findMarks_305 rfl) ?_
    refine zx_lift (pc' := 307) (fun _ => zq_iload_n rfl rfl dX12_findMarks_306 rfl) ?_
    refine zx_cVv (pc' := 310) zcv_X12_255 (cX12_setMark_mc N (zga s 60 w4) (4 : Int32) (w1 ||| x13) w2 s) zob_57 rfl (by decide) (Nat.le_of_ble_eq_true rfl) dX12_findMarks_307 rfl rfl (fun r14 s15 => ?_)
    refine zx_lift (pc' := 311) (fun _ => zq_aload_n rfl rfl dX12_findMarks_310 rfl) ?_
    refine zx_lift (pc' := 314) (fun _ => zt_getR zfr_X12_34 zfd_57_11 dX12_findMarks_311 rfl) ?_
    refine zx_lift (pc' := 315) (fun _ => zq_aload_n rfl rfl dX12_findMarks_314 rfl) ?_
    refine zx_lift (pc' := 318) (fun _ => zt_getR zfr_X12_16 zfd_57_3 dX12_findMarks_315 rfl) ?_
    refine zx_lift (pc' := 320) (fun _ => zq_iload rfl dX12_findMarks_318 rfl) ?_
    refine zx_iaload (pc' := 321) zsh_60 dX12_findMarks_320 rfl ?_
    refine zx_lift (pc' := 322) (fun _ => zq_iconst (v := 1) dX12_findMarks_321 rfl rfl) ?_
    refine zx_iastore (pc' := 323) zsh_66 dX12_findMarks_322 rfl (fun s16 => ?_)
    refine zx_lift (pc' := 324) (fun _ => zq_aload_n rfl rfl dX12_findMarks_323 rfl) ?_
    refine zx_lift (pc' := 327) (fun _ => zt_getR zfr_X12_16 zfd_57_3 dX12_findMarks_324 rfl) ?_
    refine zx_lift (pc' := 329) (fun _ => zq_iload rfl dX12_findMarks_327 rfl) ?_
    refine zx_iaload (pc' := 330) zsh_60 dX12_findMarks_329 rfl ?_
    refine zx_istore_n (pc' := 331) (ls' := fun x17 => [.ref 57, .int w1, .int w2, .int x17, .int w4, .null]) rfl (by decide) rfl (fun _ => rfl) dX12_findMarks_330 rfl (fun x17 => ?_)
    exact xX12_findMarks_j331_j N self hself w1 w2 x17 w4 s16
def jX12_findMarks_j246 (N : Nat)    (self : Int32 × Int32 × Int32 × Int32 × zq_S → Option (Unit × zq_S)) (w1 : Int32) (w2 : Int32) (w3 : Int32) (w4 : Int32) (w5 : Int32) (s : zq_S) : Option (Unit × zq_S) :=
  if w5 = (5 : Int32) then
  zq_ck w4 400 (
  zq_ck (zga s 59 w4) 10 (
  zq_ck (zga s 59 w4) 10 (
  zq_let (zpa s 64 (zga s 59 w4) ((zga s 64 (zga s 59 w4)) ||| w1)) (fun s18 =>
  jX12_findMarks_j268 N self w1 w2 w3 w4 w5 s18))))
  else
  jX12_findMarks_j268 N self w1 w2 w3 w4 w5 s
set_option maxRecDepth 20000 in
set_option maxHeartbeats 2000000 in
theorem xX12_findMarks_j246_j (N : Nat)    (self : Int32 × Int32 × Int32 × Int32 × zq_S → Option (Unit × zq_S)) (hself : ∀ v, zq_X yX12_findMarks RX12 cX12_findMarks 6 none ⟨1, 0, 0, 24⟩ zv_v 9 [.ref 57, .int v.1, .int v.2.1, .int v.2.2.1, .int v.2.2.2.1, .null] [] v.2.2.2.2 (self v)) (w1 : Int32) (w2 : Int32) (w3 : Int32) (w4 : Int32) (w5 : Int32) (s : zq_S) : zq_X yX12_findMarks RX12 cX12_findMarks 6 none ⟨1, 0, 0, 24⟩ zv_v 246 [.ref 57, .int w1, .int w2, .int w3, .int w4, .int w5] [] s (jX12_findMarks_j246 N self w1 w2 w3 w4 w5 s) := by
  unfold jX12_findMarks_j246
  refine zx_lift (pc' := 248) (fun _ => zq_iload rfl dX12_findMarks_246 rfl) ?_
  refine zx_lift (pc' := 249) (fun _ => zq_iconst (v := 5) dX12_findMarks_248 rfl rfl) ?_
  refine zx_icmp_ne (pc' := 252) (tgt := 268) dX12_findMarks_249 rfl rfl (fun hc => ?_) (fun hc => ?_)
  · exact xX12_findMarks_j268_j N self hself w1 w2 w3 w4 w5 s
  · refine zx_lift (pc' := 253) (fun _ => zq_aload_n rfl rfl dX12_findMarks_252 rfl) ?_
    refine zx_lift (pc' := 256) (fun _ => zt_getR zfr_X12_28 zfd_57_9 dX12_findMarks_253 rfl) ?_
    refine zx_lift (pc' := 257) (fun _ => zq_aload_n rfl rfl dX12_findMarks_256 rfl) ?_
    refine zx_lift (pc' := 260) (fun _ => zt_getR zfr_X12_13 zfd_57_2 dX12_findMarks_257 rfl) ?_
    refine zx_lift (pc' := 262) (fun _ => zq_iload rfl dX12_findMarks_260 rfl) ?_
    refine zx_iaload (pc' := 263) zsh_59 dX12_findMarks_262 rfl ?_
    refine zx_lift (pc' := 264) (fun _ => zq_dup2 rfl rfl dX12_findMarks_263 rfl) ?_
    refine zx_iaload (pc' := 265) zsh_64 dX12_findMarks_264 rfl ?_
    refine zx_lift (pc' := 266) (fun _ => zq_iload_n rfl rfl dX12_findMarks_265 rfl) ?_
    refine zx_lift (pc' := 267) (fun _ => zq_ior dX12_findMarks_266 rfl) ?_
    refine zx_iastore (pc' := 268) zsh_64 dX12_findMarks_267 rfl (fun s18 => ?_)
    exact xX12_findMarks_j268_j N self hself w1 w2 w3 w4 w5 s18
def jX12_findMarks_j241 (N : Nat)    (self : Int32 × Int32 × Int32 × Int32 × zq_S → Option (Unit × zq_S)) (w2 : Int32) (w3 : Int32) (w4 : Int32) (w5 : Int32) (t0 : Int32) (t1 : Int32) (s : zq_S) : Option (Unit × zq_S) :=
  zq_let (t1 &&& t0) (fun x19 =>
  zq_let (w2 + (-1 : Int32)) (fun x20 =>
  jX12_findMarks_j246 N self x19 x20 w3 w4 w5 s))
set_option maxRecDepth 20000 in
set_option maxHeartbeats 2000000 in
theorem xX12_findMarks_j241_j (N : Nat)    (self : Int32 × Int32 × Int32 × Int32 × zq_S → Option (Unit × zq_S)) (hself : ∀ v, zq_X yX12_findMarks RX12 cX12_findMarks 6 none ⟨1, 0, 0, 24⟩ zv_v 9 [.ref 57, .int v.1, .int v.2.1, .int v.2.2.1, .int v.2.2.2.1, .null] [] v.2.2.2.2 (self v)) (w2 : Int32) (w3 : Int32) (w4 : Int32) (w5 : Int32) (t0 : Int32) (t1 : Int32) (s : zq_S) : zq_X yX12_findMarks RX12 cX12_findMarks 6 none ⟨1, 0, 0, 24⟩ zv_v 241 [.ref 57, .null, .int w2, .int w3, .int w4, .int w5] [.int t0, .int t1] s (jX12_findMarks_j241 N self w2 w3 w4 w5 t0 t1 s) := by
  unfold jX12_findMarks_j241
  refine zx_lift (pc' := 242) (fun _ => zq_iand dX12_findMarks_241 rfl) ?_
  refine zx_istore_n (pc' := 243) (ls' := fun x19 => [.ref 57, .int x19, .int w2, .int w3, .int w4, .int w5]) rfl (by decide) rfl (fun _ => rfl) dX12_findMarks_242 rfl (fun x19 => ?_)
  refine zx_iinc (pc' := 246) (ls' := fun x20 => [.ref 57, .int x19, .int x20, .int w3, .int w4, .int w5]) rfl rfl (by decide) rfl (fun _ => rfl) dX12_findMarks_243 rfl (fun x20 => ?_)
  exact xX12_findMarks_j246_j N self hself x19 x20 w3 w4 w5 s
def jX12_findMarks_j203 (N : Nat)    (self : Int32 × Int32 × Int32 × Int32 × zq_S → Option (Unit × zq_S)) (w1 : Int32) (w2 : Int32) (w3 : Int32) (w4 : Int32) (w5 : Int32) (s : zq_S) : Option (Unit × zq_S) :=
  if w5 = (4 : Int32) then
  zq_ck w4 400 (
  if (zga s 59 w4) = (1 : Int32) then
  zq_ck w4 400 (
  zq_ck (zga s 61 w4) 400 (
  jX12_findMarks_j241 N self w2 w3 w4 w5 (((1 : Int32) <<< ((zga s 59 (zga s 61 w4)) &&& 31)) ^^^ (-1 : Int32)) w1 s))
  else
  jX12_findMarks_j241 N self w2 w3 w4 w5 (-1 : Int32) w1 s)
  else
  jX12_findMarks_j246 N self w1 w2 w3 w4 w5 s
set_option maxRecDepth 20000 in
set_option maxHeartbeats 2000000 in
theorem xX12_findMarks_j203_j (N : Nat)    (self : Int32 × Int32 × Int32 × Int32 × zq_S → Option (Unit × zq_S)) (hself : ∀ v, zq_X yX12_findMarks RX12 cX12_findMarks 6 none ⟨1, 0, 0, 24⟩ zv_v 9 [.ref 57, .int v.1, .int v.2.1, .int v.2.2.1, .int v.2.2.2.1, .null] [] v.2.2.2.2 (self v)) (w1 : Int32) (w2 : Int32) (w3 : Int32) (w4 : Int32) (w5 : Int32) (s : zq_S) : zq_X yX12_findMarks RX12 cX12_findMarks 6 none ⟨1, 0, 0, 24⟩ zv_v 203 [.ref 57, .int w1, .int w2, .int w3, .int w4, .int w5] [] s (jX12_findMarks_j203 N self w1 w2 w3 w4 w5 s) := by
  unfold jX12_findMarks_j203
  refine zx_lift (pc' := 205) (fun _ => zq_iload rfl dX12_findMarks_203 rfl) ?_
  refine zx_lift (pc' := 206) (fun _ => zq_iconst (v := 4) dX12_findMarks_205 rfl rfl) ?_
  refine zx_icmp_ne (pc' := 209) (tgt := 246) dX12_findMarks_206 rfl rfl (fun hc => ?_) (fun hc => ?_)
  · exact xX12_findMarks_j246_j N self hself w1 w2 w3 w4 w5 s
  · refine zx_lift (pc' := 210) (fun _ => zq_iload_n rfl rfl dX12_findMarks_209 rfl) ?_
    refine zx_lift (pc' := 211) (fun _ => zq_aload_n rfl rfl dX12_findMarks_210 rfl) ?_
    refine zx_lift (pc' := 214) (fun _ => zt_getR zfr_X12_13 zfd_57_2 dX12_findMarks_211 rfl) ?_
    refine zx_lift (pc' := 216) (fun _ => zq_iload rfl dX12_findMarks_214 rfl) ?_
    refine zx_iaload (pc' := 217) zsh_59 dX12_findMarks_216 rfl ?_
    refine zx_lift (pc' := 218) (fun _ => zq_iconst (v := 1) dX12_findMarks_217 rfl rfl) ?_
    refine zx_icmp_ne (pc' := 221) (tgt := 240) dX12_findMarks_218 rfl rfl (fun hc => ?_) (fun hc => ?_)
    · refine zx_lift (pc' := 241) (fun _ => zq_iconst (v := (-1)) dX12_findMarks_240 rfl rfl) ?_
      refine zx_less [.ref 57, .null, .int w2, .int w3, .int w4, .int w5] (zq_cr (zq_cz (zq_cr (zq_cr (zq_cr (zq_cr zq_cn)))))) ?_
      exact xX12_findMarks_j241_j N self hself w2 w3 w4 w5 (-1 : Int32) w1 s
    · refine zx_lift (pc' := 222) (fun _ => zq_iconst (v := 1) dX12_findMarks_221 rfl rfl) ?_
      refine zx_lift (pc' := 223) (fun _ => zq_aload_n rfl rfl dX12_findMarks_222 rfl) ?_
      refine zx_lift (pc' := 226) (fun _ => zt_getR zfr_X12_13 zfd_57_2 dX12_findMarks_223 rfl) ?_
      refine zx_lift (pc' := 227) (fun _ => zq_aload_n rfl rfl dX12_findMarks_226 rfl) ?_
      refine zx_lift (pc' := 230) (fun _ => zt_getR zfr_X12_19 zfd_57_4 dX12_findMarks_227 rfl) ?_
      refine zx_lift (pc' := 232) (fun _ => zq_iload rfl dX12_findMarks_230 rfl) ?_
      refine zx_iaload (pc' := 233) zsh_61 dX12_findMarks_232 rfl ?_
      refine zx_iaload (pc' := 234) zsh_59 dX12_findMarks_233 rfl ?_
      refine zx_lift (pc' := 235) (fun _ => zq_ishl dX12_findMarks_234 rfl) ?_
      refine zx_lift (pc' := 236) (fun _ => zq_iconst (v := (-1)) dX12_findMarks_235 rfl rfl) ?_
      refine zx_lift (pc' := 237) (fun _ => zq_ixor dX12_findMarks_236 rfl) ?_
      refine zx_lift (pc' := 241) (fun _ => zq_goto dX12_findMarks_237 rfl) ?_
      refine zx_less [.ref 57, .null, .int w2, .int w3, .int w4, .int w5] (zq_cr (zq_cz (zq_cr (zq_cr (zq_cr (zq_cr zq_cn)))))) ?_
      exact xX12_findMarks_j241_j N self hself w2 w3 w4 w5 (((1 : Int32) <<< ((zga s 59 (zga s 61 w4)) &&& 31)) ^^^ (-1 : Int32)) w1 s
def jX12_findMarks_j198 (N : Nat)    (self : Int32 × Int32 × Int32 × Int32 × zq_S → Option (Unit × zq_S)) (w2 : Int32) (w3 : Int32) (w4 : Int32) (w5 : Int32) (t0 : Int32) (t1 : Int32) (s : zq_S) : Option (Unit × zq_S) :=
  zq_let (t1 ||| t0) (fun x9 =>
  zq_let (w2 + (1 : Int32)) (fun x10 =>
  jX12_findMarks_j203 N self x9 x10 w3 w4 w5 s))
set_option maxRecDepth 20000 in
set_option maxHeartbeats 2000000 in
theorem xX12_findMarks_j198_j (N : Nat)    (self : Int32 × Int32 × Int32 × Int32 × zq_S → Option (Unit × zq_S)) (hself : ∀ v, zq_X yX12_findMarks RX12 cX12_findMarks 6 none ⟨1, 0, 0, 24⟩ zv_v 9 [.ref 57, .int v.1, .int v.2.1, .int v.2.2.1, .int v.2.2.2.1, .null] [] v.2.2.2.2 (self v)) (w2 : Int32) (w3 : Int32) (w4 : Int32) (w5 : Int32) (t0 : Int32) (t1 : Int32) (s : zq_S) : zq_X yX12_findMarks RX12 cX12_findMarks 6 none ⟨1, 0, 0, 24⟩ zv_v 198 [.ref 57, .null, .int w2, .int w3, .int w4, .int w5] [.int t0, .int t1] s (jX12_findMarks_j198 N self w2 w3 w4 w5 t0 t1 s) := by
  unfold jX12_findMarks_j198
  refine zx_lift (pc' := 199) (fun _ => zq_ior dX12_findMarks_198 rfl) ?_
  refine zx_istore_n (pc' := 200) (ls' := fun x9 => [.ref 57, .int x9, .int w2, .int w3, .int w4, .int w5]) rfl (by decide) rfl (fun _ => rfl) dX12_findMarks_199 rfl (fun x9 => ?_)
  refine zx_iinc (pc' := 203) (ls' := fun x10 => [.ref 57, .int x9, .int x10, .int w3, .int w4, .int w5]) rfl rfl (by decide) rfl (fun _ => rfl) dX12_findMarks_200 rfl (fun x10 => ?_)
  exact xX12_findMarks_j203_j N self hself x9 x10 w3 w4 w5 s
def jX12_findMarks_j178 (N : Nat)    (self : Int32 × Int32 × Int32 × Int32 × zq_S → Option (Unit × zq_S)) (w1 : Int32) (w2 : Int32) (w3 : Int32) (w4 : Int32) (w5 : Int32) (s : zq_S) : Option (Unit × zq_S) :=
  if w5 = (1 : Int32) then
  zq_ck w4 400 (
  jX12_findMarks_j198 N self w2 w3 w4 w5 ((1 : Int32) <<< ((zga s 59 w4) &&& 31)) w1 s)
  else
  jX12_findMarks_j198 N self w2 w3 w4 w5 (0 : Int32) w1 s
set_option maxRecDepth 20000 in
set_option maxHeartbeats 2000000 in
theorem xX12_findMarks_j178_j (N : Nat)    (self : Int32 × Int32 × Int32 × Int32 × zq_S → Option (Unit × zq_S)) (hself : ∀ v, zq_X yX12_findMarks RX12 cX12_findMarks 6 none ⟨1, 0, 0, 24⟩ zv_v 9 [.ref 57, .int v.1, .int v.2.1, .int v.2.2.1, .int v.2.2.2.1, .null] [] v.2.2.2.2 (self v)) (w1 : Int32) (w2 : Int32) (w3 : Int32) (w4 : Int32) (w5 : Int32) (s : zq_S) : zq_X yX12_findMarks RX12 cX12_findMarks 6 none ⟨1, 0, 0, 24⟩ zv_v 178 [.ref 57, .int w1, .int w2, .int w3, .int w4, .int w5] [] s (jX12_findMarks_j178 N self w1 w2 w3 w4 w5 s) := by
  unfold jX12_findMarks_j178
  refine zx_lift (pc' := 179) (fun _ => zq_iload_n rfl rfl dX12_findMarks_178 rfl) ?_
  refine zx_lift (pc' := 181) (fun _ => zq_iload rfl dX12_findMarks_179 rfl) ?_
  refine zx_lift (pc' := 182) (fun _ => zq_iconst (v := 1) dX12_findMarks_181 rfl rfl) ?_
  refine zx_icmp_ne (pc' := 185) (tgt := 197) dX12_findMarks_182 rfl rfl (fun hc => ?_) (fun hc => ?_)
  · refine zx_lift (pc' := 198) (fun _ => zq_iconst (v := 0) dX12_findMarks_197 rfl rfl) ?_
    refine zx_less [.ref 57, .null, .int w2, .int w3, .int w4, .int w5] (zq_cr (zq_cz (zq_cr (zq_cr (zq_cr (zq_cr zq_cn)))))) ?_
    exact xX12_findMarks_j198_j N self hself w2 w3 w4 w5 (0 : Int32) w1 s
  · refine zx_lift (pc' := 186) (fun _ => zq_iconst (v := 1) dX12_findMarks_185 rfl rfl) ?_
    refine zx_lift (pc' := 187) (fun _ => zq_aload_n rfl rfl dX12_findMarks_186 rfl) ?_
    refine zx_lift (pc' := 190) (fun _ => zt_getR zfr_X12_13 zfd_57_2 dX12_findMarks_187 rfl) ?_
    refine zx_lift (pc' := 192) (fun _ => zq_iload rfl dX12_findMarks_190 rfl) ?_
    refine zx_iaload (pc' := 193) zsh_59 dX12_findMarks_192 rfl ?_
    refine zx_lift (pc' := 194) (fun _ => zq_ishl dX12_findMarks_193 rfl) ?_
    refine zx_lift (pc' := 198) (fun _ => zq_goto dX12_findMarks_194 rfl) ?_
    refine zx_less [.ref 57, .null, .int w2, .int w3, .int w4, .int w5] (zq_cr (zq_cz (zq_cr (zq_cr (zq_cr (zq_cr zq_cn)))))) ?_
    exact xX12_findMarks_j198_j N self hself w2 w3 w4 w5 ((1 : Int32) <<< ((zga s 59 w4) &&& 31)) w1 s
def jX12_findMarks_j45 (N : Nat)    (self : Int32 × Int32 × Int32 × Int32 × zq_S → Option (Unit × zq_S)) (w1 : Int32) (w2 : Int32) (w3 : Int32) (w4 : Int32) (w5 : Int32) (s : zq_S) : Option (Unit × zq_S) :=
  zq_ck w4 400 (
  zq_let (if w5 = (1 : Int32) then (0 : Int32) else (if w5 = (2 : Int32) then (1 : Int32) else (3 : Int32))) (fun x2 =>
  zq_b2 (mX12_setMark N (zga s 59 w4) x2 w1 w2 s) (fun r3 s4 =>
  zq_ck w4 400 (
  zq_ck (zga s4 59 w4) 10 (
  zq_let (zpa s4 68 (zga s4 59 w4) w4) (fun s5 =>
  zq_ck w4 400 (
  zq_ck w4 400 (
  zq_b2 (mX12_wordsIn N (w4 + (1 : Int32)) (zga s5 61 w4) s5) (fun r6 s7 =>
  zq_ck (zga s5 59 w4) 10 (
  zq_let (zpa s7 66 (zga s5 59 w4) r6) (fun s8 =>
  zq_ck w4 400 (
  if (zga s8 60 w4) < (0 : Int32) then
  jX12_findMarks_j178 N self w1 w2 w3 w4 w5 s8
  else
  zq_ck w4 400 (
  zq_ck w4 400 (
  zq_b2 (mX12_setMark N (zga s8 60 w4) (2 : Int32) (w1 ||| ((1 : Int32) <<< ((zga s8 59 w4) &&& 31))) w2 s8) (fun r21 s22 =>
  zq_ck w4 400 (
  zq_ck w4 400 (
  zq_ck (zga s22 59 w4) 10 (
  zq_ck (zga s22 60 w4) 10 (
  zq_let (zpa s22 66 (zga s22 60 w4) (zga s22 66 (zga s22 59 w4))) (fun s23 =>
  jX12_findMarks_j178 N self w1 w2 w3 w4 w5 s23))))))))))))))))))))
set_option maxRecDepth 20000 in
set_option maxHeartbeats 2000000 in
theorem xX12_findMarks_j45_j (N : Nat)    (self : Int32 × Int32 × Int32 × Int32 × zq_S → Option (Unit × zq_S)) (hself : ∀ v, zq_X yX12_findMarks RX12 cX12_findMarks 6 none ⟨1, 0, 0, 24⟩ zv_v 9 [.ref 57, .int v.1, .int v.2.1, .int v.2.2.1, .int v.2.2.2.1, .null] [] v.2.2.2.2 (self v)) (w1 : Int32) (w2 : Int32) (w3 : Int32) (w4 : Int32) (w5 : Int32) (s : zq_S) : zq_X yX12_findMarks RX12 cX12_findMarks 6 none ⟨1, 0, 0, 24⟩ zv_v 45 [.ref 57, .int w1, .int w2, .int w3, .int w4, .int w5] [] s (jX12_findMarks_j45 N self w1 w2 w3 w4 w5 s) := by
  unfold jX12_findMarks_j45
  refine zx_lift (pc' := 46) (fun _ => zq_aload_n rfl rfl dX12_findMarks_45 rfl) ?_
  refine zx_lift (pc' := 47) (fun _ => zq_aload_n rfl rfl dX12_findMarks_46 rfl) ?_
  refine zx_lift (pc' := 50) (fun _ => zt_getR zfr_X12_13 zfd_57_2 dX12_findMarks_47 rfl) ?_
  refine zx_lift (pc' := 52) (fun _ => zq_iload rfl dX12_findMarks_50 rfl) ?_
  refine zx_iaload (pc' := 53) zsh_59 dX12_findMarks_52 rfl ?_
  refine zx_lift (pc' := 55) (fun _ => zq_iload rfl dX12_findMarks_53 rfl) ?_
  refine zx_lift (pc' := 56) (fun _ => zq_iconst (v := 1) dX12_findMarks_55 rfl rfl) ?_
  refine zx_tern (pcJ := 74) (lsJ := fun x2 => [.ref 57, .int w1, .int w2, .int w3, .int w4, .int w5]) (stJ := fun x2 => [.int x2, .int (zga s 59 w4), .ref 57]) (fun x2 => ?_) (fun f hJ => ?_)
  rotate_left
  · refine zx_licmp_ne (pc' := 59) (tgt := 63) dX12_findMarks_56 rfl rfl (fun _ => ?_) (fun _ => ?_)
    · refine zx_lift (pc' := 65) (fun _ => zq_iload rfl dX12_findMarks_63 rfl) ?_
      refine zx_lift (pc' := 66) (fun _ => zq_iconst (v := 2) dX12_findMarks_65 rfl rfl) ?_
      refine zx_licmp_ne (pc' := 69) (tgt := 73) dX12_findMarks_66 rfl rfl (fun _ => ?_) (fun _ => ?_)
      · refine zx_lift (pc' := 74) (fun _ => zq_iconst (v := 3) dX12_findMarks_73 rfl rfl) ?_
        exact zx_lessJ (zq_cr (zq_cr (zq_cr (zq_cr (zq_cr (zq_cr zq_cn)))))) (hJ _)
      · refine zx_lift (pc' := 70) (fun _ => zq_iconst (v := 1) dX12_findMarks_69 rfl rfl) ?_
        refine zx_lift (pc' := 74) (fun _ => zq_goto dX12_findMarks_70 rfl) ?_
        exact zx_lessJ (zq_cr (zq_cr (zq_cr (zq_cr (zq_cr (zq_cr zq_cn)))))) (hJ _)
    · refine zx_lift (pc' := 60) (fun _ => zq_iconst (v := 0) dX12_findMarks_59 rfl rfl) ?_
      refine zx_lift (pc' := 74) (fun _ => zq_goto dX12_findMarks_60 rfl) ?_
      exact zx_lessJ (zq_cr (zq_cr (zq_cr (zq_cr (zq_cr (zq_cr zq_cn)))))) (hJ _)
  refine zx_lift (pc' := 75) (fun _ => zq_iload_n rfl rfl dX12_findMarks_74 rfl) ?_
  refine zx_lift (pc' := 76) (fun _ => zq_iload_n rfl rfl dX12_findMarks_75 rfl) ?_
  refine zx_cVv (pc' := 79) zcv_X12_255 (cX12_setMark_mc N (zga s 59 w4) x2 w1 w2 s) zob_57 rfl (by decide) (Nat.le_of_ble_eq_true rfl) dX12_findMarks_76 rfl rfl (fun r3 s4 => ?_)
  refine zx_lift (pc' := 80) (fun _ => zq_aload_n rfl rfl dX12_findMarks_79 rfl) ?_
  refine zx_lift (pc' := 83) (fun _ => zt_getR zfr_X12_40 zfd_57_13 dX12_findMarks_80 rfl) ?_
  refine zx_lift (pc' := 84) (fun _ => zq_aload_n rfl rfl dX12_findMarks_83 rfl) ?_
  refine zx_lift (pc' := 87) (fun _ => zt_getR zfr_X12_13 zfd_57_2 dX12_findMarks_84 rfl) ?_
  refine zx_lift (pc' := 89) (fun _ => zq_iload rfl dX12_findMarks_87 rfl) ?_
  refine zx_iaload (pc' := 90) zsh_59 dX12_findMarks_89 rfl ?_
  refine zx_lift (pc' := 92) (fun _ => zq_iload rfl dX12_findMarks_90 rfl) ?_
  refine zx_iastore (pc' := 93) zsh_68 dX12_findMarks_92 rfl (fun s5 => ?_)
  refine zx_lift (pc' := 94) (fun _ => zq_aload_n rfl rfl dX12_findMarks_93 rfl) ?_
  refine zx_lift (pc' := 97) (fun _ => zt_getR zfr_X12_34 zfd_57_11 dX12_findMarks_94 rfl) ?_
  refine zx_lift (pc' := 98) (fun _ => zq_aload_n rfl rfl dX12_findMarks_97 rfl) ?_
  refine zx_lift (pc' := 101) (fun _ => zt_getR zfr_X12_13 zfd_57_2 dX12_findMarks_98 rfl) ?_
  refine zx_lift (pc' := 103) (fun _ => zq_iload rfl dX12_findMarks_101 rfl) ?_
  refine zx_iaload (pc' := 104) zsh_59 dX12_findMarks_103 rfl ?_
  refine zx_lift (pc' := 105) (fun _ => zq_aload_n rfl rfl dX12_findMarks_104 rfl) ?_
  refine zx_lift (pc' := 107) (fun _ => zq_iload rfl dX12_findMarks_105 rfl) ?_
  refine zx_lift (pc' := 108) (fun _ => zq_iconst (v := 1) dX12_findMarks_107 rfl rfl) ?_
  refine zx_lift (pc' := 109) (fun _ => zq_iadd dX12_findMarks_108 rfl) ?_
  refine zx_lift (pc' := 110) (fun _ => zq_aload_n rfl rfl dX12_findMarks_109 rfl) ?_
  refine zx_lift (pc' := 113) (fun _ => zt_getR zfr_X12_19 zfd_57_4 dX12_findMarks_110 rfl) ?_
  refine zx_lift (pc' := 115) (fun _ => zq_iload rfl dX12_findMarks_113 rfl) ?_
  refine zx_iaload (pc' := 116) zsh_61 dX12_findMarks_115 rfl ?_
  refine zx_cVi (pc' := 119) zcv_X12_258 (cX12_wordsIn_mc N (w4 + (1 : Int32)) (zga s5 61 w4) s5) zob_57 rfl (by decide) (Nat.le_of_ble_eq_true rfl) dX12_findMarks_116 rfl rfl (fun r6 s7 => ?_)
  refine zx_iastore (pc' := 120) zsh_66 dX12_findMarks_119 rfl (fun s8 => ?_)
  refine zx_lift (pc' := 121) (fun _ => zq_aload_n rfl rfl dX12_findMarks_120 rfl) ?_
  refine zx_lift (pc' := 124) (fun _ => zt_getR zfr_X12_16 zfd_57_3 dX12_findMarks_121 rfl) ?_
  refine zx_lift (pc' := 126) (fun _ => zq_iload rfl dX12_findMarks_124 rfl) ?_
  refine zx_iaload (pc' := 127) zsh_60 dX12_findMarks_126 rfl ?_
  refine zx_if_lt (pc' := 130) (tgt := 178) dX12_findMarks_127 rfl rfl (fun hc => ?_) (fun hc => ?_)
  · exact xX12_findMarks_j178_j N self hself w1 w2 w3 w4 w5 s8
  · refine zx_lift (pc' := 131) (fun _ => zq_aload_n rfl rfl dX12_findMarks_130 rfl) ?_
    refine zx_lift (pc' := 132) (fun _ => zq_aload_n rfl rfl dX12_findMarks_131 rfl) ?_
    refine zx_lift (pc' := 135) (fun _ => zt_getR zfr_X12_16 zfd_57_3 dX12_findMarks_132 rfl) ?_
    refine zx_lift (pc' := 137) (fun _ => zq_iload rfl dX12_findMarks_135 rfl) ?_
    refine zx_iaload (pc' := 138) zsh_60 dX12_findMarks_137 rfl ?_
    refine zx_lift (pc' := 139) (fun _ => zq_iconst (v := 2) dX12_findMarks_138 rfl rfl) ?_
    refine zx_lift (pc' := 140) (fun _ => zq_iload_n rfl rfl dX12_findMarks_139 rfl) ?_
    refine zx_lift (pc' := 141) (fun _ => zq_iconst (v := 1) dX12_findMarks_140 rfl rfl) ?_
    refine zx_lift (pc' := 142) (fun _ => zq_aload_n rfl rfl dX12_findMarks_141 rfl) ?_
    refine zx_lift (pc' := 145) (fun _ => zt_getR zfr_X12_13 zfd_57_2 dX12_findMarks_142 rfl) ?_
    refine zx_lift (pc' := 147) (fun _ => zq_iload rfl dX12_findMarks_145 rfl) ?_
    refine zx_iaload (pc' := 148) zsh_59 dX12_findMarks_147 rfl ?_
    refine zx_lift (pc' := 149) (fun _ => zq_ishl dX12_findMarks_148 rfl) ?_
    refine zx_lift (pc' := 150) (fun _ => zq_ior dX12_findMarks_149 rfl) ?_
    refine zx_lift (pc' := 151) (fun _ => zq_iload_n rfl rfl dX12_findMarks_150 rfl) ?_
    refine zx_cVv (pc' := 154) zcv_X12_255 (cX12_setMark_mc N (zga s8 60 w4) (2 : Int32) (w1 ||| ((1 : Int32) <<< ((zga s8 59 w4) &&& 31))) w2 s8) zob_57 rfl (by decide) (Nat.le_of_ble_eq_true rfl) dX12_findMarks_151 rfl rfl (fun r21 s22 => ?_)
    refine zx_lift (pc' := 155) (fun _ => zq_aload_n rfl rfl dX12_findMarks_154 rfl) ?_
    refine zx_lift (pc' := 158) (fun _ => zt_getR zfr_X12_34 zfd_57_11 dX12_findMarks_155 rfl) ?_
    refine zx_lift (pc' := 159) (fun _ => zq_aload_n rfl rfl dX12_findMarks_158 rfl) ?_
    refine zx_lift (pc' := 162) (fun _ => zt_getR zfr_X12_16 zfd_57_3 dX12_findMarks_159 rfl) ?_
    refine zx_lift (pc' := 164) (fun _ => zq_iload rfl dX12_findMarks_162 rfl) ?_
    refine zx_iaload (pc' := 165) zsh_60 dX12_findMarks_164 rfl ?_
    refine zx_lift (pc' := 166) (fun _ => zq_aload_n rfl rfl dX12_findMarks_165 rfl) ?_
    refine zx_lift (pc' := 169) (fun _ => zt_getR zfr_X12_34 zfd_57_11 dX12_findMarks_166 rfl) ?_
    refine zx_lift (pc' := 170) (fun _ => zq_aload_n rfl rfl dX12_findMarks_169 rfl) ?_
    refine zx_lift (pc' := 173) (fun _ => zt_getR zfr_X12_13 zfd_57_2 dX12_findMarks_170 rfl) ?_
    refine zx_lift (pc' := 175) (fun _ => zq_iload rfl dX12_findMarks_173 rfl) ?_
    refine zx_iaload (pc' := 176) zsh_59 dX12_findMarks_175 rfl ?_
    refine zx_iaload (pc' := 177) zsh_66 dX12_findMarks_176 rfl ?_
    refine zx_iastore (pc' := 178) zsh_66 dX12_findMarks_177 rfl (fun s23 => ?_)
    exact xX12_findMarks_j178_j N self hself w1 w2 w3 w4 w5 s23
def bX12_findMarks_9 (N : Nat)    (self : Int32 × Int32 × Int32 × Int32 × zq_S → Option (Unit × zq_S)) (v : Int32 × Int32 × Int32 × Int32 × zq_S) : Option (Unit × zq_S) :=
  if (zgf v.2.2.2.2 57 0) ≤ v.2.2.2.1 then
  some ((), v.2.2.2.2)
  else
  zq_ck v.2.2.2.1 400 (
  zq_let (zga v.2.2.2.2 58 v.2.2.2.1) (fun x1 =>
  if x1 = (1 : Int32) then
  jX12_findMarks_j45 N self v.1 v.2.1 v.2.2.1 v.2.2.2.1 x1 v.2.2.2.2
  else
  if x1 = (2 : Int32) then
  jX12_findMarks_j45 N self v.1 v.2.1 v.2.2.1 v.2.2.2.1 x1 v.2.2.2.2
  else
  if x1 = (3 : Int32) then
  jX12_findMarks_j45 N self v.1 v.2.1 v.2.2.1 v.2.2.2.1 x1 v.2.2.2.2
  else
  jX12_findMarks_j203 N self v.1 v.2.1 v.2.2.1 v.2.2.2.1 x1 v.2.2.2.2))
set_option maxRecDepth 20000 in
set_option maxHeartbeats 2000000 in
theorem xX12_findMarks_9 (N : Nat)    (self : Int32 × Int32 × Int32 × Int32 × zq_S → Option (Unit × zq_S)) (hself : ∀ v, zq_X yX12_findMarks RX12 cX12_findMarks 6 none ⟨1, 0, 0, 24⟩ zv_v 9 [.ref 57, .int v.1, .int v.2.1, .int v.2.2.1, .int v.2.2.2.1, .null] [] v.2.2.2.2 (self v)) (v : Int32 × Int32 × Int32 × Int32 × zq_S) : zq_X yX12_findMarks RX12 cX12_findMarks 6 none ⟨1, 0, 0, 24⟩ zv_v 9 [.ref 57, .int v.1, .int v.2.1, .int v.2.2.1, .int v.2.2.2.1, .null] [] v.2.2.2.2 (bX12_findMarks_9 N self v) := by
  unfold bX12_findMarks_9
  refine zx_lift (pc' := 11) (fun _ => zq_iload rfl dX12_findMarks_9 rfl) ?_
  refine zx_lift (pc' := 12) (fun _ => zq_aload_n rfl rfl dX12_findMarks_11 rfl) ?_
  refine zx_lift (pc' := 15) (fun _ => zt_getI zfr_X12_243 zfd_57_0 dX12_findMarks_12 rfl) ?_
  refine zx_icmp_ge (pc' := 18) (tgt := 337) dX12_findMarks_15 rfl rfl (fun hc => ?_) (fun hc => ?_)
  · exact zx_vret rfl dX12_findMarks_337
  · refine zx_lift (pc' := 19) (fun _ => zq_aload_n rfl rfl dX12_findMarks_18 rfl) ?_
    refine zx_lift (pc' := 22) (fun _ => zt_getR zfr_X12_7 zfd_57_1 dX12_findMarks_19 rfl) ?_
    refine zx_lift (pc' := 24) (fun _ => zq_iload rfl dX12_findMarks_22 rfl) ?_
    refine zx_iaload (pc' := 25) zsh_58 dX12_findMarks_24 rfl ?_
    refine zx_istore (pc' := 27) (ls' := fun x1 => [.ref 57, .int v.1, .int v.2.1, .int v.2.2.1, .int v.2.2.2.1, .int x1]) (by decide) rfl (fun _ => rfl) dX12_findMarks_25 rfl (fun x1 => ?_)
    refine zx_lift (pc' := 29) (fun _ => zq_iload rfl dX12_findMarks_27 rfl) ?_
    refine zx_lift (pc' := 30) (fun _ => zq_iconst (v := 1) dX12_findMarks_29 rfl rfl) ?_
    refine zx_icmp_eq (pc' := 33) (tgt := 45) dX12_findMarks_30 rfl rfl (fun hc => ?_) (fun hc => ?_)
    · exact xX12_findMarks_j45_j N self hself v.1 v.2.1 v.2.2.1 v.2.2.2.1 x1 v.2.2.2.2
    · refine zx_lift (pc' := 35) (fun _ => zq_iload rfl dX12_findMarks_33 rfl) ?_
      refine zx_lift (pc' := 36) (fun _ => zq_iconst (v := 2) dX12_findMarks_35 rfl rfl) ?_
      refine zx_icmp_eq (pc' := 39) (tgt := 45) dX12_findMarks_36 rfl rfl (fun hc => ?_) (fun hc => ?_)
      · exact xX12_findMarks_j45_j N self hself v.1 v.2.1 v.2.2.1 v.2.2.2.1 x1 v.2.2.2.2
      · refine zx_lift (pc' := 41) (fun _ => zq_iload rfl dX12_findMarks_39 rfl) ?_
        refine zx_lift (pc' := 42) (fun _ => zq_iconst (v := 3) dX12_findMarks_41 rfl rfl) ?_
        refine zx_icmp_ne (pc' := 45) (tgt := 203) dX12_findMarks_42 rfl rfl (fun hc => ?_) (fun hc => ?_)
        · exact xX12_findMarks_j203_j N self hself v.1 v.2.1 v.2.2.1 v.2.2.2.1 x1 v.2.2.2.2
        · exact xX12_findMarks_j45_j N self hself v.1 v.2.1 v.2.2.1 v.2.2.2.1 x1 v.2.2.2.2
theorem yX12_findMarks_9 (N : Nat)    (n : Nat) : ∀ v : Int32 × Int32 × Int32 × Int32 × zq_S, zq_X yX12_findMarks RX12 cX12_findMarks 6 none ⟨1, 0, 0, 24⟩ zv_v 9 [.ref 57, .int v.1, .int v.2.1, .int v.2.2.1, .int v.2.2.2.1, .null] [] v.2.2.2.2 (zq_loop (bX12_findMarks_9 N ) n v) := by
  induction n with
  | zero => exact fun v u hu => by cases hu
  | succ n ih =>
    intro v
    rw [zq_loop_s]
    exact xX12_findMarks_9 N  (zq_loop (bX12_findMarks_9 N ) n) ih v
def mX12_findMarks (N : Nat)   (s : zq_S) : Option (Unit × zq_S) :=
  zq_loop (bX12_findMarks_9 N ) N ((0 : Int32), (0 : Int32), (-1 : Int32), (0 : Int32), s)
set_option maxRecDepth 20000 in
set_option maxHeartbeats 2000000 in
theorem xX12_findMarks (N : Nat)   (s : zq_S) : zq_X yX12_findMarks RX12 cX12_findMarks 6 none ⟨1, 0, 0, 24⟩ zv_v 0 [.ref 57, .null, .null, .null, .null, .null] [] s (mX12_findMarks N s) := by
  unfold mX12_findMarks
  refine zx_lift (pc' := 1) (fun _ => zq_iconst (v := 0) dX12_findMarks_0 rfl rfl) ?_
  refine zx_lift (pc' := 2) (fun _ => zq_istore_n (ls' := [.ref 57, .int (0 : Int32), .null, .null, .null, .null]) rfl (by decide) rfl rfl dX12_findMarks_1 rfl) ?_
  refine zx_lift (pc' := 3) (fun _ => zq_iconst (v := 0) dX12_findMarks_2 rfl rfl) ?_
  refine zx_lift (pc' := 4) (fun _ => zq_istore_n (ls' := [.ref 57, .int (0 : Int32), .int (0 : Int32), .null, .null, .null]) rfl (by decide) rfl rfl dX12_findMarks_3 rfl) ?_
  refine zx_lift (pc' := 5) (fun _ => zq_iconst (v := (-1)) dX12_findMarks_4 rfl rfl) ?_
  refine zx_lift (pc' := 6) (fun _ => zq_istore_n (ls' := [.ref 57, .int (0 : Int32), .int (0 : Int32), .int (-1 : Int32), .null, .null]) rfl (by decide) rfl rfl dX12_findMarks_5 rfl) ?_
  refine zx_lift (pc' := 7) (fun _ => zq_iconst (v := 0) dX12_findMarks_6 rfl rfl) ?_
  refine zx_lift (pc' := 9) (fun _ => zq_istore (ls' := [.ref 57, .int (0 : Int32), .int (0 : Int32), .int (-1 : Int32), .int (0 : Int32), .null]) (by decide) rfl rfl dX12_findMarks_7 rfl) ?_
  refine yX12_findMarks_9 N  N ((0 : Int32), (0 : Int32), (-1 : Int32), (0 : Int32), s)
theorem cX12_findMarks_mc (N : Nat)   (s : zq_S) (v : Unit × zq_S) (h : mX12_findMarks N s = some v) : zq_MC yX12_findMarks cX12_findMarks 6 none ⟨1, 0, 0, 24⟩ 0 0 [.ref 57] (zq_en s) (zv_v v.1, zq_en v.2) := zq_MC_x [.ref 57, .null, .null, .null, .null, .null] (by decide +kernel) rfl rfl (Nat.le_of_ble_eq_true rfl) (xX12_findMarks N s) h
def bX12_keepSheet_23 (N : Nat)   (k85 : zq_S → Option (Unit × zq_S)) (self : Int32 × zq_S → Option (Unit × zq_S)) (v : Int32 × zq_S) : Option (Unit × zq_S) :=
  if (zgf v.2 57 0) ≤ v.1 then
  k85 v.2
  else
  zq_ck v.1 400 (
  zq_ck v.1 400 (
  zq_let (zpa v.2 58 v.1 (zga v.2 71 v.1)) (fun s4 =>
  zq_ck v.1 400 (
  zq_ck v.1 400 (
  zq_let (zpa s4 59 v.1 (zga s4 72 v.1)) (fun s5 =>
  zq_ck v.1 400 (
  zq_ck v.1 400 (
  zq_let (zpa s5 60 v.1 (zga s5 73 v.1)) (fun s6 =>
  zq_ck v.1 400 (
  zq_ck v.1 400 (
  zq_let (zpa s6 61 v.1 (zga s6 74 v.1)) (fun s7 =>
  zq_let (v.1 + (1 : Int32)) (fun x8 =>
  self (x8, s7))))))))))))))
set_option maxRecDepth 20000 in
set_option maxHeartbeats 2000000 in
theorem xX12_keepSheet_23 (N : Nat)   (k85 : zq_S → Option (Unit × zq_S)) (hk85 : ∀ e, zq_X yX12_keepSheet RX12 cX12_keepSheet 2 none ⟨2, 0, 0, 49⟩ zv_v 85 [.ref 57, .null] [] e (k85 e)) (self : Int32 × zq_S → Option (Unit × zq_S)) (hself : ∀ v, zq_X yX12_keepSheet RX12 cX12_keepSheet 2 none ⟨2, 0, 0, 49⟩ zv_v 23 [.ref 57, .int v.1] [] v.2 (self v)) (v : Int32 × zq_S) : zq_X yX12_keepSheet RX12 cX12_keepSheet 2 none ⟨2, 0, 0, 49⟩ zv_v 23 [.ref 57, .int v.1] [] v.2 (bX12_keepSheet_23 N k85 self v) := by
  unfold bX12_keepSheet_23
  refine zx_lift (pc' := 24) (fun _ => zq_iload_n rfl rfl dX12_keepSheet_23 rfl) ?_
  refine zx_lift (pc' := 25) (fun _ => zq_aload_n rfl rfl dX12_keepSheet_24 rfl) ?_
  refine zx_lift (pc' := 28) (fun _ => zt_getI zfr_X12_243 zfd_57_0 dX12_keepSheet_25 rfl) ?_
  refine zx_icmp_ge (pc' := 31) (tgt := 85) dX12_keepSheet_28 rfl rfl (fun hc => ?_) (fun hc => ?_)
  · refine zx_less [.ref 57, .null] (zq_cr (zq_cz zq_cn)) ?_
    exact hk85 v.2
  · refine zx_lift (pc' := 32) (fun _ => zq_aload_n rfl rfl dX12_keepSheet_31 rfl) ?_
    refine zx_lift (pc' := 35) (fun _ => zt_getR zfr_X12_7 zfd_57_1 dX12_keepSheet_32 rfl) ?_
    refine zx_lift (pc' := 36) (fun _ => zq_iload_n rfl rfl dX12_keepSheet_35 rfl) ?_
    refine zx_lift (pc' := 37) (fun _ => zq_aload_n rfl rfl dX12_keepSheet_36 rfl) ?_
    refine zx_lift (pc' := 40) (fun _ => zt_getR zfr_X12_54 zfd_57_22 dX12_keepSheet_37 rfl) ?_
    refine zx_lift (pc' := 41) (fun _ => zq_iload_n rfl rfl dX12_keepSheet_40 rfl) ?_
    refine zx_iaload (pc' := 42) zsh_71 dX12_keepSheet_41 rfl ?_
    refine zx_iastore (pc' := 43) zsh_58 dX12_keepSheet_42 rfl (fun s4 => ?_)
    refine zx_lift (pc' := 44) (fun _ => zq_aload_n rfl rfl dX12_keepSheet_43 rfl) ?_
    refine zx_lift (pc' := 47) (fun _ => zt_getR zfr_X12_13 zfd_57_2 dX12_keepSheet_44 rfl) ?_
    refine zx_lift (pc' := 48) (fun _ => zq_iload_n rfl rfl dX12_keepSheet_47 rfl) ?_
    refine zx_lift (pc' := 49) (fun _ => zq_aload_n rfl rfl dX12_keepSheet_48 rfl) ?_
    refine zx_lift (pc' := 52) (fun _ => zt_getR zfr_X12_57 zfd_57_23 dX12_keepSheet_49 rfl) ?_
    refine zx_lift (pc' := 53) (fun _ => zq_iload_n rfl rfl dX12_keepSheet_52 rfl) ?_
    refine zx_iaload (pc' := 54) zsh_72 dX12_keepSheet_53 rfl ?_
    refine zx_iastore (pc' := 55) zsh_59 dX12_keepSheet_54 rfl (fun s5 => ?_)
    refine zx_lift (pc' := 56) (fun _ => zq_aload_n rfl rfl dX12_keepSheet_55 rfl) ?_
    refine zx_lift (pc' := 59) (fun _ => zt_getR zfr_X12_16 zfd_57_3 dX12_keepSheet_56 rfl) ?_
    refine zx_lift (pc' := 60) (fun _ => zq_iload_n rfl rfl dX12_keepSheet_59 rfl) ?_
    refine zx_lift (pc' := 61) (fun _ => zq_aload_n rfl rfl dX12_keepSheet_60 rfl) ?_
    refine zx_lift (pc' := 64) (fun _ => zt_getR zfr_X12_60 zfd_57_24 dX12_keepSheet_61 rfl) ?_
    refine zx_lift (pc' := 65) (fun _ => zq_iload_n rfl rfl dX12_keepSheet_64 rfl) ?_
    refine zx_iaload (pc' := 66) zsh_73 dX12_keepSheet_65 rfl ?_
    refine zx_iastore (pc' := 67) zsh_60 dX12_keepSheet_66 rfl (fun s6 => ?_)
    refine zx_lift (pc' := 68) (fun _ => zq_aload_n rfl rfl dX12_keepSheet_67 rfl) ?_
    refine zx_lift (pc' := 71) (fun _ => zt_getR zfr_X12_19 zfd_57_4 dX12_keepSheet_68 rfl) ?_
    refine zx_lift (pc' := 72) (fun _ => zq_iload_n rfl rfl dX12_keepSheet_71 rfl) ?_
    refine zx_lift (pc' := 73) (fun _ => zq_aload_n rfl rfl dX12_keepSheet_72 rfl) ?_
    refine zx_lift (pc' := 76) (fun _ => zt_getR zfr_X12_63 zfd_57_25 dX12_keepSheet_73 rfl) ?_
    refine zx_lift (pc' := 77) (fun _ => zq_iload_n rfl rfl dX12_keepSheet_76 rfl) ?_
    refine zx_iaload (pc' := 78) zsh_74 dX12_keepSheet_77 rfl ?_
    refine zx_iastore (pc' := 79) zsh_61 dX12_keepSheet_78 rfl (fun s7 => ?_)
    refine zx_iinc (pc' := 82) (ls' := fun x8 => [.ref 57, .int x8]) rfl rfl (by decide) rfl (fun _ => rfl) dX12_keepSheet_79 rfl (fun x8 => ?_)
    refine zx_lift (pc' := 23) (fun _ => zq_goto dX12_keepSheet_82 rfl) ?_
    exact hself (x8, s7)
theorem yX12_keepSheet_23 (N : Nat)   (k85 : zq_S → Option (Unit × zq_S)) (hk85 : ∀ e, zq_X yX12_keepSheet RX12 cX12_keepSheet 2 none ⟨2, 0, 0, 49⟩ zv_v 85 [.ref 57, .null] [] e (k85 e)) (n : Nat) : ∀ v : Int32 × zq_S, zq_X yX12_keepSheet RX12 cX12_keepSheet 2 none ⟨2, 0, 0, 49⟩ zv_v 23 [.ref 57, .int v.1] [] v.2 (zq_loop (bX12_keepSheet_23 N k85) n v) := by
  induction n with
  | zero => exact fun v u hu => by cases hu
  | succ n ih =>
    intro v
    rw [zq_loop_s]
    exact xX12_keepSheet_23 N k85 hk85 (zq_loop (bX12_keepSheet_23 N k85) n) ih v
def bX12_keepSheet_85 (N : Nat)   (k132 : zq_S → Option (Unit × zq_S)) (self : zq_S → Option (Unit × zq_S)) (v : zq_S) : Option (Unit × zq_S) :=
  zq_b2 (mX12_has N (zgf v 57 28) (zgf v 57 6) v) (fun r10 s11 =>
  if r10 = (0 : Int32) then
  k132 s11
  else
  zq_ck (zgf s11 57 6) 10 (
  zq_let (zpa s11 63 (zgf s11 57 6) (0 : Int32)) (fun s12 =>
  zq_ck (zgf s12 57 6) 10 (
  zq_let (zpa s12 64 (zgf s12 57 6) (0 : Int32)) (fun s13 =>
  zq_let (zpf s13 57 6 ((zgf s13 57 6) + (1 : Int32))) (fun s14 =>
  self s14))))))
set_option maxRecDepth 20000 in
set_option maxHeartbeats 2000000 in
theorem xX12_keepSheet_85 (N : Nat)   (k132 : zq_S → Option (Unit × zq_S)) (hk132 : ∀ e, zq_X yX12_keepSheet RX12 cX12_keepSheet 2 none ⟨2, 0, 0, 49⟩ zv_v 132 [.ref 57, .null] [] e (k132 e)) (self : zq_S → Option (Unit × zq_S)) (hself : ∀ v, zq_X yX12_keepSheet RX12 cX12_keepSheet 2 none ⟨2, 0, 0, 49⟩ zv_v 85 [.ref 57, .null] [] v (self v)) (v : zq_S) : zq_X yX12_keepSheet RX12 cX12_keepSheet 2 none ⟨2, 0, 0, 49⟩ zv_v 85 [.ref 57, .null] [] v (bX12_keepSheet_85 N k132 self v) := by
  unfold bX12_keepSheet_85
  refine zx_lift (pc' := 86) (fun _ => zq_aload_n rfl rfl dX12_keepSheet_85 rfl) ?_
  refine zx_lift (pc' := 89) (fun _ => zt_getI zfr_X12_186 zfd_57_28 dX12_keepSheet_86 rfl) ?_
  refine zx_lift (pc' := 90) (fun _ => zq_aload_n rfl rfl dX12_keepSheet_89 rfl) ?_
  refine zx_lift (pc' := 93) (fun _ => zt_getI zfr_X12_141 zfd_57_6 dX12_keepSheet_90 rfl) ?_
  refine zx_cSi (pc' := 96) zcs_X12_189 (cX12_has_mc N (zgf v 57 28) (zgf v 57 6) v) rfl (by decide) (Nat.le_of_ble_eq_true rfl) dX12_keepSheet_93 rfl rfl (fun r10 s11 => ?_)
  refine zx_if_eq (pc' := 99) (tgt := 132) dX12_keepSheet_96 rfl rfl (fun hc => ?_) (fun hc => ?_)
  · exact hk132 s11
  · refine zx_lift (pc' := 100) (fun _ => zq_aload_n rfl rfl dX12_keepSheet_99 rfl) ?_
    refine zx_lift (pc' := 103) (fun _ => zt_getR zfr_X12_25 zfd_57_8 dX12_keepSheet_100 rfl) ?_
    refine zx_lift (pc' := 104) (fun _ => zq_aload_n rfl rfl dX12_keepSheet_103 rfl) ?_
    refine zx_lift (pc' := 107) (fun _ => zt_getI zfr_X12_141 zfd_57_6 dX12_keepSheet_104 rfl) ?_
    refine zx_lift (pc' := 108) (fun _ => zq_iconst (v := 0) dX12_keepSheet_107 rfl rfl) ?_
    refine zx_iastore (pc' := 109) zsh_63 dX12_keepSheet_108 rfl (fun s12 => ?_)
    refine zx_lift (pc' := 110) (fun _ => zq_aload_n rfl rfl dX12_keepSheet_109 rfl) ?_
    refine zx_lift (pc' := 113) (fun _ => zt_getR zfr_X12_28 zfd_57_9 dX12_keepSheet_110 rfl) ?_
    refine zx_lift (pc' := 114) (fun _ => zq_aload_n rfl rfl dX12_keepSheet_113 rfl) ?_
    refine zx_lift (pc' := 117) (fun _ => zt_getI zfr_X12_141 zfd_57_6 dX12_keepSheet_114 rfl) ?_
    refine zx_lift (pc' := 118) (fun _ => zq_iconst (v := 0) dX12_keepSheet_117 rfl rfl) ?_
    refine zx_iastore (pc' := 119) zsh_64 dX12_keepSheet_118 rfl (fun s13 => ?_)
    refine zx_lift (pc' := 120) (fun _ => zq_aload_n rfl rfl dX12_keepSheet_119 rfl) ?_
    refine zx_lift (pc' := 121) (fun _ => zq_dup rfl dX12_keepSheet_120 rfl) ?_
    refine zx_lift (pc' := 124) (fun _ => zt_getI zfr_X12_141 zfd_57_6 dX12_keepSheet_121 rfl) ?_
    refine zx_lift (pc' := 125) (fun _ => zq_iconst (v := 1) dX12_keepSheet_124 rfl rfl) ?_
    refine zx_lift (pc' := 126) (fun _ => zq_iadd dX12_keepSheet_125 rfl) ?_
    refine zx_putI (pc' := 129) zfr_X12_141 (fun _ => ⟨rfl, rfl⟩) zfd_57_6 dX12_keepSheet_126 rfl (fun s14 => ?_)
    refine zx_lift (pc' := 85) (fun _ => zq_goto dX12_keepSheet_129 rfl) ?_
    exact hself s14
theorem yX12_keepSheet_85 (N : Nat)   (k132 : zq_S → Option (Unit × zq_S)) (hk132 : ∀ e, zq_X yX12_keepSheet RX12 cX12_keepSheet 2 none ⟨2, 0, 0, 49⟩ zv_v 132 [.ref 57, .null] [] e (k132 e)) (n : Nat) : ∀ v : zq_S, zq_X yX12_keepSheet RX12 cX12_keepSheet 2 none ⟨2, 0, 0, 49⟩ zv_v 85 [.ref 57, .null] [] v (zq_loop (bX12_keepSheet_85 N k132) n v) := by
  induction n with
  | zero => exact fun v u hu => by cases hu
  | succ n ih =>
    intro v
    rw [zq_loop_s]
    exact xX12_keepSheet_85 N k132 hk132 (zq_loop (bX12_keepSheet_85 N k132) n) ih v
def bX12_keepSheet_134 (N : Nat)    (self : Int32 × zq_S → Option (Unit × zq_S)) (v : Int32 × zq_S) : Option (Unit × zq_S) :=
  if (16 : Int32) ≤ v.1 then
  zq_b2 (mX12_findMarks N v.2) (fun r16 s17 =>
  zq_b2 (mX12_findMust N s17) (fun r18 s19 =>
  zq_let (zpf s19 57 44 (0 : Int32)) (fun s20 =>
  some ((), s20))))
  else
  zq_ck v.1 16 (
  zq_let (zpaz v.2 69 v.1 (0 : Int32)) (fun s21 =>
  zq_let (v.1 + (1 : Int32)) (fun x22 =>
  self (x22, s21))))
set_option maxRecDepth 20000 in
set_option maxHeartbeats 2000000 in
theorem xX12_keepSheet_134 (N : Nat)    (self : Int32 × zq_S → Option (Unit × zq_S)) (hself : ∀ v, zq_X yX12_keepSheet RX12 cX12_keepSheet 2 none ⟨2, 0, 0, 49⟩ zv_v 134 [.ref 57, .int v.1] [] v.2 (self v)) (v : Int32 × zq_S) : zq_X yX12_keepSheet RX12 cX12_keepSheet 2 none ⟨2, 0, 0, 49⟩ zv_v 134 [.ref 57, .int v.1] [] v.2 (bX12_keepSheet_134 N self v) := by
  unfold bX12_keepSheet_134
  refine zx_lift (pc' := 135) (fun _ => zq_iload_n rfl rfl dX12_keepSheet_134 rfl) ?_
  refine zx_lift (pc' := 137) (fun _ => zq_bipush (v := 16) dX12_keepSheet_135 rfl rfl) ?_
  refine zx_icmp_ge (pc' := 140) (tgt := 153) dX12_keepSheet_137 rfl rfl (fun hc => ?_) (fun hc => ?_)
  · refine zx_lift (pc' := 154) (fun _ => zq_aload_n rfl rfl dX12_keepSheet_153 rfl) ?_
    refine zx_cVv (pc' := 157) zcv_X12_249 (cX12_findMarks_mc N v.2) zob_57 rfl (by decide) (Nat.le_of_ble_eq_true rfl) dX12_keepSheet_154 rfl rfl (fun r16 s17 => ?_)
    refine zx_lift (pc' := 158) (fun _ => zq_aload_n rfl rfl dX12_keepSheet_157 rfl) ?_
    refine zx_cVi (pc' := 161) zcv_X12_137 (cX12_findMust_mc N s17) zob_57 rfl (by decide) (Nat.le_of_ble_eq_true rfl) dX12_keepSheet_158 rfl rfl (fun r18 s19 => ?_)
    refine zx_lift (pc' := 162) (fun _ => zq_pop rfl dX12_keepSheet_161 rfl) ?_
    refine zx_lift (pc' := 163) (fun _ => zq_aload_n rfl rfl dX12_keepSheet_162 rfl) ?_
    refine zx_lift (pc' := 164) (fun _ => zq_iconst (v := 0) dX12_keepSheet_163 rfl rfl) ?_
    refine zx_putI (pc' := 167) zfr_X12_252 (fun _ => ⟨by decide, rfl⟩) zfd_57_44 dX12_keepSheet_164 rfl (fun s20 => ?_)
    exact zx_vret rfl dX12_keepSheet_167
  · refine zx_lift (pc' := 141) (fun _ => zq_aload_n rfl rfl dX12_keepSheet_140 rfl) ?_
    refine zx_lift (pc' := 144) (fun _ => zt_getR zfr_X12_43 zfd_57_14 dX12_keepSheet_141 rfl) ?_
    refine zx_lift (pc' := 145) (fun _ => zq_iload_n rfl rfl dX12_keepSheet_144 rfl) ?_
    refine zx_lift (pc' := 146) (fun _ => zq_iconst (v := 0) dX12_keepSheet_145 rfl rfl) ?_
    refine zx_zastore (pc' := 147) zsh_69 dX12_keepSheet_146 rfl (fun s21 => ?_)
    refine zx_iinc (pc' := 150) (ls' := fun x22 => [.ref 57, .int x22]) rfl rfl (by decide) rfl (fun _ => rfl) dX12_keepSheet_147 rfl (fun x22 => ?_)
    refine zx_lift (pc' := 134) (fun _ => zq_goto dX12_keepSheet_150 rfl) ?_
    exact hself (x22, s21)
theorem yX12_keepSheet_134 (N : Nat)    (n : Nat) : ∀ v : Int32 × zq_S, zq_X yX12_keepSheet RX12 cX12_keepSheet 2 none ⟨2, 0, 0, 49⟩ zv_v 134 [.ref 57, .int v.1] [] v.2 (zq_loop (bX12_keepSheet_134 N ) n v) := by
  induction n with
  | zero => exact fun v u hu => by cases hu
  | succ n ih =>
    intro v
    rw [zq_loop_s]
    exact xX12_keepSheet_134 N  (zq_loop (bX12_keepSheet_134 N ) n) ih v
def mX12_keepSheet (N : Nat)   (s : zq_S) : Option (Unit × zq_S) :=
  zq_let (zpf s 57 0 (zgf s 57 21)) (fun s1 =>
  zq_let (zpf s1 57 5 (zgf s1 57 27)) (fun s2 =>
  zq_let (zpf s2 57 6 (0 : Int32)) (fun s3 =>
  zq_loop (bX12_keepSheet_23 N (fun e9 =>
  zq_loop (bX12_keepSheet_85 N (fun e15 =>
  zq_loop (bX12_keepSheet_134 N ) N ((0 : Int32), e15))) N e9)) N ((0 : Int32), s3))))
set_option maxRecDepth 20000 in
set_option maxHeartbeats 2000000 in
theorem xX12_keepSheet (N : Nat)   (s : zq_S) : zq_X yX12_keepSheet RX12 cX12_keepSheet 2 none ⟨2, 0, 0, 49⟩ zv_v 0 [.ref 57, .null] [] s (mX12_keepSheet N s) := by
  unfold mX12_keepSheet
  refine zx_lift (pc' := 1) (fun _ => zq_aload_n rfl rfl dX12_keepSheet_0 rfl) ?_
  refine zx_lift (pc' := 2) (fun _ => zq_aload_n rfl rfl dX12_keepSheet_1 rfl) ?_
  refine zx_lift (pc' := 5) (fun _ => zt_getI zfr_X12_179 zfd_57_21 dX12_keepSheet_2 rfl) ?_
  refine zx_putI (pc' := 8) zfr_X12_243 (fun _ => ⟨rfl, rfl⟩) zfd_57_0 dX12_keepSheet_5 rfl (fun s1 => ?_)
  refine zx_lift (pc' := 9) (fun _ => zq_aload_n rfl rfl dX12_keepSheet_8 rfl) ?_
  refine zx_lift (pc' := 10) (fun _ => zq_aload_n rfl rfl dX12_keepSheet_9 rfl) ?_
  refine zx_lift (pc' := 13) (fun _ => zt_getI zfr_X12_193 zfd_57_27 dX12_keepSheet_10 rfl) ?_
  refine zx_putI (pc' := 16) zfr_X12_246 (fun _ => ⟨rfl, rfl⟩) zfd_57_5 dX12_keepSheet_13 rfl (fun s2 => ?_)
  refine zx_lift (pc' := 17) (fun _ => zq_aload_n rfl rfl dX12_keepSheet_16 rfl) ?_
  refine zx_lift (pc' := 18) (fun _ => zq_iconst (v := 0) dX12_keepSheet_17 rfl rfl) ?_
  refine zx_putI (pc' := 21) zfr_X12_141 (fun _ => ⟨rfl, rfl⟩) zfd_57_6 dX12_keepSheet_18 rfl (fun s3 => ?_)
  refine zx_lift (pc' := 22) (fun _ => zq_iconst (v := 0) dX12_keepSheet_21 rfl rfl) ?_
  refine zx_lift (pc' := 23) (fun _ => zq_istore_n (ls' := [.ref 57, .int (0 : Int32)]) rfl (by decide) rfl rfl dX12_keepSheet_22 rfl) ?_
  refine yX12_keepSheet_23 N _ (fun e9 => ?_) N ((0 : Int32), s3)
  refine yX12_keepSheet_85 N _ (fun e15 => ?_) N e9
  refine zx_lift (pc' := 133) (fun _ => zq_iconst (v := 0) dX12_keepSheet_132 rfl rfl) ?_
  refine zx_lift (pc' := 134) (fun _ => zq_istore_n (ls' := [.ref 57, .int (0 : Int32)]) rfl (by decide) rfl rfl dX12_keepSheet_133 rfl) ?_
  refine yX12_keepSheet_134 N  N ((0 : Int32), e15)
theorem cX12_keepSheet_mc (N : Nat)   (s : zq_S) (v : Unit × zq_S) (h : mX12_keepSheet N s = some v) : zq_MC yX12_keepSheet cX12_keepSheet 2 none ⟨2, 0, 0, 49⟩ 0 0 [.ref 57] (zq_en s) (zv_v v.1, zq_en v.2) := zq_MC_x [.ref 57, .null] (by decide +kernel) rfl rfl (Nat.le_of_ble_eq_true rfl) (xX12_keepSheet N s) h
def bX12_sheet_52 (N : Nat)   (k71 : Int32 × zq_S → Option (Int32 × zq_S)) (self : Int32 × zq_S → Option (Int32 × zq_S)) (v : Int32 × zq_S) : Option (Int32 × zq_S) :=
  if v.1 = (0 : Int32) then
  zq_b2 (mX12_here N v.2) (fun r11 s12 =>
  if r11 < (0 : Int32) then
  k71 (v.1, s12)
  else
  zq_b2 (mX12_takeItem N s12) (fun r13 s14 =>
  self (r13, s14)))
  else
  k71 (v.1, v.2)
set_option maxRecDepth 20000 in
set_option maxHeartbeats 2000000 in
theorem xX12_sheet_52 (N : Nat)   (k71 : Int32 × zq_S → Option (Int32 × zq_S)) (hk71 : ∀ e, zq_X yX12_sheet RX12 cX12_sheet 2 (some .int) ⟨5, 0, 0, 117⟩ zv_i 71 [.ref 57, .int e.1] [] e.2 (k71 e)) (self : Int32 × zq_S → Option (Int32 × zq_S)) (hself : ∀ v, zq_X yX12_sheet RX12 cX12_sheet 2 (some .int) ⟨5, 0, 0, 117⟩ zv_i 52 [.ref 57, .int v.1] [] v.2 (self v)) (v : Int32 × zq_S) : zq_X yX12_sheet RX12 cX12_sheet 2 (some .int) ⟨5, 0, 0, 117⟩ zv_i 52 [.ref 57, .int v.1] [] v.2 (bX12_sheet_52 N k71 self v) := by
  unfold bX12_sheet_52
  refine zx_lift (pc' := 53) (fun _ => zq_iload_n rfl rfl dX12_sheet_52 rfl) ?_
  refine zx_if_ne (pc' := 56) (tgt := 71) dX12_sheet_53 rfl rfl (fun hc => ?_) (fun hc => ?_)
  · exact hk71 (v.1, v.2)
  · refine zx_lift (pc' := 57) (fun _ => zq_aload_n rfl rfl dX12_sheet_56 rfl) ?_
    refine zx_cVi (pc' := 60) zcv_X12_162 (cX12_here_mc N v.2) zob_57 rfl (by decide) (Nat.le_of_ble_eq_true rfl) dX12_sheet_57 rfl rfl (fun r11 s12 => ?_)
    refine zx_if_lt (pc' := 63) (tgt := 71) dX12_sheet_60 rfl rfl (fun hc => ?_) (fun hc => ?_)
    · exact hk71 (v.1, s12)
    · refine zx_lift (pc' := 64) (fun _ => zq_aload_n rfl rfl dX12_sheet_63 rfl) ?_
      refine zx_cVi (pc' := 67) zcv_X12_234 (cX12_takeItem_mc N s12) zob_57 rfl (by decide) (Nat.le_of_ble_eq_true rfl) dX12_sheet_64 rfl rfl (fun r13 s14 => ?_)
      refine zx_lift (pc' := 68) (fun _ => zq_istore_n (ls' := [.ref 57, .int r13]) rfl (by decide) rfl rfl dX12_sheet_67 rfl) ?_
      refine zx_lift (pc' := 52) (fun _ => zq_goto dX12_sheet_68 rfl) ?_
      exact hself (r13, s14)
theorem yX12_sheet_52 (N : Nat)   (k71 : Int32 × zq_S → Option (Int32 × zq_S)) (hk71 : ∀ e, zq_X yX12_sheet RX12 cX12_sheet 2 (some .int) ⟨5, 0, 0, 117⟩ zv_i 71 [.ref 57, .int e.1] [] e.2 (k71 e)) (n : Nat) : ∀ v : Int32 × zq_S, zq_X yX12_sheet RX12 cX12_sheet 2 (some .int) ⟨5, 0, 0, 117⟩ zv_i 52 [.ref 57, .int v.1] [] v.2 (zq_loop (bX12_sheet_52 N k71) n v) := by
  induction n with
  | zero => exact fun v u hu => by cases hu
  | succ n ih =>
    intro v
    rw [zq_loop_s]
    exact xX12_sheet_52 N k71 hk71 (zq_loop (bX12_sheet_52 N k71) n) ih v
def jX12_sheet_j108 (N : Nat)   (t0 : Int32) (s : zq_S) : Option (Int32 × zq_S) :=
  zq_let (zpf s 57 16 (0 : Int32)) (fun s18 =>
  if t0 ≤ (0 : Int32) then
  zq_b2 (mX12_keepSheet N s18) (fun r19 s20 =>
  some ((zgf s20 57 6), s20))
  else
  some (((-10 : Int32) - t0), s18))
set_option maxRecDepth 20000 in
set_option maxHeartbeats 2000000 in
theorem xX12_sheet_j108_j (N : Nat)   (t0 : Int32) (s : zq_S) : zq_X yX12_sheet RX12 cX12_sheet 2 (some .int) ⟨5, 0, 0, 117⟩ zv_i 108 [.ref 57, .null] [.int t0] s (jX12_sheet_j108 N t0 s) := by
  unfold jX12_sheet_j108
  refine zx_lift (pc' := 109) (fun _ => zq_istore_n (ls' := [.ref 57, .int t0]) rfl (by decide) rfl rfl dX12_sheet_108 rfl) ?_
  refine zx_lift (pc' := 110) (fun _ => zq_aload_n rfl rfl dX12_sheet_109 rfl) ?_
  refine zx_lift (pc' := 111) (fun _ => zq_iconst (v := 0) dX12_sheet_110 rfl rfl) ?_
  refine zx_putI (pc' := 114) zfr_X12_154 (fun _ => ⟨rfl, rfl⟩) zfd_57_16 dX12_sheet_111 rfl (fun s18 => ?_)
  refine zx_lift (pc' := 115) (fun _ => zq_iload_n rfl rfl dX12_sheet_114 rfl) ?_
  refine zx_if_le (pc' := 118) (tgt := 123) dX12_sheet_115 rfl rfl (fun hc => ?_) (fun hc => ?_)
  · refine zx_lift (pc' := 124) (fun _ => zq_aload_n rfl rfl dX12_sheet_123 rfl) ?_
    refine zx_cVv (pc' := 127) zcv_X12_240 (cX12_keepSheet_mc N s18) zob_57 rfl (by decide) (Nat.le_of_ble_eq_true rfl) dX12_sheet_124 rfl rfl (fun r19 s20 => ?_)
    refine zx_lift (pc' := 128) (fun _ => zq_aload_n rfl rfl dX12_sheet_127 rfl) ?_
    refine zx_lift (pc' := 131) (fun _ => zt_getI zfr_X12_141 zfd_57_6 dX12_sheet_128 rfl) ?_
    exact zx_iret rfl dX12_sheet_131
  · refine zx_lift (pc' := 120) (fun _ => zq_bipush (v := (-10)) dX12_sheet_118 rfl rfl) ?_
    refine zx_lift (pc' := 121) (fun _ => zq_iload_n rfl rfl dX12_sheet_120 rfl) ?_
    refine zx_lift (pc' := 122) (fun _ => zq_isub dX12_sheet_121 rfl) ?_
    exact zx_iret rfl dX12_sheet_122
def jX12_sheet_j95 (N : Nat)   (t0 : Int32) (s : zq_S) : Option (Int32 × zq_S) :=
  if t0 ≤ (0 : Int32) then
  zq_b2 (mX12_checkMarks N s) (fun r16 s17 =>
  jX12_sheet_j108 N r16 s17)
  else
  jX12_sheet_j108 N t0 s
set_option maxRecDepth 20000 in
set_option maxHeartbeats 2000000 in
theorem xX12_sheet_j95_j (N : Nat)   (t0 : Int32) (s : zq_S) : zq_X yX12_sheet RX12 cX12_sheet 2 (some .int) ⟨5, 0, 0, 117⟩ zv_i 95 [.ref 57, .null] [.int t0] s (jX12_sheet_j95 N t0 s) := by
  unfold jX12_sheet_j95
  refine zx_lift (pc' := 96) (fun _ => zq_istore_n (ls' := [.ref 57, .int t0]) rfl (by decide) rfl rfl dX12_sheet_95 rfl) ?_
  refine zx_lift (pc' := 97) (fun _ => zq_iload_n rfl rfl dX12_sheet_96 rfl) ?_
  refine zx_if_le (pc' := 100) (tgt := 104) dX12_sheet_97 rfl rfl (fun hc => ?_) (fun hc => ?_)
  · refine zx_lift (pc' := 105) (fun _ => zq_aload_n rfl rfl dX12_sheet_104 rfl) ?_
    refine zx_cVi (pc' := 108) zcv_X12_237 (cX12_checkMarks_mc N s) zob_57 rfl (by decide) (Nat.le_of_ble_eq_true rfl) dX12_sheet_105 rfl rfl (fun r16 s17 => ?_)
    refine zx_less [.ref 57, .null] (zq_cr (zq_cz zq_cn)) ?_
    exact xX12_sheet_j108_j N r16 s17
  · refine zx_lift (pc' := 101) (fun _ => zq_iload_n rfl rfl dX12_sheet_100 rfl) ?_
    refine zx_lift (pc' := 108) (fun _ => zq_goto dX12_sheet_101 rfl) ?_
    refine zx_less [.ref 57, .null] (zq_cr (zq_cz zq_cn)) ?_
    exact xX12_sheet_j108_j N t0 s
def jX12_sheet_j94 (N : Nat)   (w1 : Int32) (s : zq_S) : Option (Int32 × zq_S) :=
  jX12_sheet_j95 N w1 s
set_option maxRecDepth 20000 in
set_option maxHeartbeats 2000000 in
theorem xX12_sheet_j94_j (N : Nat)   (w1 : Int32) (s : zq_S) : zq_X yX12_sheet RX12 cX12_sheet 2 (some .int) ⟨5, 0, 0, 117⟩ zv_i 94 [.ref 57, .int w1] [] s (jX12_sheet_j94 N w1 s) := by
  unfold jX12_sheet_j94
  refine zx_lift (pc' := 95) (fun _ => zq_iload_n rfl rfl dX12_sheet_94 rfl) ?_
  refine zx_less [.ref 57, .null] (zq_cr (zq_cz zq_cn)) ?_
  exact xX12_sheet_j95_j N w1 s
def jX12_sheet_j71 (N : Nat)   (w1 : Int32) (s : zq_S) : Option (Int32 × zq_S) :=
  if w1 = (0 : Int32) then
  if (zgf s 57 31) ≤ (0 : Int32) then
  jX12_sheet_j94 N w1 s
  else
  zq_b2 (mX12_fails N (1 : Int32) (zgf s 57 16) s) (fun r21 s22 =>
  jX12_sheet_j95 N r21 s22)
  else
  jX12_sheet_j94 N w1 s
set_option maxRecDepth 20000 in
set_option maxHeartbeats 2000000 in
theorem xX12_sheet_j71_j (N : Nat)   (w1 : Int32) (s : zq_S) : zq_X yX12_sheet RX12 cX12_sheet 2 (some .int) ⟨5, 0, 0, 117⟩ zv_i 71 [.ref 57, .int w1] [] s (jX12_sheet_j71 N w1 s) := by
  unfold jX12_sheet_j71
  refine zx_lift (pc' := 72) (fun _ => zq_iload_n rfl rfl dX12_sheet_71 rfl) ?_
  refine zx_if_ne (pc' := 75) (tgt := 94) dX12_sheet_72 rfl rfl (fun hc => ?_) (fun hc => ?_)
  · exact xX12_sheet_j94_j N w1 s
  · refine zx_lift (pc' := 76) (fun _ => zq_aload_n rfl rfl dX12_sheet_75 rfl) ?_
    refine zx_lift (pc' := 79) (fun _ => zt_getI zfr_X12_196 zfd_57_31 dX12_sheet_76 rfl) ?_
    refine zx_if_le (pc' := 82) (tgt := 94) dX12_sheet_79 rfl rfl (fun hc => ?_) (fun hc => ?_)
    · exact xX12_sheet_j94_j N w1 s
    · refine zx_lift (pc' := 83) (fun _ => zq_aload_n rfl rfl dX12_sheet_82 rfl) ?_
      refine zx_lift (pc' := 84) (fun _ => zq_iconst (v := 1) dX12_sheet_83 rfl rfl) ?_
      refine zx_lift (pc' := 85) (fun _ => zq_aload_n rfl rfl dX12_sheet_84 rfl) ?_
      refine zx_lift (pc' := 88) (fun _ => zt_getI zfr_X12_154 zfd_57_16 dX12_sheet_85 rfl) ?_
      refine zx_cVi (pc' := 91) zcv_X12_169 (cX12_fails_mc N (1 : Int32) (zgf s 57 16) s) zob_57 rfl (by decide) (Nat.le_of_ble_eq_true rfl) dX12_sheet_88 rfl rfl (fun r21 s22 => ?_)
      refine zx_lift (pc' := 95) (fun _ => zq_goto dX12_sheet_91 rfl) ?_
      refine zx_less [.ref 57, .null] (zq_cr (zq_cz zq_cn)) ?_
      exact xX12_sheet_j95_j N r21 s22
def mX12_sheet (N : Nat)   (s : zq_S) : Option (Int32 × zq_S) :=
  zq_let (zpf s 57 17 (-1 : Int32)) (fun s1 =>
  zq_let (zpf s1 57 18 (0 : Int32)) (fun s2 =>
  zq_let (zpf s2 57 21 (0 : Int32)) (fun s3 =>
  zq_let (zpf s3 57 27 (0 : Int32)) (fun s4 =>
  zq_let (zpf s4 57 28 (0 : Int32)) (fun s5 =>
  zq_let (zpf s5 57 29 (0 : Int32)) (fun s6 =>
  zq_let (zpf s6 57 30 (0 : Int32)) (fun s7 =>
  zq_let (zpf s7 57 31 (0 : Int32)) (fun s8 =>
  zq_let (zpf s8 57 33 (0 : Int32)) (fun s9 =>
  zq_let (zpf s9 57 34 (0 : Int32)) (fun s10 =>
  zq_loop (bX12_sheet_52 N (fun e15 =>
  jX12_sheet_j71 N e15.1 e15.2)) N ((0 : Int32), s10)))))))))))
set_option maxRecDepth 20000 in
set_option maxHeartbeats 2000000 in
theorem xX12_sheet (N : Nat)   (s : zq_S) : zq_X yX12_sheet RX12 cX12_sheet 2 (some .int) ⟨5, 0, 0, 117⟩ zv_i 0 [.ref 57, .null] [] s (mX12_sheet N s) := by
  unfold mX12_sheet
  refine zx_lift (pc' := 1) (fun _ => zq_aload_n rfl rfl dX12_sheet_0 rfl) ?_
  refine zx_lift (pc' := 2) (fun _ => zq_iconst (v := (-1)) dX12_sheet_1 rfl rfl) ?_
  refine zx_putI (pc' := 5) zfr_X12_50 (fun _ => ⟨rfl, rfl⟩) zfd_57_17 dX12_sheet_2 rfl (fun s1 => ?_)
  refine zx_lift (pc' := 6) (fun _ => zq_aload_n rfl rfl dX12_sheet_5 rfl) ?_
  refine zx_lift (pc' := 7) (fun _ => zq_iconst (v := 0) dX12_sheet_6 rfl rfl) ?_
  refine zx_putI (pc' := 10) zfr_X12_159 (fun _ => ⟨rfl, rfl⟩) zfd_57_18 dX12_sheet_7 rfl (fun s2 => ?_)
  refine zx_lift (pc' := 11) (fun _ => zq_aload_n rfl rfl dX12_sheet_10 rfl) ?_
  refine zx_lift (pc' := 12) (fun _ => zq_iconst (v := 0) dX12_sheet_11 rfl rfl) ?_
  refine zx_putI (pc' := 15) zfr_X12_179 (fun _ => ⟨rfl, rfl⟩) zfd_57_21 dX12_sheet_12 rfl (fun s3 => ?_)
  refine zx_lift (pc' := 16) (fun _ => zq_aload_n rfl rfl dX12_sheet_15 rfl) ?_
  refine zx_lift (pc' := 17) (fun _ => zq_iconst (v := 0) dX12_sheet_16 rfl rfl) ?_
  refine zx_putI (pc' := 20) zfr_X12_193 (fun _ => ⟨rfl, rfl⟩) zfd_57_27 dX12_sheet_17 rfl (fun s4 => ?_)
  refine zx_lift (pc' := 21) (fun _ => zq_aload_n rfl rfl dX12_sheet_20 rfl) ?_
  refine zx_lift (pc' := 22) (fun _ => zq_iconst (v := 0) dX12_sheet_21 rfl rfl) ?_
  refine zx_putI (pc' := 25) zfr_X12_186 (fun _ => ⟨rfl, rfl⟩) zfd_57_28 dX12_sheet_22 rfl (fun s5 => ?_)
  refine zx_lift (pc' := 26) (fun _ => zq_aload_n rfl rfl dX12_sheet_25 rfl) ?_
  refine zx_lift (pc' := 27) (fun _ => zq_iconst (v := 0) dX12_sheet_26 rfl rfl) ?_
  refine zx_putI (pc' := 30) zfr_X12_205 (fun _ => ⟨rfl, rfl⟩) zfd_57_29 dX12_sheet_27 rfl (fun s6 => ?_)
  refine zx_lift (pc' := 31) (fun _ => zq_aload_n rfl rfl dX12_sheet_30 rfl) ?_
  refine zx_lift (pc' := 32) (fun _ => zq_iconst (v := 0) dX12_sheet_31 rfl rfl) ?_
  refine zx_putI (pc' := 35) zfr_X12_216 (fun _ => ⟨rfl, rfl⟩) zfd_57_30 dX12_sheet_32 rfl (fun s7 => ?_)
  refine zx_lift (pc' := 36) (fun _ => zq_aload_n rfl rfl dX12_sheet_35 rfl) ?_
  refine zx_lift (pc' := 37) (fun _ => zq_iconst (v := 0) dX12_sheet_36 rfl rfl) ?_
  refine zx_putI (pc' := 40) zfr_X12_196 (fun _ => ⟨rfl, rfl⟩) zfd_57_31 dX12_sheet_37 rfl (fun s8 => ?_)
  refine zx_lift (pc' := 41) (fun _ => zq_aload_n rfl rfl dX12_sheet_40 rfl) ?_
  refine zx_lift (pc' := 42) (fun _ => zq_iconst (v := 0) dX12_sheet_41 rfl rfl) ?_
  refine zx_putI (pc' := 45) zfr_X12_202 (fun _ => ⟨rfl, rfl⟩) zfd_57_33 dX12_sheet_42 rfl (fun s9 => ?_)
  refine zx_lift (pc' := 46) (fun _ => zq_aload_n rfl rfl dX12_sheet_45 rfl) ?_
  refine zx_lift (pc' := 47) (fun _ => zq_iconst (v := 0) dX12_sheet_46 rfl rfl) ?_
  refine zx_putI (pc' := 50) zfr_X12_212 (fun _ => ⟨by decide, rfl⟩) zfd_57_34 dX12_sheet_47 rfl (fun s10 => ?_)
  refine zx_lift (pc' := 51) (fun _ => zq_iconst (v := 0) dX12_sheet_50 rfl rfl) ?_
  refine zx_lift (pc' := 52) (fun _ => zq_istore_n (ls' := [.ref 57, .int (0 : Int32)]) rfl (by decide) rfl rfl dX12_sheet_51 rfl) ?_
  refine yX12_sheet_52 N _ (fun e15 => ?_) N ((0 : Int32), s10)
  exact xX12_sheet_j71_j N e15.1 e15.2
theorem cX12_sheet_mc (N : Nat)   (s : zq_S) (v : Int32 × zq_S) (h : mX12_sheet N s = some v) : zq_MC yX12_sheet cX12_sheet 2 (some .int) ⟨5, 0, 0, 117⟩ 0 0 [.ref 57] (zq_en s) (zv_i v.1, zq_en v.2) := zq_MC_x [.ref 57, .null] (by decide +kernel) rfl rfl (Nat.le_of_ble_eq_true rfl) (xX12_sheet N s) h
def jX12_wordAt_j47 (N : Nat)   (t0 : Int32) (s : zq_S) : Option (Int32 × zq_S) :=
  some (t0, s)
set_option maxRecDepth 20000 in
set_option maxHeartbeats 2000000 in
theorem xX12_wordAt_j47_j (N : Nat)   (t0 : Int32) (s : zq_S) : zq_X yX12_wordAt RX12 cX12_wordAt 3 (some .int) ⟨1, 0, 0, 25⟩ zv_i 47 [.null, .null, .null] [.int t0] s (jX12_wordAt_j47 N t0 s) := by
  unfold jX12_wordAt_j47
  exact zx_iret rfl dX12_wordAt_47
def mX12_wordAt (N : Nat)  (p1 : Int32) (p2 : Int32) (s : zq_S) : Option (Int32 × zq_S) :=
  if p2 = (-1 : Int32) then
  zq_ck p1 1024 (
  jX12_wordAt_j47 N (zga s 84 p1) s)
  else
  zq_ck p1 1024 (
  zq_b2 (mX12_in N (Int32.toInt64 p2) (0 : Int64) (Int32.toInt64 ((zga s 84 p1) - (1 : Int32))) s) (fun r1 s2 =>
  if r1 = (0 : Int32) then
  jX12_wordAt_j47 N (-1 : Int32) s2
  else
  zq_ck (((40 : Int32) * p1) + p2) 40960 (
  jX12_wordAt_j47 N (zga s2 85 (((40 : Int32) * p1) + p2)) s2)))
set_option maxRecDepth 20000 in
set_option maxHeartbeats 2000000 in
theorem xX12_wordAt (N : Nat)  (p1 : Int32) (p2 : Int32) (s : zq_S) : zq_X yX12_wordAt RX12 cX12_wordAt 3 (some .int) ⟨1, 0, 0, 25⟩ zv_i 0 [.ref 57, .int p1, .int p2] [] s (mX12_wordAt N p1 p2 s) := by
  unfold mX12_wordAt
  refine zx_lift (pc' := 1) (fun _ => zq_iload_n rfl rfl dX12_wordAt_0 rfl) ?_
  refine zx_lift (pc' := 2) (fun _ => zq_iconst (v := (-1)) dX12_wordAt_1 rfl rfl) ?_
  refine zx_icmp_ne (pc' := 5) (tgt := 14) dX12_wordAt_2 rfl rfl (fun hc => ?_) (fun hc => ?_)
  · refine zx_lift (pc' := 15) (fun _ => zq_iload_n rfl rfl dX12_wordAt_14 rfl) ?_
    refine zx_lift (pc' := 16) (fun _ => zq_i2l dX12_wordAt_15 rfl) ?_
    refine zx_lift (pc' := 17) (fun _ => zq_lconst (v := 0) dX12_wordAt_16 rfl rfl) ?_
    refine zx_lift (pc' := 18) (fun _ => zq_aload_n rfl rfl dX12_wordAt_17 rfl) ?_
    refine zx_lift (pc' := 21) (fun _ => zt_getR zfr_X12_94 zfd_57_45 dX12_wordAt_18 rfl) ?_
    refine zx_lift (pc' := 22) (fun _ => zq_iload_n rfl rfl dX12_wordAt_21 rfl) ?_
    refine zx_iaload (pc' := 23) zsh_84 dX12_wordAt_22 rfl ?_
    refine zx_lift (pc' := 24) (fun _ => zq_iconst (v := 1) dX12_wordAt_23 rfl rfl) ?_
    refine zx_lift (pc' := 25) (fun _ => zq_isub dX12_wordAt_24 rfl) ?_
    refine zx_lift (pc' := 26) (fun _ => zq_i2l dX12_wordAt_25 rfl) ?_
    refine zx_cSi (pc' := 29) zcs_X12_144 (cX12_in_mc N (Int32.toInt64 p2) (0 : Int64) (Int32.toInt64 ((zga s 84 p1) - (1 : Int32))) s) rfl (by decide) (Nat.le_of_ble_eq_true rfl) dX12_wordAt_26 rfl rfl (fun r1 s2 => ?_)
    refine zx_if_eq (pc' := 32) (tgt := 46) dX12_wordAt_29 rfl rfl (fun hc => ?_) (fun hc => ?_)
    · refine zx_lift (pc' := 47) (fun _ => zq_iconst (v := (-1)) dX12_wordAt_46 rfl rfl) ?_
      refine zx_less [.null, .null, .null] (zq_cz (zq_cz (zq_cz zq_cn))) ?_
      exact xX12_wordAt_j47_j N (-1 : Int32) s2
    · refine zx_lift (pc' := 33) (fun _ => zq_aload_n rfl rfl dX12_wordAt_32 rfl) ?_
      refine zx_lift (pc' := 36) (fun _ => zt_getR zfr_X12_98 zfd_57_46 dX12_wordAt_33 rfl) ?_
      refine zx_lift (pc' := 38) (fun _ => zq_bipush (v := 40) dX12_wordAt_36 rfl rfl) ?_
      refine zx_lift (pc' := 39) (fun _ => zq_iload_n rfl rfl dX12_wordAt_38 rfl) ?_
      refine zx_lift (pc' := 40) (fun _ => zq_imul dX12_wordAt_39 rfl) ?_
      refine zx_lift (pc' := 41) (fun _ => zq_iload_n rfl rfl dX12_wordAt_40 rfl) ?_
      refine zx_lift (pc' := 42) (fun _ => zq_iadd dX12_wordAt_41 rfl) ?_
      refine zx_iaload (pc' := 43) zsh_85 dX12_wordAt_42 rfl ?_
      refine zx_lift (pc' := 47) (fun _ => zq_goto dX12_wordAt_43 rfl) ?_
      refine zx_less [.null, .null, .null] (zq_cz (zq_cz (zq_cz zq_cn))) ?_
      exact xX12_wordAt_j47_j N (zga s2 85 (((40 : Int32) * p1) + p2)) s2
  · refine zx_lift (pc' := 6) (fun _ => zq_aload_n rfl rfl dX12_wordAt_5 rfl) ?_
    refine zx_lift (pc' := 9) (fun _ => zt_getR zfr_X12_94 zfd_57_45 dX12_wordAt_6 rfl) ?_
    refine zx_lift (pc' := 10) (fun _ => zq_iload_n rfl rfl dX12_wordAt_9 rfl) ?_
    refine zx_iaload (pc' := 11) zsh_84 dX12_wordAt_10 rfl ?_
    refine zx_lift (pc' := 47) (fun _ => zq_goto dX12_wordAt_11 rfl) ?_
    refine zx_less [.null, .null, .null] (zq_cz (zq_cz (zq_cz zq_cn))) ?_
    exact xX12_wordAt_j47_j N (zga s 84 p1) s
theorem cX12_wordAt_mc (N : Nat)  (p1 : Int32) (p2 : Int32) (s : zq_S) (v : Int32 × zq_S) (h : mX12_wordAt N p1 p2 s = some v) : zq_MC yX12_wordAt cX12_wordAt 3 (some .int) ⟨1, 0, 0, 25⟩ 0 0 [.ref 57, .int p1, .int p2] (zq_en s) (zv_i v.1, zq_en v.2) := zq_MC_x [.ref 57, .int p1, .int p2] (by decide +kernel) rfl rfl (Nat.le_of_ble_eq_true rfl) (xX12_wordAt N p1 p2 s) h
def jX12_text_j37 (N : Nat)   (t0 : Int32) (s : zq_S) : Option (Int32 × zq_S) :=
  some (t0, s)
set_option maxRecDepth 20000 in
set_option maxHeartbeats 2000000 in
theorem xX12_text_j37_j (N : Nat)   (t0 : Int32) (s : zq_S) : zq_X yX12_text RX12 cX12_text 3 (some .int) ⟨4, 0, 0, 91⟩ zv_i 37 [.null, .null, .null] [.int t0] s (jX12_text_j37 N t0 s) := by
  unfold jX12_text_j37
  exact zx_iret rfl dX12_text_37
def mX12_text (N : Nat)  (p1 : Int32) (p2 : Int32) (s : zq_S) : Option (Int32 × zq_S) :=
  zq_b2 (mX12_areMarks N p1 s) (fun r1 s2 =>
  if r1 = (0 : Int32) then
  some ((-1001 : Int32), s2)
  else
  zq_b2 (mX12_findTexts N s2) (fun r3 s4 =>
  zq_ck p1 1024 (
  if (zga s4 78 p1) = (0 : Int32) then
  jX12_text_j37 N (-1003 : Int32) s4
  else
  zq_b2 (mX12_wordAt N p1 p2 s4) (fun r5 s6 =>
  jX12_text_j37 N r5 s6))))
set_option maxRecDepth 20000 in
set_option maxHeartbeats 2000000 in
theorem xX12_text (N : Nat)  (p1 : Int32) (p2 : Int32) (s : zq_S) : zq_X yX12_text RX12 cX12_text 3 (some .int) ⟨4, 0, 0, 91⟩ zv_i 0 [.ref 57, .int p1, .int p2] [] s (mX12_text N p1 p2 s) := by
  unfold mX12_text
  refine zx_lift (pc' := 1) (fun _ => zq_aload_n rfl rfl dX12_text_0 rfl) ?_
  refine zx_lift (pc' := 2) (fun _ => zq_iload_n rfl rfl dX12_text_1 rfl) ?_
  refine zx_cVi (pc' := 5) zcv_X12_310 (cX12_areMarks_mc N p1 s) zob_57 rfl (by decide) (Nat.le_of_ble_eq_true rfl) dX12_text_2 rfl rfl (fun r1 s2 => ?_)
  refine zx_if_ne (pc' := 8) (tgt := 12) dX12_text_5 rfl rfl (fun hc => ?_) (fun hc => ?_)
  · refine zx_lift (pc' := 13) (fun _ => zq_aload_n rfl rfl dX12_text_12 rfl) ?_
    refine zx_cVv (pc' := 16) zcv_X12_340 (cX12_findTexts_mc N s2) zob_57 rfl (by decide) (Nat.le_of_ble_eq_true rfl) dX12_text_13 rfl rfl (fun r3 s4 => ?_)
    refine zx_lift (pc' := 17) (fun _ => zq_aload_n rfl rfl dX12_text_16 rfl) ?_
    refine zx_lift (pc' := 20) (fun _ => zt_getR zfr_X12_75 zfd_57_38 dX12_text_17 rfl) ?_
    refine zx_lift (pc' := 21) (fun _ => zq_iload_n rfl rfl dX12_text_20 rfl) ?_
    refine zx_zaload (pc' := 22) zsh_78 dX12_text_21 rfl ?_
    refine zx_if_eq (pc' := 25) (tgt := 34) dX12_text_22 rfl rfl (fun hc => ?_) (fun hc => ?_)
    · refine zx_lift (pc' := 37) (fun _ => zq_sipush (v := (-1003)) dX12_text_34 rfl rfl) ?_
      refine zx_less [.null, .null, .null] (zq_cz (zq_cz (zq_cz zq_cn))) ?_
      exact xX12_text_j37_j N (-1003 : Int32) s4
    · refine zx_lift (pc' := 26) (fun _ => zq_aload_n rfl rfl dX12_text_25 rfl) ?_
      refine zx_lift (pc' := 27) (fun _ => zq_iload_n rfl rfl dX12_text_26 rfl) ?_
      refine zx_lift (pc' := 28) (fun _ => zq_iload_n rfl rfl dX12_text_27 rfl) ?_
      refine zx_cVi (pc' := 31) zcv_X12_343 (cX12_wordAt_mc N p1 p2 s4) zob_57 rfl (by decide) (Nat.le_of_ble_eq_true rfl) dX12_text_28 rfl rfl (fun r5 s6 => ?_)
      refine zx_lift (pc' := 37) (fun _ => zq_goto dX12_text_31 rfl) ?_
      refine zx_less [.null, .null, .null] (zq_cz (zq_cz (zq_cz zq_cn))) ?_
      exact xX12_text_j37_j N r5 s6
  · refine zx_lift (pc' := 11) (fun _ => zq_sipush (v := (-1001)) dX12_text_8 rfl rfl) ?_
    exact zx_iret rfl dX12_text_11
theorem cX12_text_mc (N : Nat)  (p1 : Int32) (p2 : Int32) (s : zq_S) (v : Int32 × zq_S) (h : mX12_text N p1 p2 s = some v) : zq_MC yX12_text cX12_text 3 (some .int) ⟨4, 0, 0, 91⟩ 0 0 [.ref 57, .int p1, .int p2] (zq_en s) (zv_i v.1, zq_en v.2) := zq_MC_x [.ref 57, .int p1, .int p2] (by decide +kernel) rfl rfl (Nat.le_of_ble_eq_true rfl) (xX12_text N p1 p2 s) h
def jX12_times_j51 (N : Nat)  (f1 : Int32) (f2 : Int32)  (self : Int32 × Int32 × zq_S → Option (Int32 × zq_S)) (w3 : Int32) (w4 : Int32) (s : zq_S) : Option (Int32 × zq_S) :=
  zq_let (w4 + (1 : Int32)) (fun x10 =>
  self (w3, x10, s))
set_option maxRecDepth 20000 in
set_option maxHeartbeats 2000000 in
theorem xX12_times_j51_j (N : Nat)  (f1 : Int32) (f2 : Int32)  (self : Int32 × Int32 × zq_S → Option (Int32 × zq_S)) (hself : ∀ v, zq_X yX12_times RX12 cX12_times 5 (some .int) ⟨4, 0, 0, 91⟩ zv_i 21 [.ref 57, .int f1, .int f2, .int v.1, .int v.2.1] [] v.2.2 (self v)) (w3 : Int32) (w4 : Int32) (s : zq_S) : zq_X yX12_times RX12 cX12_times 5 (some .int) ⟨4, 0, 0, 91⟩ zv_i 51 [.ref 57, .int f1, .int f2, .int w3, .int w4] [] s (jX12_times_j51 N f1 f2 self w3 w4 s) := by
  unfold jX12_times_j51
  refine zx_iinc (pc' := 54) (ls' := fun x10 => [.ref 57, .int f1, .int f2, .int w3, .int x10]) rfl rfl (by decide) rfl (fun _ => rfl) dX12_times_51 rfl (fun x10 => ?_)
  refine zx_lift (pc' := 21) (fun _ => zq_goto dX12_times_54 rfl) ?_
  exact hself (w3, x10, s)
def bX12_times_21 (N : Nat)  (f1 : Int32) (f2 : Int32)  (self : Int32 × Int32 × zq_S → Option (Int32 × zq_S)) (v : Int32 × Int32 × zq_S) : Option (Int32 × zq_S) :=
  zq_b2 (mX12_all N v.2.2) (fun r5 s6 =>
  if r5 < v.2.1 then
  zq_let (if f2 = (-1 : Int32) then v.1 else (-1 : Int32)) (fun x7 =>
  some (x7, s6))
  else
  zq_b2 (mX12_isTime N f1 v.2.1 s6) (fun r8 s9 =>
  if r8 = (0 : Int32) then
  jX12_times_j51 N f1 f2 self v.1 v.2.1 s9
  else
  if v.1 = f2 then
  some (v.2.1, s9)
  else
  zq_let (v.1 + (1 : Int32)) (fun x11 =>
  jX12_times_j51 N f1 f2 self x11 v.2.1 s9)))
set_option maxRecDepth 20000 in
set_option maxHeartbeats 2000000 in
theorem xX12_times_21 (N : Nat)  (f1 : Int32) (f2 : Int32)  (self : Int32 × Int32 × zq_S → Option (Int32 × zq_S)) (hself : ∀ v, zq_X yX12_times RX12 cX12_times 5 (some .int) ⟨4, 0, 0, 91⟩ zv_i 21 [.ref 57, .int f1, .int f2, .int v.1, .int v.2.1] [] v.2.2 (self v)) (v : Int32 × Int32 × zq_S) : zq_X yX12_times RX12 cX12_times 5 (some .int) ⟨4, 0, 0, 91⟩ zv_i 21 [.ref 57, .int f1, .int f2, .int v.1, .int v.2.1] [] v.2.2 (bX12_times_21 N f1 f2 self v) := by
  unfold bX12_times_21
  refine zx_lift (pc' := 23) (fun _ => zq_iload rfl dX12_times_21 rfl) ?_
  refine zx_lift (pc' := 24) (fun _ => zq_aload_n rfl rfl dX12_times_23 rfl) ?_
  refine zx_cVi (pc' := 27) zcv_X12_148 (cX12_all_mc N v.2.2) zob_57 rfl (by decide) (Nat.le_of_ble_eq_true rfl) dX12_times_24 rfl rfl (fun r5 s6 => ?_)
  refine zx_icmp_gt (pc' := 30) (tgt := 57) dX12_times_27 rfl rfl (fun hc => ?_) (fun hc => ?_)
  · refine zx_lift (pc' := 58) (fun _ => zq_iload_n rfl rfl dX12_times_57 rfl) ?_
    refine zx_lift (pc' := 59) (fun _ => zq_iconst (v := (-1)) dX12_times_58 rfl rfl) ?_
    refine zx_tern (pcJ := 67) (lsJ := fun x7 => [.null, .null, .null, .null, .null]) (stJ := fun x7 => [.int x7]) (fun x7 => ?_) (fun f hJ => ?_)
    rotate_left
    · refine zx_licmp_ne (pc' := 62) (tgt := 66) dX12_times_59 rfl rfl (fun _ => ?_) (fun _ => ?_)
      · refine zx_lift (pc' := 67) (fun _ => zq_iconst (v := (-1)) dX12_times_66 rfl rfl) ?_
        exact zx_lessJ (zq_cz (zq_cz (zq_cz (zq_cz (zq_cz zq_cn))))) (hJ _)
      · refine zx_lift (pc' := 63) (fun _ => zq_iload_n rfl rfl dX12_times_62 rfl) ?_
        refine zx_lift (pc' := 67) (fun _ => zq_goto dX12_times_63 rfl) ?_
        exact zx_lessJ (zq_cz (zq_cz (zq_cz (zq_cz (zq_cz zq_cn))))) (hJ _)
    exact zx_iret rfl dX12_times_67
  · refine zx_lift (pc' := 31) (fun _ => zq_aload_n rfl rfl dX12_times_30 rfl) ?_
    refine zx_lift (pc' := 32) (fun _ => zq_iload_n rfl rfl dX12_times_31 rfl) ?_
    refine zx_lift (pc' := 34) (fun _ => zq_iload rfl dX12_times_32 rfl) ?_
    refine zx_cVi (pc' := 37) zcv_X12_366 (cX12_isTime_mc N f1 v.2.1 s6) zob_57 rfl (by decide) (Nat.le_of_ble_eq_true rfl) dX12_times_34 rfl rfl (fun r8 s9 => ?_)
    refine zx_if_eq (pc' := 40) (tgt := 51) dX12_times_37 rfl rfl (fun hc => ?_) (fun hc => ?_)
    · exact xX12_times_j51_j N f1 f2 self hself v.1 v.2.1 s9
    · refine zx_lift (pc' := 41) (fun _ => zq_iload_n rfl rfl dX12_times_40 rfl) ?_
      refine zx_lift (pc' := 42) (fun _ => zq_iload_n rfl rfl dX12_times_41 rfl) ?_
      refine zx_icmp_ne (pc' := 45) (tgt := 48) dX12_times_42 rfl rfl (fun hc => ?_) (fun hc => ?_)
      · refine zx_iinc (pc' := 51) (ls' := fun x11 => [.ref 57, .int f1, .int f2, .int x11, .int v.2.1]) rfl rfl (by decide) rfl (fun _ => rfl) dX12_times_48 rfl (fun x11 => ?_)
        exact xX12_times_j51_j N f1 f2 self hself x11 v.2.1 s9
      · refine zx_lift (pc' := 47) (fun _ => zq_iload rfl dX12_times_45 rfl) ?_
        exact zx_iret rfl dX12_times_47
theorem yX12_times_21 (N : Nat)  (f1 : Int32) (f2 : Int32)  (n : Nat) : ∀ v : Int32 × Int32 × zq_S, zq_X yX12_times RX12 cX12_times 5 (some .int) ⟨4, 0, 0, 91⟩ zv_i 21 [.ref 57, .int f1, .int f2, .int v.1, .int v.2.1] [] v.2.2 (zq_loop (bX12_times_21 N f1 f2 ) n v) := by
  induction n with
  | zero => exact fun v u hu => by cases hu
  | succ n ih =>
    intro v
    rw [zq_loop_s]
    exact xX12_times_21 N f1 f2  (zq_loop (bX12_times_21 N f1 f2 ) n) ih v
def mX12_times (N : Nat)  (p1 : Int32) (p2 : Int32) (s : zq_S) : Option (Int32 × zq_S) :=
  zq_b2 (mX12_isCopy N p1 s) (fun r1 s2 =>
  if r1 = (0 : Int32) then
  some ((-1001 : Int32), s2)
  else
  zq_b2 (mX12_findTexts N s2) (fun r3 s4 =>
  zq_loop (bX12_times_21 N p1 p2 ) N ((0 : Int32), (0 : Int32), s4)))
set_option maxRecDepth 20000 in
set_option maxHeartbeats 2000000 in
theorem xX12_times (N : Nat)  (p1 : Int32) (p2 : Int32) (s : zq_S) : zq_X yX12_times RX12 cX12_times 5 (some .int) ⟨4, 0, 0, 91⟩ zv_i 0 [.ref 57, .int p1, .int p2, .null, .null] [] s (mX12_times N p1 p2 s) := by
  unfold mX12_times
  refine zx_lift (pc' := 1) (fun _ => zq_aload_n rfl rfl dX12_times_0 rfl) ?_
  refine zx_lift (pc' := 2) (fun _ => zq_iload_n rfl rfl dX12_times_1 rfl) ?_
  refine zx_cVi (pc' := 5) zcv_X12_363 (cX12_isCopy_mc N p1 s) zob_57 rfl (by decide) (Nat.le_of_ble_eq_true rfl) dX12_times_2 rfl rfl (fun r1 s2 => ?_)
  refine zx_if_ne (pc' := 8) (tgt := 12) dX12_times_5 rfl rfl (fun hc => ?_) (fun hc => ?_)
  · refine zx_lift (pc' := 13) (fun _ => zq_aload_n rfl rfl dX12_times_12 rfl) ?_
    refine zx_cVv (pc' := 16) zcv_X12_340 (cX12_findTexts_mc N s2) zob_57 rfl (by decide) (Nat.le_of_ble_eq_true rfl) dX12_times_13 rfl rfl (fun r3 s4 => ?_)
    refine zx_lift (pc' := 17) (fun _ => zq_iconst (v := 0) dX12_times_16 rfl rfl) ?_
    refine zx_lift (pc' := 18) (fun _ => zq_istore_n (ls' := [.ref 57, .int p1, .int p2, .int (0 : Int32), .null]) rfl (by decide) rfl rfl dX12_times_17 rfl) ?_
    refine zx_lift (pc' := 19) (fun _ => zq_iconst (v := 0) dX12_times_18 rfl rfl) ?_
    refine zx_lift (pc' := 21) (fun _ => zq_istore (ls' := [.ref 57, .int p1, .int p2, .int (0 : Int32), .int (0 : Int32)]) (by decide) rfl rfl dX12_times_19 rfl) ?_
    refine yX12_times_21 N p1 p2  N ((0 : Int32), (0 : Int32), s4)
  · refine zx_lift (pc' := 11) (fun _ => zq_sipush (v := (-1001)) dX12_times_8 rfl rfl) ?_
    exact zx_iret rfl dX12_times_11
theorem cX12_times_mc (N : Nat)  (p1 : Int32) (p2 : Int32) (s : zq_S) (v : Int32 × zq_S) (h : mX12_times N p1 p2 s = some v) : zq_MC yX12_times cX12_times 5 (some .int) ⟨4, 0, 0, 91⟩ 0 0 [.ref 57, .int p1, .int p2] (zq_en s) (zv_i v.1, zq_en v.2) := zq_MC_x [.ref 57, .int p1, .int p2, .null, .null] (by decide +kernel) rfl rfl (Nat.le_of_ble_eq_true rfl) (xX12_times N p1 p2 s) h
