theorem zar_0 : Cond.arrayClass (newarray.typeOf .int) ∈ lw_tbl := List.mem_of_getElem? (i := 196) (by decide +kernel)
theorem zar_1 : Cond.arrayClass (newarray.typeOf .byte) ∈ lw_tbl := List.mem_of_getElem? (i := 195) (by decide +kernel)
theorem zar_2 : Cond.arrayClass (newarray.typeOf .boolean) ∈ lw_tbl := List.mem_of_getElem? (i := 1322) (by decide +kernel)
theorem zar_3 : Cond.arrayClass (newarray.typeOf .long) ∈ lw_tbl := List.mem_of_getElem? (i := 194) (by decide +kernel)
theorem zc_max {sc : Option (Nat × (Nat → Int32))} {y : MethodName} {own : String} {cc : ByteArray} {nL : Nat} {ret : Option FieldType} {rm : Room} {mc ms n0 : Nat} {res : Option Value × List zq_AC} {pc pc' : Nat} {ls st : List Value} {ws : List zq_AC} {cells slots : Nat} {idx : Nat} {x z : Int32} (hc : Cond.methodLink own idx Lib.Math.max.name ∈ lw_tbl ∧ Cond.static Lib.Math.max.name ∈ lw_tbl ∧ Cond.initialized "java/lang/Math" ∈ lw_tbl ∧ Cond.code Lib.Math.max.name Lib.Math.max.code 2 (some .int) ∈ lw_tbl) (hd : decode cc pc = .ok (.invokestatic idx, 3)) (hf : 1 ≤ rm.frames) (hlo : (st.map fun v => v.category).sum + 13 ≤ rm.locals) (hcs : cells ≤ rm.cells ∧ slots ≤ rm.slots) (hn : pc + 3 = pc') (K : zq_R sc y own cc nL ret rm mc ms n0 res pc' ls (.int (if x < z then z else x) :: st) ws cells slots) : zq_R sc y own cc nL ret rm mc ms n0 res pc ls (.int z :: .int x :: st) ws cells slots := by
  subst hn
  intro p l e s m args below meth c H locs D cA em A la h
  have hts := h.1.2.2.2.2.2.2.1
  exact va_mmax h.1.1 h.1.2.1 (h.1.2.2.1.trans h.2.2.1.symm) h.1.2.2.2.2.2.1 (hts _ hc.1 rfl) (hts _ hc.2.1 rfl) (hts _ hc.2.2.1 rfl) (hts _ hc.2.2.2 rfl) hf (by rw [zq_csum]; exact hlo) hcs.1 hcs.2 hd (K p l e s m args below meth c H locs D cA em A la h)
abbrev zw_0 : List zq_AC := [.inr (11, [.null, .null, .null, .null, .null, .null, .null, .null, .null, .null, .null, .null, .int 0])]
theorem zoi_X11_3 : Cond.methodLink RX11 3 Lib.objectInit ∈ lw_tbl ∧ Cond.instanceMethod Lib.objectInit ∈ lw_tbl ∧ Cond.code Lib.objectInit ⟨#[0xb1]⟩ 1 none ∈ lw_tbl := ⟨List.mem_of_getElem? (i := 114) (by decide +kernel), List.mem_of_getElem? (i := 115) (by decide +kernel), List.mem_of_getElem? (i := 116) (by decide +kernel)⟩
theorem znw_X11_9 : zq_nw RX11 9 7 16 [.null, .int 0, .int 0, .null, .null, .null, .int 0, .int 0, .int 0, .null, .null, .null, .null, .null, .null, .null] := ⟨RX7, TX7, tyX7, zc_7, List.mem_of_getElem? (i := 117) (by decide +kernel), List.mem_of_getElem? (i := 118) (by decide +kernel), List.mem_of_getElem? (i := 93) (by decide +kernel), by decide⟩
abbrev zw_1 : List zq_AC := [.inr (11, [.null, .null, .null, .null, .null, .null, .null, .null, .null, .null, .null, .null, .int 0]),
  .inl (3, 4096, .inr (.inl (fun _ => 0))),
  .inr (7, [.null, .int 0, .int 0, .null, .null, .null, .int 0, .int 0, .int 0, .null, .null, .null, .null, .null, .null, .null])]
theorem zoi_X7_3 : Cond.methodLink RX7 3 Lib.objectInit ∈ lw_tbl ∧ Cond.instanceMethod Lib.objectInit ∈ lw_tbl ∧ Cond.code Lib.objectInit ⟨#[0xb1]⟩ 1 none ∈ lw_tbl := ⟨List.mem_of_getElem? (i := 122) (by decide +kernel), List.mem_of_getElem? (i := 115) (by decide +kernel), List.mem_of_getElem? (i := 116) (by decide +kernel)⟩
theorem zpf_X7_9 : ∃ (C : String) (T : u_T) (N : Nat) (ty0 : Nat → FieldType), zq_cl 7 C T N ty0 ∧ 0 < N ∧ (T 0).2.2.2 = true ∧ ty0 0 = tyX7 0 ∧ (T 0).1 = RX7 ∧ Cond.fieldLink RX7 9 (T 0).1 (T 0).2.1 (T 0).2.2.1 ∈ lw_tbl := ⟨RX7, TX7, 16, tyX7, zc_7, by decide, rfl, rfl, rfl, List.mem_of_getElem? (i := 123) (by decide +kernel)⟩
theorem zpf_X7_15 : ∃ (C : String) (T : u_T) (N : Nat) (ty0 : Nat → FieldType), zq_cl 7 C T N ty0 ∧ 3 < N ∧ (T 3).2.2.2 = true ∧ ty0 3 = tyX7 3 ∧ (T 3).1 = RX7 ∧ Cond.fieldLink RX7 15 (T 3).1 (T 3).2.1 (T 3).2.2.1 ∈ lw_tbl := ⟨RX7, TX7, 16, tyX7, zc_7, by decide, rfl, rfl, rfl, List.mem_of_getElem? (i := 128) (by decide +kernel)⟩
theorem zpf_X7_19 : ∃ (C : String) (T : u_T) (N : Nat) (ty0 : Nat → FieldType), zq_cl 7 C T N ty0 ∧ 4 < N ∧ (T 4).2.2.2 = true ∧ ty0 4 = tyX7 4 ∧ (T 4).1 = RX7 ∧ Cond.fieldLink RX7 19 (T 4).1 (T 4).2.1 (T 4).2.2.1 ∈ lw_tbl := ⟨RX7, TX7, 16, tyX7, zc_7, by decide, rfl, rfl, rfl, List.mem_of_getElem? (i := 130) (by decide +kernel)⟩
theorem zpf_X7_22 : ∃ (C : String) (T : u_T) (N : Nat) (ty0 : Nat → FieldType), zq_cl 7 C T N ty0 ∧ 5 < N ∧ (T 5).2.2.2 = true ∧ ty0 5 = tyX7 5 ∧ (T 5).1 = RX7 ∧ Cond.fieldLink RX7 22 (T 5).1 (T 5).2.1 (T 5).2.2.1 ∈ lw_tbl := ⟨RX7, TX7, 16, tyX7, zc_7, by decide, rfl, rfl, rfl, List.mem_of_getElem? (i := 132) (by decide +kernel)⟩
theorem zpf_X7_25 : ∃ (C : String) (T : u_T) (N : Nat) (ty0 : Nat → FieldType), zq_cl 7 C T N ty0 ∧ 9 < N ∧ (T 9).2.2.2 = true ∧ ty0 9 = tyX7 9 ∧ (T 9).1 = RX7 ∧ Cond.fieldLink RX7 25 (T 9).1 (T 9).2.1 (T 9).2.2.1 ∈ lw_tbl := ⟨RX7, TX7, 16, tyX7, zc_7, by decide, rfl, rfl, rfl, List.mem_of_getElem? (i := 145) (by decide +kernel)⟩
theorem zpf_X7_28 : ∃ (C : String) (T : u_T) (N : Nat) (ty0 : Nat → FieldType), zq_cl 7 C T N ty0 ∧ 10 < N ∧ (T 10).2.2.2 = true ∧ ty0 10 = tyX7 10 ∧ (T 10).1 = RX7 ∧ Cond.fieldLink RX7 28 (T 10).1 (T 10).2.1 (T 10).2.2.1 ∈ lw_tbl := ⟨RX7, TX7, 16, tyX7, zc_7, by decide, rfl, rfl, rfl, List.mem_of_getElem? (i := 147) (by decide +kernel)⟩
theorem zpf_X7_31 : ∃ (C : String) (T : u_T) (N : Nat) (ty0 : Nat → FieldType), zq_cl 7 C T N ty0 ∧ 11 < N ∧ (T 11).2.2.2 = true ∧ ty0 11 = tyX7 11 ∧ (T 11).1 = RX7 ∧ Cond.fieldLink RX7 31 (T 11).1 (T 11).2.1 (T 11).2.2.1 ∈ lw_tbl := ⟨RX7, TX7, 16, tyX7, zc_7, by decide, rfl, rfl, rfl, List.mem_of_getElem? (i := 150) (by decide +kernel)⟩
theorem zpf_X7_34 : ∃ (C : String) (T : u_T) (N : Nat) (ty0 : Nat → FieldType), zq_cl 7 C T N ty0 ∧ 12 < N ∧ (T 12).2.2.2 = true ∧ ty0 12 = tyX7 12 ∧ (T 12).1 = RX7 ∧ Cond.fieldLink RX7 34 (T 12).1 (T 12).2.1 (T 12).2.2.1 ∈ lw_tbl := ⟨RX7, TX7, 16, tyX7, zc_7, by decide, rfl, rfl, rfl, List.mem_of_getElem? (i := 153) (by decide +kernel)⟩
theorem zpf_X7_37 : ∃ (C : String) (T : u_T) (N : Nat) (ty0 : Nat → FieldType), zq_cl 7 C T N ty0 ∧ 13 < N ∧ (T 13).2.2.2 = true ∧ ty0 13 = tyX7 13 ∧ (T 13).1 = RX7 ∧ Cond.fieldLink RX7 37 (T 13).1 (T 13).2.1 (T 13).2.2.1 ∈ lw_tbl := ⟨RX7, TX7, 16, tyX7, zc_7, by decide, rfl, rfl, rfl, List.mem_of_getElem? (i := 155) (by decide +kernel)⟩
theorem zpf_X7_40 : ∃ (C : String) (T : u_T) (N : Nat) (ty0 : Nat → FieldType), zq_cl 7 C T N ty0 ∧ 14 < N ∧ (T 14).2.2.2 = true ∧ ty0 14 = tyX7 14 ∧ (T 14).1 = RX7 ∧ Cond.fieldLink RX7 40 (T 14).1 (T 14).2.1 (T 14).2.2.1 ∈ lw_tbl := ⟨RX7, TX7, 16, tyX7, zc_7, by decide, rfl, rfl, rfl, List.mem_of_getElem? (i := 157) (by decide +kernel)⟩
theorem zpf_X7_43 : ∃ (C : String) (T : u_T) (N : Nat) (ty0 : Nat → FieldType), zq_cl 7 C T N ty0 ∧ 15 < N ∧ (T 15).2.2.2 = true ∧ ty0 15 = tyX7 15 ∧ (T 15).1 = RX7 ∧ Cond.fieldLink RX7 43 (T 15).1 (T 15).2.1 (T 15).2.2.1 ∈ lw_tbl := ⟨RX7, TX7, 16, tyX7, zc_7, by decide, rfl, rfl, rfl, List.mem_of_getElem? (i := 159) (by decide +kernel)⟩
abbrev zw_3 : List zq_AC := [.inr (11, [.null, .null, .null, .null, .null, .null, .null, .null, .null, .null, .null, .null, .int 0]),
  .inl (3, 4096, .inr (.inl (fun _ => 0))),
  .inr (7, [.ref 3, .int 0, .int 0, .ref 4, .ref 5, .ref 6, .int 0, .int 0, .int 0, .ref 7, .ref 8, .ref 9, .ref 10, .ref 11, .ref 12, .ref 13]),
  .inl (1, 400, .inl (fun _ => 0)),
  .inl (0, 100, .inl (fun _ => 0)),
  .inl (0, 100, .inl (fun _ => 0)),
  .inl (0, 100, .inl (fun _ => 0)),
  .inl (0, 10, .inl (fun _ => 0)),
  .inl (0, 10, .inl (fun _ => 0)),
  .inl (0, 10, .inl (fun _ => 0)),
  .inl (0, 10, .inl (fun _ => 0)),
  .inl (0, 10, .inl (fun _ => 0)),
  .inl (0, 10, .inl (fun _ => 0)),
  .inl (0, 10, .inl (fun _ => 0))]
set_option maxRecDepth 40000 in
set_option maxHeartbeats 4000000 in
theorem zct_2 : zq_MC yX7_init cX7_init 1 none ⟨1, 11, 770, 20⟩ 11 770 [.ref 2] zw_1 (none, zw_3) := by
  refine zq_MC_of (own := RX7) [.ref 2] (by decide +kernel) rfl rfl (by decide) ?_
  refine zq_aload_n (pc' := 1) rfl rfl dX7_init_0 rfl ?_
  refine zq_oinit (pc' := 4) zoi_X7_3 dX7_init_1 (by decide) (by decide) rfl ?_
  refine zq_aload_n (pc' := 5) rfl rfl dX7_init_4 rfl ?_
  refine zq_sipush (pc' := 8) (v := 400) dX7_init_5 rfl rfl ?_
  refine zq_newa (pc' := 10) (atype := .byte) (kd := 1) (N := 400) (a0 := (400, .inl (fun _ => 0))) zar_1 (fun _ => rfl) (fun _ _ h => h) (fun _ => rfl) (by decide) (by decide) (by decide) (by decide) rfl (by decide) (by decide) (by decide) dX7_init_8 rfl ?_
  refine zq_putF (pc' := 13) zpf_X7_9 rfl (fun _ => ⟨rfl, rfl⟩) rfl (by decide) dX7_init_10 rfl ?_
  refine zq_aload_n (pc' := 14) rfl rfl dX7_init_13 rfl ?_
  refine zq_bipush (pc' := 16) (v := 100) dX7_init_14 rfl rfl ?_
  refine zq_newa (pc' := 18) (atype := .int) (kd := 0) (N := 100) (a0 := (100, .inl (fun _ => 0))) zar_0 (fun _ => rfl) (fun _ _ h => h) (fun _ => rfl) (by decide) (by decide) (by decide) (by decide) rfl (by decide) (by decide) (by decide) dX7_init_16 rfl ?_
  refine zq_putF (pc' := 21) zpf_X7_15 rfl (fun _ => ⟨rfl, rfl⟩) rfl (by decide) dX7_init_18 rfl ?_
  refine zq_aload_n (pc' := 22) rfl rfl dX7_init_21 rfl ?_
  refine zq_bipush (pc' := 24) (v := 100) dX7_init_22 rfl rfl ?_
  refine zq_newa (pc' := 26) (atype := .int) (kd := 0) (N := 100) (a0 := (100, .inl (fun _ => 0))) zar_0 (fun _ => rfl) (fun _ _ h => h) (fun _ => rfl) (by decide) (by decide) (by decide) (by decide) rfl (by decide) (by decide) (by decide) dX7_init_24 rfl ?_
  refine zq_putF (pc' := 29) zpf_X7_19 rfl (fun _ => ⟨rfl, rfl⟩) rfl (by decide) dX7_init_26 rfl ?_
  refine zq_aload_n (pc' := 30) rfl rfl dX7_init_29 rfl ?_
  refine zq_bipush (pc' := 32) (v := 100) dX7_init_30 rfl rfl ?_
  refine zq_newa (pc' := 34) (atype := .int) (kd := 0) (N := 100) (a0 := (100, .inl (fun _ => 0))) zar_0 (fun _ => rfl) (fun _ _ h => h) (fun _ => rfl) (by decide) (by decide) (by decide) (by decide) rfl (by decide) (by decide) (by decide) dX7_init_32 rfl ?_
  refine zq_putF (pc' := 37) zpf_X7_22 rfl (fun _ => ⟨rfl, rfl⟩) rfl (by decide) dX7_init_34 rfl ?_
  refine zq_aload_n (pc' := 38) rfl rfl dX7_init_37 rfl ?_
  refine zq_bipush (pc' := 40) (v := 10) dX7_init_38 rfl rfl ?_
  refine zq_newa (pc' := 42) (atype := .int) (kd := 0) (N := 10) (a0 := (10, .inl (fun _ => 0))) zar_0 (fun _ => rfl) (fun _ _ h => h) (fun _ => rfl) (by decide) (by decide) (by decide) (by decide) rfl (by decide) (by decide) (by decide) dX7_init_40 rfl ?_
  refine zq_putF (pc' := 45) zpf_X7_25 rfl (fun _ => ⟨rfl, rfl⟩) rfl (by decide) dX7_init_42 rfl ?_
  refine zq_aload_n (pc' := 46) rfl rfl dX7_init_45 rfl ?_
  refine zq_bipush (pc' := 48) (v := 10) dX7_init_46 rfl rfl ?_
  refine zq_newa (pc' := 50) (atype := .int) (kd := 0) (N := 10) (a0 := (10, .inl (fun _ => 0))) zar_0 (fun _ => rfl) (fun _ _ h => h) (fun _ => rfl) (by decide) (by decide) (by decide) (by decide) rfl (by decide) (by decide) (by decide) dX7_init_48 rfl ?_
  refine zq_putF (pc' := 53) zpf_X7_28 rfl (fun _ => ⟨rfl, rfl⟩) rfl (by decide) dX7_init_50 rfl ?_
  refine zq_aload_n (pc' := 54) rfl rfl dX7_init_53 rfl ?_
  refine zq_bipush (pc' := 56) (v := 10) dX7_init_54 rfl rfl ?_
  refine zq_newa (pc' := 58) (atype := .int) (kd := 0) (N := 10) (a0 := (10, .inl (fun _ => 0))) zar_0 (fun _ => rfl) (fun _ _ h => h) (fun _ => rfl) (by decide) (by decide) (by decide) (by decide) rfl (by decide) (by decide) (by decide) dX7_init_56 rfl ?_
  refine zq_putF (pc' := 61) zpf_X7_31 rfl (fun _ => ⟨rfl, rfl⟩) rfl (by decide) dX7_init_58 rfl ?_
  refine zq_aload_n (pc' := 62) rfl rfl dX7_init_61 rfl ?_
  refine zq_bipush (pc' := 64) (v := 10) dX7_init_62 rfl rfl ?_
  refine zq_newa (pc' := 66) (atype := .int) (kd := 0) (N := 10) (a0 := (10, .inl (fun _ => 0))) zar_0 (fun _ => rfl) (fun _ _ h => h) (fun _ => rfl) (by decide) (by decide) (by decide) (by decide) rfl (by decide) (by decide) (by decide) dX7_init_64 rfl ?_
  refine zq_putF (pc' := 69) zpf_X7_34 rfl (fun _ => ⟨rfl, rfl⟩) rfl (by decide) dX7_init_66 rfl ?_
  refine zq_aload_n (pc' := 70) rfl rfl dX7_init_69 rfl ?_
  refine zq_bipush (pc' := 72) (v := 10) dX7_init_70 rfl rfl ?_
  refine zq_newa (pc' := 74) (atype := .int) (kd := 0) (N := 10) (a0 := (10, .inl (fun _ => 0))) zar_0 (fun _ => rfl) (fun _ _ h => h) (fun _ => rfl) (by decide) (by decide) (by decide) (by decide) rfl (by decide) (by decide) (by decide) dX7_init_72 rfl ?_
  refine zq_putF (pc' := 77) zpf_X7_37 rfl (fun _ => ⟨rfl, rfl⟩) rfl (by decide) dX7_init_74 rfl ?_
  refine zq_aload_n (pc' := 78) rfl rfl dX7_init_77 rfl ?_
  refine zq_bipush (pc' := 80) (v := 10) dX7_init_78 rfl rfl ?_
  refine zq_newa (pc' := 82) (atype := .int) (kd := 0) (N := 10) (a0 := (10, .inl (fun _ => 0))) zar_0 (fun _ => rfl) (fun _ _ h => h) (fun _ => rfl) (by decide) (by decide) (by decide) (by decide) rfl (by decide) (by decide) (by decide) dX7_init_80 rfl ?_
  refine zq_putF (pc' := 85) zpf_X7_40 rfl (fun _ => ⟨rfl, rfl⟩) rfl (by decide) dX7_init_82 rfl ?_
  refine zq_aload_n (pc' := 86) rfl rfl dX7_init_85 rfl ?_
  refine zq_bipush (pc' := 88) (v := 10) dX7_init_86 rfl rfl ?_
  refine zq_newa (pc' := 90) (atype := .int) (kd := 0) (N := 10) (a0 := (10, .inl (fun _ => 0))) zar_0 (fun _ => rfl) (fun _ _ h => h) (fun _ => rfl) (by decide) (by decide) (by decide) (by decide) rfl (by decide) (by decide) (by decide) dX7_init_88 rfl ?_
  refine zq_putF (pc' := 93) zpf_X7_43 rfl (fun _ => ⟨rfl, rfl⟩) rfl (by decide) dX7_init_90 rfl ?_
  exact zq_vret rfl rfl rfl rfl dX7_init_93
theorem zci_X11_11 : (Cond.methodLinkNest RX11 11 yX7_init "CrossedSheets" ∈ lw_tbl ∧ Cond.initialized yX7_init.cls ∈ lw_tbl ∧ Cond.code yX7_init cX7_init 1 none ∈ lw_tbl ∧ (yX7_init.cls ≠ "java/lang/invoke/MethodHandle" ∧ yX7_init.cls ≠ "java/lang/invoke/VarHandle" ∧ (parseMethodDescriptor yX7_init.desc).map (fun d => d.parameters.length) = some 0)) ∧ Cond.instanceMethod yX7_init ∈ lw_tbl ∧ yX7_init.name = "<init>" := ⟨⟨List.mem_of_getElem? (i := 119) (by decide +kernel), List.mem_of_getElem? (i := 93) (by decide +kernel), List.mem_of_getElem? (i := 121) (by decide +kernel), by decide +kernel, by decide +kernel, by decide +kernel⟩, List.mem_of_getElem? (i := 120) (by decide +kernel), rfl⟩
theorem zpn_X11_12 : zq_fr RX11 12 11 10 false (tyX11 10) := ⟨RX11, TX11, 13, tyX11, zc_11, by decide, rfl, rfl, rfl, Or.inl (List.mem_of_getElem? (i := 464) (by decide +kernel))⟩
abbrev zw_4 : List zq_AC := [.inr (11, [.null, .null, .null, .null, .null, .null, .null, .null, .null, .null, .ref 2, .null, .int 0]),
  .inl (3, 4096, .inr (.inl (fun _ => 0))),
  .inr (7, [.ref 3, .int 0, .int 0, .ref 4, .ref 5, .ref 6, .int 0, .int 0, .int 0, .ref 7, .ref 8, .ref 9, .ref 10, .ref 11, .ref 12, .ref 13]),
  .inl (1, 400, .inl (fun _ => 0)),
  .inl (0, 100, .inl (fun _ => 0)),
  .inl (0, 100, .inl (fun _ => 0)),
  .inl (0, 100, .inl (fun _ => 0)),
  .inl (0, 10, .inl (fun _ => 0)),
  .inl (0, 10, .inl (fun _ => 0)),
  .inl (0, 10, .inl (fun _ => 0)),
  .inl (0, 10, .inl (fun _ => 0)),
  .inl (0, 10, .inl (fun _ => 0)),
  .inl (0, 10, .inl (fun _ => 0)),
  .inl (0, 10, .inl (fun _ => 0)),
  .inr (7, [.null, .int 0, .int 0, .null, .null, .null, .int 0, .int 0, .int 0, .null, .null, .null, .null, .null, .null, .null])]
abbrev zw_6 : List zq_AC := [.inr (11, [.null, .null, .null, .null, .null, .null, .null, .null, .null, .null, .ref 2, .null, .int 0]),
  .inl (3, 4096, .inr (.inl (fun _ => 0))),
  .inr (7, [.ref 3, .int 0, .int 0, .ref 4, .ref 5, .ref 6, .int 0, .int 0, .int 0, .ref 7, .ref 8, .ref 9, .ref 10, .ref 11, .ref 12, .ref 13]),
  .inl (1, 400, .inl (fun _ => 0)),
  .inl (0, 100, .inl (fun _ => 0)),
  .inl (0, 100, .inl (fun _ => 0)),
  .inl (0, 100, .inl (fun _ => 0)),
  .inl (0, 10, .inl (fun _ => 0)),
  .inl (0, 10, .inl (fun _ => 0)),
  .inl (0, 10, .inl (fun _ => 0)),
  .inl (0, 10, .inl (fun _ => 0)),
  .inl (0, 10, .inl (fun _ => 0)),
  .inl (0, 10, .inl (fun _ => 0)),
  .inl (0, 10, .inl (fun _ => 0)),
  .inr (7, [.ref 15, .int 0, .int 0, .ref 16, .ref 17, .ref 18, .int 0, .int 0, .int 0, .ref 19, .ref 20, .ref 21, .ref 22, .ref 23, .ref 24, .ref 25]),
  .inl (1, 400, .inl (fun _ => 0)),
  .inl (0, 100, .inl (fun _ => 0)),
  .inl (0, 100, .inl (fun _ => 0)),
  .inl (0, 100, .inl (fun _ => 0)),
  .inl (0, 10, .inl (fun _ => 0)),
  .inl (0, 10, .inl (fun _ => 0)),
  .inl (0, 10, .inl (fun _ => 0)),
  .inl (0, 10, .inl (fun _ => 0)),
  .inl (0, 10, .inl (fun _ => 0)),
  .inl (0, 10, .inl (fun _ => 0)),
  .inl (0, 10, .inl (fun _ => 0))]
set_option maxRecDepth 40000 in
set_option maxHeartbeats 4000000 in
theorem zct_5 : zq_MC yX7_init cX7_init 1 none ⟨1, 11, 770, 20⟩ 11 770 [.ref 14] zw_4 (none, zw_6) := by
  refine zq_MC_of (own := RX7) [.ref 14] (by decide +kernel) rfl rfl (by decide) ?_
  refine zq_aload_n (pc' := 1) rfl rfl dX7_init_0 rfl ?_
  refine zq_oinit (pc' := 4) zoi_X7_3 dX7_init_1 (by decide) (by decide) rfl ?_
  refine zq_aload_n (pc' := 5) rfl rfl dX7_init_4 rfl ?_
  refine zq_sipush (pc' := 8) (v := 400) dX7_init_5 rfl rfl ?_
  refine zq_newa (pc' := 10) (atype := .byte) (kd := 1) (N := 400) (a0 := (400, .inl (fun _ => 0))) zar_1 (fun _ => rfl) (fun _ _ h => h) (fun _ => rfl) (by decide) (by decide) (by decide) (by decide) rfl (by decide) (by decide) (by decide) dX7_init_8 rfl ?_
  refine zq_putF (pc' := 13) zpf_X7_9 rfl (fun _ => ⟨rfl, rfl⟩) rfl (by decide) dX7_init_10 rfl ?_
  refine zq_aload_n (pc' := 14) rfl rfl dX7_init_13 rfl ?_
  refine zq_bipush (pc' := 16) (v := 100) dX7_init_14 rfl rfl ?_
  refine zq_newa (pc' := 18) (atype := .int) (kd := 0) (N := 100) (a0 := (100, .inl (fun _ => 0))) zar_0 (fun _ => rfl) (fun _ _ h => h) (fun _ => rfl) (by decide) (by decide) (by decide) (by decide) rfl (by decide) (by decide) (by decide) dX7_init_16 rfl ?_
  refine zq_putF (pc' := 21) zpf_X7_15 rfl (fun _ => ⟨rfl, rfl⟩) rfl (by decide) dX7_init_18 rfl ?_
  refine zq_aload_n (pc' := 22) rfl rfl dX7_init_21 rfl ?_
  refine zq_bipush (pc' := 24) (v := 100) dX7_init_22 rfl rfl ?_
  refine zq_newa (pc' := 26) (atype := .int) (kd := 0) (N := 100) (a0 := (100, .inl (fun _ => 0))) zar_0 (fun _ => rfl) (fun _ _ h => h) (fun _ => rfl) (by decide) (by decide) (by decide) (by decide) rfl (by decide) (by decide) (by decide) dX7_init_24 rfl ?_
  refine zq_putF (pc' := 29) zpf_X7_19 rfl (fun _ => ⟨rfl, rfl⟩) rfl (by decide) dX7_init_26 rfl ?_
  refine zq_aload_n (pc' := 30) rfl rfl dX7_init_29 rfl ?_
  refine zq_bipush (pc' := 32) (v := 100) dX7_init_30 rfl rfl ?_
  refine zq_newa (pc' := 34) (atype := .int) (kd := 0) (N := 100) (a0 := (100, .inl (fun _ => 0))) zar_0 (fun _ => rfl) (fun _ _ h => h) (fun _ => rfl) (by decide) (by decide) (by decide) (by decide) rfl (by decide) (by decide) (by decide) dX7_init_32 rfl ?_
  refine zq_putF (pc' := 37) zpf_X7_22 rfl (fun _ => ⟨rfl, rfl⟩) rfl (by decide) dX7_init_34 rfl ?_
  refine zq_aload_n (pc' := 38) rfl rfl dX7_init_37 rfl ?_
  refine zq_bipush (pc' := 40) (v := 10) dX7_init_38 rfl rfl ?_
  refine zq_newa (pc' := 42) (atype := .int) (kd := 0) (N := 10) (a0 := (10, .inl (fun _ => 0))) zar_0 (fun _ => rfl) (fun _ _ h => h) (fun _ => rfl) (by decide) (by decide) (by decide) (by decide) rfl (by decide) (by decide) (by decide) dX7_init_40 rfl ?_
  refine zq_putF (pc' := 45) zpf_X7_25 rfl (fun _ => ⟨rfl, rfl⟩) rfl (by decide) dX7_init_42 rfl ?_
  refine zq_aload_n (pc' := 46) rfl rfl dX7_init_45 rfl ?_
  refine zq_bipush (pc' := 48) (v := 10) dX7_init_46 rfl rfl ?_
  refine zq_newa (pc' := 50) (atype := .int) (kd := 0) (N := 10) (a0 := (10, .inl (fun _ => 0))) zar_0 (fun _ => rfl) (fun _ _ h => h) (fun _ => rfl) (by decide) (by decide) (by decide) (by decide) rfl (by decide) (by decide) (by decide) dX7_init_48 rfl ?_
  refine zq_putF (pc' := 53) zpf_X7_28 rfl (fun _ => ⟨rfl, rfl⟩) rfl (by decide) dX7_init_50 rfl ?_
  refine zq_aload_n (pc' := 54) rfl rfl dX7_init_53 rfl ?_
  refine zq_bipush (pc' := 56) (v := 10) dX7_init_54 rfl rfl ?_
  refine zq_newa (pc' := 58) (atype := .int) (kd := 0) (N := 10) (a0 := (10, .inl (fun _ => 0))) zar_0 (fun _ => rfl) (fun _ _ h => h) (fun _ => rfl) (by decide) (by decide) (by decide) (by decide) rfl (by decide) (by decide) (by decide) dX7_init_56 rfl ?_
  refine zq_putF (pc' := 61) zpf_X7_31 rfl (fun _ => ⟨rfl, rfl⟩) rfl (by decide) dX7_init_58 rfl ?_
  refine zq_aload_n (pc' := 62) rfl rfl dX7_init_61 rfl ?_
  refine zq_bipush (pc' := 64) (v := 10) dX7_init_62 rfl rfl ?_
  refine zq_newa (pc' := 66) (atype := .int) (kd := 0) (N := 10) (a0 := (10, .inl (fun _ => 0))) zar_0 (fun _ => rfl) (fun _ _ h => h) (fun _ => rfl) (by decide) (by decide) (by decide) (by decide) rfl (by decide) (by decide) (by decide) dX7_init_64 rfl ?_
  refine zq_putF (pc' := 69) zpf_X7_34 rfl (fun _ => ⟨rfl, rfl⟩) rfl (by decide) dX7_init_66 rfl ?_
  refine zq_aload_n (pc' := 70) rfl rfl dX7_init_69 rfl ?_
  refine zq_bipush (pc' := 72) (v := 10) dX7_init_70 rfl rfl ?_
  refine zq_newa (pc' := 74) (atype := .int) (kd := 0) (N := 10) (a0 := (10, .inl (fun _ => 0))) zar_0 (fun _ => rfl) (fun _ _ h => h) (fun _ => rfl) (by decide) (by decide) (by decide) (by decide) rfl (by decide) (by decide) (by decide) dX7_init_72 rfl ?_
  refine zq_putF (pc' := 77) zpf_X7_37 rfl (fun _ => ⟨rfl, rfl⟩) rfl (by decide) dX7_init_74 rfl ?_
  refine zq_aload_n (pc' := 78) rfl rfl dX7_init_77 rfl ?_
  refine zq_bipush (pc' := 80) (v := 10) dX7_init_78 rfl rfl ?_
  refine zq_newa (pc' := 82) (atype := .int) (kd := 0) (N := 10) (a0 := (10, .inl (fun _ => 0))) zar_0 (fun _ => rfl) (fun _ _ h => h) (fun _ => rfl) (by decide) (by decide) (by decide) (by decide) rfl (by decide) (by decide) (by decide) dX7_init_80 rfl ?_
  refine zq_putF (pc' := 85) zpf_X7_40 rfl (fun _ => ⟨rfl, rfl⟩) rfl (by decide) dX7_init_82 rfl ?_
  refine zq_aload_n (pc' := 86) rfl rfl dX7_init_85 rfl ?_
  refine zq_bipush (pc' := 88) (v := 10) dX7_init_86 rfl rfl ?_
  refine zq_newa (pc' := 90) (atype := .int) (kd := 0) (N := 10) (a0 := (10, .inl (fun _ => 0))) zar_0 (fun _ => rfl) (fun _ _ h => h) (fun _ => rfl) (by decide) (by decide) (by decide) (by decide) rfl (by decide) (by decide) (by decide) dX7_init_88 rfl ?_
  refine zq_putF (pc' := 93) zpf_X7_43 rfl (fun _ => ⟨rfl, rfl⟩) rfl (by decide) dX7_init_90 rfl ?_
  exact zq_vret rfl rfl rfl rfl dX7_init_93
theorem zpn_X11_16 : zq_fr RX11 16 11 11 false (tyX11 11) := ⟨RX11, TX11, 13, tyX11, zc_11, by decide, rfl, rfl, rfl, Or.inl (List.mem_of_getElem? (i := 465) (by decide +kernel))⟩
theorem znw_X11_19 : zq_nw RX11 19 5 12 [.null, .int 0, .int 0, .null, .int 0, .null, .int 0, .int 0, .int 0, .int 0, .null, .null] := ⟨RX5, TX5, tyX5, zc_5, List.mem_of_getElem? (i := 197) (by decide +kernel), List.mem_of_getElem? (i := 198) (by decide +kernel), List.mem_of_getElem? (i := 94) (by decide +kernel), by decide⟩
theorem zgn_X11_16 : zq_fr RX11 16 11 11 false (tyX11 11) := ⟨RX11, TX11, 13, tyX11, zc_11, by decide, rfl, rfl, rfl, Or.inl (List.mem_of_getElem? (i := 465) (by decide +kernel))⟩
abbrev zw_7 : List zq_AC := [.inr (11, [.null, .null, .null, .null, .null, .null, .null, .null, .null, .null, .ref 2, .ref 14, .int 0]),
  .inl (3, 4096, .inr (.inl (fun _ => 0))),
  .inr (7, [.ref 3, .int 0, .int 0, .ref 4, .ref 5, .ref 6, .int 0, .int 0, .int 0, .ref 7, .ref 8, .ref 9, .ref 10, .ref 11, .ref 12, .ref 13]),
  .inl (1, 400, .inl (fun _ => 0)),
  .inl (0, 100, .inl (fun _ => 0)),
  .inl (0, 100, .inl (fun _ => 0)),
  .inl (0, 100, .inl (fun _ => 0)),
  .inl (0, 10, .inl (fun _ => 0)),
  .inl (0, 10, .inl (fun _ => 0)),
  .inl (0, 10, .inl (fun _ => 0)),
  .inl (0, 10, .inl (fun _ => 0)),
  .inl (0, 10, .inl (fun _ => 0)),
  .inl (0, 10, .inl (fun _ => 0)),
  .inl (0, 10, .inl (fun _ => 0)),
  .inr (7, [.ref 15, .int 0, .int 0, .ref 16, .ref 17, .ref 18, .int 0, .int 0, .int 0, .ref 19, .ref 20, .ref 21, .ref 22, .ref 23, .ref 24, .ref 25]),
  .inl (1, 400, .inl (fun _ => 0)),
  .inl (0, 100, .inl (fun _ => 0)),
  .inl (0, 100, .inl (fun _ => 0)),
  .inl (0, 100, .inl (fun _ => 0)),
  .inl (0, 10, .inl (fun _ => 0)),
  .inl (0, 10, .inl (fun _ => 0)),
  .inl (0, 10, .inl (fun _ => 0)),
  .inl (0, 10, .inl (fun _ => 0)),
  .inl (0, 10, .inl (fun _ => 0)),
  .inl (0, 10, .inl (fun _ => 0)),
  .inl (0, 10, .inl (fun _ => 0)),
  .inr (5, [.null, .int 0, .int 0, .null, .int 0, .null, .int 0, .int 0, .int 0, .int 0, .null, .null])]
theorem zoi_X5_3 : Cond.methodLink RX5 3 Lib.objectInit ∈ lw_tbl ∧ Cond.instanceMethod Lib.objectInit ∈ lw_tbl ∧ Cond.code Lib.objectInit ⟨#[0xb1]⟩ 1 none ∈ lw_tbl := ⟨List.mem_of_getElem? (i := 202) (by decide +kernel), List.mem_of_getElem? (i := 115) (by decide +kernel), List.mem_of_getElem? (i := 116) (by decide +kernel)⟩
theorem zpf_X5_9 : ∃ (C : String) (T : u_T) (N : Nat) (ty0 : Nat → FieldType), zq_cl 5 C T N ty0 ∧ 0 < N ∧ (T 0).2.2.2 = true ∧ ty0 0 = tyX5 0 ∧ (T 0).1 = RX5 ∧ Cond.fieldLink RX5 9 (T 0).1 (T 0).2.1 (T 0).2.2.1 ∈ lw_tbl := ⟨RX5, TX5, 12, tyX5, zc_5, by decide, rfl, rfl, rfl, List.mem_of_getElem? (i := 203) (by decide +kernel)⟩
theorem zpn_X5_15 : zq_fr RX5 15 5 2 false (tyX5 2) := ⟨RX5, TX5, 12, tyX5, zc_5, by decide, rfl, rfl, rfl, Or.inl (List.mem_of_getElem? (i := 206) (by decide +kernel))⟩
theorem zpf_X5_19 : ∃ (C : String) (T : u_T) (N : Nat) (ty0 : Nat → FieldType), zq_cl 5 C T N ty0 ∧ 5 < N ∧ (T 5).2.2.2 = true ∧ ty0 5 = tyX5 5 ∧ (T 5).1 = RX5 ∧ Cond.fieldLink RX5 19 (T 5).1 (T 5).2.1 (T 5).2.2.1 ∈ lw_tbl := ⟨RX5, TX5, 12, tyX5, zc_5, by decide, rfl, rfl, rfl, List.mem_of_getElem? (i := 210) (by decide +kernel)⟩
theorem zpf_X5_23 : ∃ (C : String) (T : u_T) (N : Nat) (ty0 : Nat → FieldType), zq_cl 5 C T N ty0 ∧ 10 < N ∧ (T 10).2.2.2 = true ∧ ty0 10 = tyX5 10 ∧ (T 10).1 = RX5 ∧ Cond.fieldLink RX5 23 (T 10).1 (T 10).2.1 (T 10).2.2.1 ∈ lw_tbl := ⟨RX5, TX5, 12, tyX5, zc_5, by decide, rfl, rfl, rfl, List.mem_of_getElem? (i := 215) (by decide +kernel)⟩
theorem zpf_X5_26 : ∃ (C : String) (T : u_T) (N : Nat) (ty0 : Nat → FieldType), zq_cl 5 C T N ty0 ∧ 11 < N ∧ (T 11).2.2.2 = true ∧ ty0 11 = tyX5 11 ∧ (T 11).1 = RX5 ∧ Cond.fieldLink RX5 26 (T 11).1 (T 11).2.1 (T 11).2.2.1 ∈ lw_tbl := ⟨RX5, TX5, 12, tyX5, zc_5, by decide, rfl, rfl, rfl, List.mem_of_getElem? (i := 216) (by decide +kernel)⟩
theorem zpn_X5_29 : zq_fr RX5 29 5 3 false (tyX5 3) := ⟨RX5, TX5, 12, tyX5, zc_5, by decide, rfl, rfl, rfl, Or.inl (List.mem_of_getElem? (i := 208) (by decide +kernel))⟩
abbrev zw_9 : List zq_AC := [.inr (11, [.null, .null, .null, .null, .null, .null, .null, .null, .null, .null, .ref 2, .ref 14, .int 0]),
  .inl (3, 4096, .inr (.inl (fun _ => 0))),
  .inr (7, [.ref 3, .int 0, .int 0, .ref 4, .ref 5, .ref 6, .int 0, .int 0, .int 0, .ref 7, .ref 8, .ref 9, .ref 10, .ref 11, .ref 12, .ref 13]),
  .inl (1, 400, .inl (fun _ => 0)),
  .inl (0, 100, .inl (fun _ => 0)),
  .inl (0, 100, .inl (fun _ => 0)),
  .inl (0, 100, .inl (fun _ => 0)),
  .inl (0, 10, .inl (fun _ => 0)),
  .inl (0, 10, .inl (fun _ => 0)),
  .inl (0, 10, .inl (fun _ => 0)),
  .inl (0, 10, .inl (fun _ => 0)),
  .inl (0, 10, .inl (fun _ => 0)),
  .inl (0, 10, .inl (fun _ => 0)),
  .inl (0, 10, .inl (fun _ => 0)),
  .inr (7, [.ref 15, .int 0, .int 0, .ref 16, .ref 17, .ref 18, .int 0, .int 0, .int 0, .ref 19, .ref 20, .ref 21, .ref 22, .ref 23, .ref 24, .ref 25]),
  .inl (1, 400, .inl (fun _ => 0)),
  .inl (0, 100, .inl (fun _ => 0)),
  .inl (0, 100, .inl (fun _ => 0)),
  .inl (0, 100, .inl (fun _ => 0)),
  .inl (0, 10, .inl (fun _ => 0)),
  .inl (0, 10, .inl (fun _ => 0)),
  .inl (0, 10, .inl (fun _ => 0)),
  .inl (0, 10, .inl (fun _ => 0)),
  .inl (0, 10, .inl (fun _ => 0)),
  .inl (0, 10, .inl (fun _ => 0)),
  .inl (0, 10, .inl (fun _ => 0)),
  .inr (5, [.ref 27, .int 0, .int (-1), .ref 14, .int 0, .ref 28, .int 0, .int 0, .int 0, .int 0, .ref 29, .ref 30]),
  .inl (1, 400, .inl (fun _ => 0)),
  .inl (0, 8, .inl (fun _ => 0)),
  .inl (0, 10, .inl (fun _ => 0)),
  .inl (0, 10, .inl (fun _ => 0))]
set_option maxRecDepth 40000 in
set_option maxHeartbeats 4000000 in
theorem zct_8 : zq_MC yX5_init cX5_init 2 none ⟨1, 4, 428, 20⟩ 4 428 [.ref 26, .ref 14] zw_7 (none, zw_9) := by
  refine zq_MC_of (own := RX5) [.ref 26, .ref 14] (by decide +kernel) rfl rfl (by decide) ?_
  refine zq_aload_n (pc' := 1) rfl rfl dX5_init_0 rfl ?_
  refine zq_oinit (pc' := 4) zoi_X5_3 dX5_init_1 (by decide) (by decide) rfl ?_
  refine zq_aload_n (pc' := 5) rfl rfl dX5_init_4 rfl ?_
  refine zq_sipush (pc' := 8) (v := 400) dX5_init_5 rfl rfl ?_
  refine zq_newa (pc' := 10) (atype := .byte) (kd := 1) (N := 400) (a0 := (400, .inl (fun _ => 0))) zar_1 (fun _ => rfl) (fun _ _ h => h) (fun _ => rfl) (by decide) (by decide) (by decide) (by decide) rfl (by decide) (by decide) (by decide) dX5_init_8 rfl ?_
  refine zq_putF (pc' := 13) zpf_X5_9 rfl (fun _ => ⟨rfl, rfl⟩) rfl (by decide) dX5_init_10 rfl ?_
  refine zq_aload_n (pc' := 14) rfl rfl dX5_init_13 rfl ?_
  refine zq_iconst (pc' := 15) (v := (-1)) dX5_init_14 rfl rfl ?_
  refine zq_put (pc' := 18) zpn_X5_15 (fun _ => ⟨rfl, rfl⟩) rfl (by decide) dX5_init_15 rfl ?_
  refine zq_aload_n (pc' := 19) rfl rfl dX5_init_18 rfl ?_
  refine zq_bipush (pc' := 21) (v := 8) dX5_init_19 rfl rfl ?_
  refine zq_newa (pc' := 23) (atype := .int) (kd := 0) (N := 8) (a0 := (8, .inl (fun _ => 0))) zar_0 (fun _ => rfl) (fun _ _ h => h) (fun _ => rfl) (by decide) (by decide) (by decide) (by decide) rfl (by decide) (by decide) (by decide) dX5_init_21 rfl ?_
  refine zq_putF (pc' := 26) zpf_X5_19 rfl (fun _ => ⟨rfl, rfl⟩) rfl (by decide) dX5_init_23 rfl ?_
  refine zq_aload_n (pc' := 27) rfl rfl dX5_init_26 rfl ?_
  refine zq_bipush (pc' := 29) (v := 10) dX5_init_27 rfl rfl ?_
  refine zq_newa (pc' := 31) (atype := .int) (kd := 0) (N := 10) (a0 := (10, .inl (fun _ => 0))) zar_0 (fun _ => rfl) (fun _ _ h => h) (fun _ => rfl) (by decide) (by decide) (by decide) (by decide) rfl (by decide) (by decide) (by decide) dX5_init_29 rfl ?_
  refine zq_putF (pc' := 34) zpf_X5_23 rfl (fun _ => ⟨rfl, rfl⟩) rfl (by decide) dX5_init_31 rfl ?_
  refine zq_aload_n (pc' := 35) rfl rfl dX5_init_34 rfl ?_
  refine zq_bipush (pc' := 37) (v := 10) dX5_init_35 rfl rfl ?_
  refine zq_newa (pc' := 39) (atype := .int) (kd := 0) (N := 10) (a0 := (10, .inl (fun _ => 0))) zar_0 (fun _ => rfl) (fun _ _ h => h) (fun _ => rfl) (by decide) (by decide) (by decide) (by decide) rfl (by decide) (by decide) (by decide) dX5_init_37 rfl ?_
  refine zq_putF (pc' := 42) zpf_X5_26 rfl (fun _ => ⟨rfl, rfl⟩) rfl (by decide) dX5_init_39 rfl ?_
  refine zq_aload_n (pc' := 43) rfl rfl dX5_init_42 rfl ?_
  refine zq_aload_n (pc' := 44) rfl rfl dX5_init_43 rfl ?_
  refine zq_put (pc' := 47) zpn_X5_29 (fun _ => ⟨rfl, rfl⟩) rfl (by decide) dX5_init_44 rfl ?_
  exact zq_vret rfl rfl rfl rfl dX5_init_47
theorem zci_X11_21 : zq_cb RX11 21 yX5_init cX5_init 2 none 1 ∧ Cond.instanceMethod yX5_init ∈ lw_tbl ∧ yX5_init.name = "<init>" := ⟨⟨List.mem_of_getElem? (i := 199) (by decide +kernel), List.mem_of_getElem? (i := 94) (by decide +kernel), List.mem_of_getElem? (i := 201) (by decide +kernel), by decide +kernel, by decide +kernel, by decide +kernel⟩, List.mem_of_getElem? (i := 200) (by decide +kernel), rfl⟩
theorem zpf_X11_24 : ∃ (C : String) (T : u_T) (N : Nat) (ty0 : Nat → FieldType), zq_cl 11 C T N ty0 ∧ 0 < N ∧ (T 0).2.2.2 = true ∧ ty0 0 = tyX11 0 ∧ (T 0).1 = RX11 ∧ Cond.fieldLink RX11 24 (T 0).1 (T 0).2.1 (T 0).2.2.1 ∈ lw_tbl := ⟨RX11, TX11, 13, tyX11, zc_11, by decide, rfl, rfl, rfl, List.mem_of_getElem? (i := 454) (by decide +kernel)⟩
theorem znw_X11_28 : zq_nw RX11 28 3 10 [.null, .null, .null, .null, .null, .null, .null, .int 0, .int 0, .int 0] := ⟨RX3, TX3, tyX3, zc_3, List.mem_of_getElem? (i := 242) (by decide +kernel), List.mem_of_getElem? (i := 243) (by decide +kernel), List.mem_of_getElem? (i := 95) (by decide +kernel), by decide⟩
theorem zgn_X11_12 : zq_fr RX11 12 11 10 false (tyX11 10) := ⟨RX11, TX11, 13, tyX11, zc_11, by decide, rfl, rfl, rfl, Or.inl (List.mem_of_getElem? (i := 464) (by decide +kernel))⟩
abbrev zw_10 : List zq_AC := [.inr (11, [.ref 26, .null, .null, .null, .null, .null, .null, .null, .null, .null, .ref 2, .ref 14, .int 0]),
  .inl (3, 4096, .inr (.inl (fun _ => 0))),
  .inr (7, [.ref 3, .int 0, .int 0, .ref 4, .ref 5, .ref 6, .int 0, .int 0, .int 0, .ref 7, .ref 8, .ref 9, .ref 10, .ref 11, .ref 12, .ref 13]),
  .inl (1, 400, .inl (fun _ => 0)),
  .inl (0, 100, .inl (fun _ => 0)),
  .inl (0, 100, .inl (fun _ => 0)),
  .inl (0, 100, .inl (fun _ => 0)),
  .inl (0, 10, .inl (fun _ => 0)),
  .inl (0, 10, .inl (fun _ => 0)),
  .inl (0, 10, .inl (fun _ => 0)),
  .inl (0, 10, .inl (fun _ => 0)),
  .inl (0, 10, .inl (fun _ => 0)),
  .inl (0, 10, .inl (fun _ => 0)),
  .inl (0, 10, .inl (fun _ => 0)),
  .inr (7, [.ref 15, .int 0, .int 0, .ref 16, .ref 17, .ref 18, .int 0, .int 0, .int 0, .ref 19, .ref 20, .ref 21, .ref 22, .ref 23, .ref 24, .ref 25]),
  .inl (1, 400, .inl (fun _ => 0)),
  .inl (0, 100, .inl (fun _ => 0)),
  .inl (0, 100, .inl (fun _ => 0)),
  .inl (0, 100, .inl (fun _ => 0)),
  .inl (0, 10, .inl (fun _ => 0)),
  .inl (0, 10, .inl (fun _ => 0)),
  .inl (0, 10, .inl (fun _ => 0)),
  .inl (0, 10, .inl (fun _ => 0)),
  .inl (0, 10, .inl (fun _ => 0)),
  .inl (0, 10, .inl (fun _ => 0)),
  .inl (0, 10, .inl (fun _ => 0)),
  .inr (5, [.ref 27, .int 0, .int (-1), .ref 14, .int 0, .ref 28, .int 0, .int 0, .int 0, .int 0, .ref 29, .ref 30]),
  .inl (1, 400, .inl (fun _ => 0)),
  .inl (0, 8, .inl (fun _ => 0)),
  .inl (0, 10, .inl (fun _ => 0)),
  .inl (0, 10, .inl (fun _ => 0)),
  .inr (3, [.null, .null, .null, .null, .null, .null, .null, .int 0, .int 0, .int 0])]
theorem zoi_X3_3 : Cond.methodLink RX3 3 Lib.objectInit ∈ lw_tbl ∧ Cond.instanceMethod Lib.objectInit ∈ lw_tbl ∧ Cond.code Lib.objectInit ⟨#[0xb1]⟩ 1 none ∈ lw_tbl := ⟨List.mem_of_getElem? (i := 247) (by decide +kernel), List.mem_of_getElem? (i := 115) (by decide +kernel), List.mem_of_getElem? (i := 116) (by decide +kernel)⟩
theorem zpf_X3_9 : ∃ (C : String) (T : u_T) (N : Nat) (ty0 : Nat → FieldType), zq_cl 3 C T N ty0 ∧ 1 < N ∧ (T 1).2.2.2 = true ∧ ty0 1 = tyX3 1 ∧ (T 1).1 = RX3 ∧ Cond.fieldLink RX3 9 (T 1).1 (T 1).2.1 (T 1).2.2.1 ∈ lw_tbl := ⟨RX3, TX3, 10, tyX3, zc_3, by decide, rfl, rfl, rfl, List.mem_of_getElem? (i := 251) (by decide +kernel)⟩
theorem zpf_X3_15 : ∃ (C : String) (T : u_T) (N : Nat) (ty0 : Nat → FieldType), zq_cl 3 C T N ty0 ∧ 2 < N ∧ (T 2).2.2.2 = true ∧ ty0 2 = tyX3 2 ∧ (T 2).1 = RX3 ∧ Cond.fieldLink RX3 15 (T 2).1 (T 2).2.1 (T 2).2.2.1 ∈ lw_tbl := ⟨RX3, TX3, 10, tyX3, zc_3, by decide, rfl, rfl, rfl, List.mem_of_getElem? (i := 254) (by decide +kernel)⟩
theorem zpf_X3_18 : ∃ (C : String) (T : u_T) (N : Nat) (ty0 : Nat → FieldType), zq_cl 3 C T N ty0 ∧ 3 < N ∧ (T 3).2.2.2 = true ∧ ty0 3 = tyX3 3 ∧ (T 3).1 = RX3 ∧ Cond.fieldLink RX3 18 (T 3).1 (T 3).2.1 (T 3).2.2.1 ∈ lw_tbl := ⟨RX3, TX3, 10, tyX3, zc_3, by decide, rfl, rfl, rfl, List.mem_of_getElem? (i := 256) (by decide +kernel)⟩
theorem zpf_X3_21 : ∃ (C : String) (T : u_T) (N : Nat) (ty0 : Nat → FieldType), zq_cl 3 C T N ty0 ∧ 4 < N ∧ (T 4).2.2.2 = true ∧ ty0 4 = tyX3 4 ∧ (T 4).1 = RX3 ∧ Cond.fieldLink RX3 21 (T 4).1 (T 4).2.1 (T 4).2.2.1 ∈ lw_tbl := ⟨RX3, TX3, 10, tyX3, zc_3, by decide, rfl, rfl, rfl, List.mem_of_getElem? (i := 258) (by decide +kernel)⟩
theorem zpf_X3_24 : ∃ (C : String) (T : u_T) (N : Nat) (ty0 : Nat → FieldType), zq_cl 3 C T N ty0 ∧ 5 < N ∧ (T 5).2.2.2 = true ∧ ty0 5 = tyX3 5 ∧ (T 5).1 = RX3 ∧ Cond.fieldLink RX3 24 (T 5).1 (T 5).2.1 (T 5).2.2.1 ∈ lw_tbl := ⟨RX3, TX3, 10, tyX3, zc_3, by decide, rfl, rfl, rfl, List.mem_of_getElem? (i := 260) (by decide +kernel)⟩
theorem zpf_X3_27 : ∃ (C : String) (T : u_T) (N : Nat) (ty0 : Nat → FieldType), zq_cl 3 C T N ty0 ∧ 6 < N ∧ (T 6).2.2.2 = true ∧ ty0 6 = tyX3 6 ∧ (T 6).1 = RX3 ∧ Cond.fieldLink RX3 27 (T 6).1 (T 6).2.1 (T 6).2.2.1 ∈ lw_tbl := ⟨RX3, TX3, 10, tyX3, zc_3, by decide, rfl, rfl, rfl, List.mem_of_getElem? (i := 261) (by decide +kernel)⟩
theorem zpn_X3_30 : zq_fr RX3 30 3 9 false (tyX3 9) := ⟨RX3, TX3, 10, tyX3, zc_3, by decide, rfl, rfl, rfl, Or.inl (List.mem_of_getElem? (i := 267) (by decide +kernel))⟩
theorem zpn_X3_34 : zq_fr RX3 34 3 0 false (tyX3 0) := ⟨RX3, TX3, 10, tyX3, zc_3, by decide, rfl, rfl, rfl, Or.inl (List.mem_of_getElem? (i := 248) (by decide +kernel))⟩
abbrev zw_12 : List zq_AC := [.inr (11, [.ref 26, .null, .null, .null, .null, .null, .null, .null, .null, .null, .ref 2, .ref 14, .int 0]),
  .inl (3, 4096, .inr (.inl (fun _ => 0))),
  .inr (7, [.ref 3, .int 0, .int 0, .ref 4, .ref 5, .ref 6, .int 0, .int 0, .int 0, .ref 7, .ref 8, .ref 9, .ref 10, .ref 11, .ref 12, .ref 13]),
  .inl (1, 400, .inl (fun _ => 0)),
  .inl (0, 100, .inl (fun _ => 0)),
  .inl (0, 100, .inl (fun _ => 0)),
  .inl (0, 100, .inl (fun _ => 0)),
  .inl (0, 10, .inl (fun _ => 0)),
  .inl (0, 10, .inl (fun _ => 0)),
  .inl (0, 10, .inl (fun _ => 0)),
  .inl (0, 10, .inl (fun _ => 0)),
  .inl (0, 10, .inl (fun _ => 0)),
  .inl (0, 10, .inl (fun _ => 0)),
  .inl (0, 10, .inl (fun _ => 0)),
  .inr (7, [.ref 15, .int 0, .int 0, .ref 16, .ref 17, .ref 18, .int 0, .int 0, .int 0, .ref 19, .ref 20, .ref 21, .ref 22, .ref 23, .ref 24, .ref 25]),
  .inl (1, 400, .inl (fun _ => 0)),
  .inl (0, 100, .inl (fun _ => 0)),
  .inl (0, 100, .inl (fun _ => 0)),
  .inl (0, 100, .inl (fun _ => 0)),
  .inl (0, 10, .inl (fun _ => 0)),
  .inl (0, 10, .inl (fun _ => 0)),
  .inl (0, 10, .inl (fun _ => 0)),
  .inl (0, 10, .inl (fun _ => 0)),
  .inl (0, 10, .inl (fun _ => 0)),
  .inl (0, 10, .inl (fun _ => 0)),
  .inl (0, 10, .inl (fun _ => 0)),
  .inr (5, [.ref 27, .int 0, .int (-1), .ref 14, .int 0, .ref 28, .int 0, .int 0, .int 0, .int 0, .ref 29, .ref 30]),
  .inl (1, 400, .inl (fun _ => 0)),
  .inl (0, 8, .inl (fun _ => 0)),
  .inl (0, 10, .inl (fun _ => 0)),
  .inl (0, 10, .inl (fun _ => 0)),
  .inr (3, [.ref 2, .ref 32, .ref 33, .ref 34, .ref 35, .ref 36, .ref 37, .int 0, .int 0, .int (-1)]),
  .inl (0, 10, .inl (fun _ => 0)),
  .inl (0, 4, .inl (fun _ => 0)),
  .inl (0, 10, .inl (fun _ => 0)),
  .inl (0, 10, .inl (fun _ => 0)),
  .inl (0, 10, .inl (fun _ => 0)),
  .inl (0, 1024, .inl (fun _ => 0))]
set_option maxRecDepth 40000 in
set_option maxHeartbeats 4000000 in
theorem zct_11 : zq_MC yX3_init cX3_init 2 none ⟨1, 6, 1068, 20⟩ 6 1068 [.ref 31, .ref 2] zw_10 (none, zw_12) := by
  refine zq_MC_of (own := RX3) [.ref 31, .ref 2] (by decide +kernel) rfl rfl (by decide) ?_
  refine zq_aload_n (pc' := 1) rfl rfl dX3_init_0 rfl ?_
  refine zq_oinit (pc' := 4) zoi_X3_3 dX3_init_1 (by decide) (by decide) rfl ?_
  refine zq_aload_n (pc' := 5) rfl rfl dX3_init_4 rfl ?_
  refine zq_bipush (pc' := 7) (v := 10) dX3_init_5 rfl rfl ?_
  refine zq_newa (pc' := 9) (atype := .int) (kd := 0) (N := 10) (a0 := (10, .inl (fun _ => 0))) zar_0 (fun _ => rfl) (fun _ _ h => h) (fun _ => rfl) (by decide) (by decide) (by decide) (by decide) rfl (by decide) (by decide) (by decide) dX3_init_7 rfl ?_
  refine zq_putF (pc' := 12) zpf_X3_9 rfl (fun _ => ⟨rfl, rfl⟩) rfl (by decide) dX3_init_9 rfl ?_
  refine zq_aload_n (pc' := 13) rfl rfl dX3_init_12 rfl ?_
  refine zq_iconst (pc' := 14) (v := 4) dX3_init_13 rfl rfl ?_
  refine zq_newa (pc' := 16) (atype := .int) (kd := 0) (N := 4) (a0 := (4, .inl (fun _ => 0))) zar_0 (fun _ => rfl) (fun _ _ h => h) (fun _ => rfl) (by decide) (by decide) (by decide) (by decide) rfl (by decide) (by decide) (by decide) dX3_init_14 rfl ?_
  refine zq_putF (pc' := 19) zpf_X3_15 rfl (fun _ => ⟨rfl, rfl⟩) rfl (by decide) dX3_init_16 rfl ?_
  refine zq_aload_n (pc' := 20) rfl rfl dX3_init_19 rfl ?_
  refine zq_bipush (pc' := 22) (v := 10) dX3_init_20 rfl rfl ?_
  refine zq_newa (pc' := 24) (atype := .int) (kd := 0) (N := 10) (a0 := (10, .inl (fun _ => 0))) zar_0 (fun _ => rfl) (fun _ _ h => h) (fun _ => rfl) (by decide) (by decide) (by decide) (by decide) rfl (by decide) (by decide) (by decide) dX3_init_22 rfl ?_
  refine zq_putF (pc' := 27) zpf_X3_18 rfl (fun _ => ⟨rfl, rfl⟩) rfl (by decide) dX3_init_24 rfl ?_
  refine zq_aload_n (pc' := 28) rfl rfl dX3_init_27 rfl ?_
  refine zq_bipush (pc' := 30) (v := 10) dX3_init_28 rfl rfl ?_
  refine zq_newa (pc' := 32) (atype := .int) (kd := 0) (N := 10) (a0 := (10, .inl (fun _ => 0))) zar_0 (fun _ => rfl) (fun _ _ h => h) (fun _ => rfl) (by decide) (by decide) (by decide) (by decide) rfl (by decide) (by decide) (by decide) dX3_init_30 rfl ?_
  refine zq_putF (pc' := 35) zpf_X3_21 rfl (fun _ => ⟨rfl, rfl⟩) rfl (by decide) dX3_init_32 rfl ?_
  refine zq_aload_n (pc' := 36) rfl rfl dX3_init_35 rfl ?_
  refine zq_bipush (pc' := 38) (v := 10) dX3_init_36 rfl rfl ?_
  refine zq_newa (pc' := 40) (atype := .int) (kd := 0) (N := 10) (a0 := (10, .inl (fun _ => 0))) zar_0 (fun _ => rfl) (fun _ _ h => h) (fun _ => rfl) (by decide) (by decide) (by decide) (by decide) rfl (by decide) (by decide) (by decide) dX3_init_38 rfl ?_
  refine zq_putF (pc' := 43) zpf_X3_24 rfl (fun _ => ⟨rfl, rfl⟩) rfl (by decide) dX3_init_40 rfl ?_
  refine zq_aload_n (pc' := 44) rfl rfl dX3_init_43 rfl ?_
  refine zq_sipush (pc' := 47) (v := 1024) dX3_init_44 rfl rfl ?_
  refine zq_newa (pc' := 49) (atype := .int) (kd := 0) (N := 1024) (a0 := (1024, .inl (fun _ => 0))) zar_0 (fun _ => rfl) (fun _ _ h => h) (fun _ => rfl) (by decide) (by decide) (by decide) (by decide) rfl (by decide) (by decide) (by decide) dX3_init_47 rfl ?_
  refine zq_putF (pc' := 52) zpf_X3_27 rfl (fun _ => ⟨rfl, rfl⟩) rfl (by decide) dX3_init_49 rfl ?_
  refine zq_aload_n (pc' := 53) rfl rfl dX3_init_52 rfl ?_
  refine zq_iconst (pc' := 54) (v := (-1)) dX3_init_53 rfl rfl ?_
  refine zq_put (pc' := 57) zpn_X3_30 (fun _ => ⟨rfl, rfl⟩) rfl (by decide) dX3_init_54 rfl ?_
  refine zq_aload_n (pc' := 58) rfl rfl dX3_init_57 rfl ?_
  refine zq_aload_n (pc' := 59) rfl rfl dX3_init_58 rfl ?_
  refine zq_put (pc' := 62) zpn_X3_34 (fun _ => ⟨rfl, rfl⟩) rfl (by decide) dX3_init_59 rfl ?_
  exact zq_vret rfl rfl rfl rfl dX3_init_62
theorem zci_X11_30 : zq_cb RX11 30 yX3_init cX3_init 2 none 1 ∧ Cond.instanceMethod yX3_init ∈ lw_tbl ∧ yX3_init.name = "<init>" := ⟨⟨List.mem_of_getElem? (i := 244) (by decide +kernel), List.mem_of_getElem? (i := 95) (by decide +kernel), List.mem_of_getElem? (i := 246) (by decide +kernel), by decide +kernel, by decide +kernel, by decide +kernel⟩, List.mem_of_getElem? (i := 245) (by decide +kernel), rfl⟩
theorem zpf_X11_31 : ∃ (C : String) (T : u_T) (N : Nat) (ty0 : Nat → FieldType), zq_cl 11 C T N ty0 ∧ 1 < N ∧ (T 1).2.2.2 = true ∧ ty0 1 = tyX11 1 ∧ (T 1).1 = RX11 ∧ Cond.fieldLink RX11 31 (T 1).1 (T 1).2.1 (T 1).2.2.1 ∈ lw_tbl := ⟨RX11, TX11, 13, tyX11, zc_11, by decide, rfl, rfl, rfl, List.mem_of_getElem? (i := 455) (by decide +kernel)⟩
theorem znw_X11_35 : zq_nw RX11 35 9 2 [.null, .null] := ⟨RX9, TX9, tyX9, zc_9, List.mem_of_getElem? (i := 289) (by decide +kernel), List.mem_of_getElem? (i := 290) (by decide +kernel), List.mem_of_getElem? (i := 96) (by decide +kernel), by decide⟩
abbrev zw_13 : List zq_AC := [.inr (11, [.ref 26, .ref 31, .null, .null, .null, .null, .null, .null, .null, .null, .ref 2, .ref 14, .int 0]),
  .inl (3, 4096, .inr (.inl (fun _ => 0))),
  .inr (7, [.ref 3, .int 0, .int 0, .ref 4, .ref 5, .ref 6, .int 0, .int 0, .int 0, .ref 7, .ref 8, .ref 9, .ref 10, .ref 11, .ref 12, .ref 13]),
  .inl (1, 400, .inl (fun _ => 0)),
  .inl (0, 100, .inl (fun _ => 0)),
  .inl (0, 100, .inl (fun _ => 0)),
  .inl (0, 100, .inl (fun _ => 0)),
  .inl (0, 10, .inl (fun _ => 0)),
  .inl (0, 10, .inl (fun _ => 0)),
  .inl (0, 10, .inl (fun _ => 0)),
  .inl (0, 10, .inl (fun _ => 0)),
  .inl (0, 10, .inl (fun _ => 0)),
  .inl (0, 10, .inl (fun _ => 0)),
  .inl (0, 10, .inl (fun _ => 0)),
  .inr (7, [.ref 15, .int 0, .int 0, .ref 16, .ref 17, .ref 18, .int 0, .int 0, .int 0, .ref 19, .ref 20, .ref 21, .ref 22, .ref 23, .ref 24, .ref 25]),
  .inl (1, 400, .inl (fun _ => 0)),
  .inl (0, 100, .inl (fun _ => 0)),
  .inl (0, 100, .inl (fun _ => 0)),
  .inl (0, 100, .inl (fun _ => 0)),
  .inl (0, 10, .inl (fun _ => 0)),
  .inl (0, 10, .inl (fun _ => 0)),
  .inl (0, 10, .inl (fun _ => 0)),
  .inl (0, 10, .inl (fun _ => 0)),
  .inl (0, 10, .inl (fun _ => 0)),
  .inl (0, 10, .inl (fun _ => 0)),
  .inl (0, 10, .inl (fun _ => 0)),
  .inr (5, [.ref 27, .int 0, .int (-1), .ref 14, .int 0, .ref 28, .int 0, .int 0, .int 0, .int 0, .ref 29, .ref 30]),
  .inl (1, 400, .inl (fun _ => 0)),
  .inl (0, 8, .inl (fun _ => 0)),
  .inl (0, 10, .inl (fun _ => 0)),
  .inl (0, 10, .inl (fun _ => 0)),
  .inr (3, [.ref 2, .ref 32, .ref 33, .ref 34, .ref 35, .ref 36, .ref 37, .int 0, .int 0, .int (-1)]),
  .inl (0, 10, .inl (fun _ => 0)),
  .inl (0, 4, .inl (fun _ => 0)),
  .inl (0, 10, .inl (fun _ => 0)),
  .inl (0, 10, .inl (fun _ => 0)),
  .inl (0, 10, .inl (fun _ => 0)),
  .inl (0, 1024, .inl (fun _ => 0)),
  .inr (9, [.null, .null])]
theorem zoi_X9_3 : Cond.methodLink RX9 3 Lib.objectInit ∈ lw_tbl ∧ Cond.instanceMethod Lib.objectInit ∈ lw_tbl ∧ Cond.code Lib.objectInit ⟨#[0xb1]⟩ 1 none ∈ lw_tbl := ⟨List.mem_of_getElem? (i := 294) (by decide +kernel), List.mem_of_getElem? (i := 115) (by decide +kernel), List.mem_of_getElem? (i := 116) (by decide +kernel)⟩
theorem znw_X9_9 : zq_nw RX9 9 8 3 [.int 0, .null, .null] := ⟨RX8, TX8, tyX8, zc_8, List.mem_of_getElem? (i := 295) (by decide +kernel), List.mem_of_getElem? (i := 296) (by decide +kernel), List.mem_of_getElem? (i := 97) (by decide +kernel), by decide⟩
abbrev zw_14 : List zq_AC := [.inr (11, [.ref 26, .ref 31, .null, .null, .null, .null, .null, .null, .null, .null, .ref 2, .ref 14, .int 0]),
  .inl (3, 4096, .inr (.inl (fun _ => 0))),
  .inr (7, [.ref 3, .int 0, .int 0, .ref 4, .ref 5, .ref 6, .int 0, .int 0, .int 0, .ref 7, .ref 8, .ref 9, .ref 10, .ref 11, .ref 12, .ref 13]),
  .inl (1, 400, .inl (fun _ => 0)),
  .inl (0, 100, .inl (fun _ => 0)),
  .inl (0, 100, .inl (fun _ => 0)),
  .inl (0, 100, .inl (fun _ => 0)),
  .inl (0, 10, .inl (fun _ => 0)),
  .inl (0, 10, .inl (fun _ => 0)),
  .inl (0, 10, .inl (fun _ => 0)),
  .inl (0, 10, .inl (fun _ => 0)),
  .inl (0, 10, .inl (fun _ => 0)),
  .inl (0, 10, .inl (fun _ => 0)),
  .inl (0, 10, .inl (fun _ => 0)),
  .inr (7, [.ref 15, .int 0, .int 0, .ref 16, .ref 17, .ref 18, .int 0, .int 0, .int 0, .ref 19, .ref 20, .ref 21, .ref 22, .ref 23, .ref 24, .ref 25]),
  .inl (1, 400, .inl (fun _ => 0)),
  .inl (0, 100, .inl (fun _ => 0)),
  .inl (0, 100, .inl (fun _ => 0)),
  .inl (0, 100, .inl (fun _ => 0)),
  .inl (0, 10, .inl (fun _ => 0)),
  .inl (0, 10, .inl (fun _ => 0)),
  .inl (0, 10, .inl (fun _ => 0)),
  .inl (0, 10, .inl (fun _ => 0)),
  .inl (0, 10, .inl (fun _ => 0)),
  .inl (0, 10, .inl (fun _ => 0)),
  .inl (0, 10, .inl (fun _ => 0)),
  .inr (5, [.ref 27, .int 0, .int (-1), .ref 14, .int 0, .ref 28, .int 0, .int 0, .int 0, .int 0, .ref 29, .ref 30]),
  .inl (1, 400, .inl (fun _ => 0)),
  .inl (0, 8, .inl (fun _ => 0)),
  .inl (0, 10, .inl (fun _ => 0)),
  .inl (0, 10, .inl (fun _ => 0)),
  .inr (3, [.ref 2, .ref 32, .ref 33, .ref 34, .ref 35, .ref 36, .ref 37, .int 0, .int 0, .int (-1)]),
  .inl (0, 10, .inl (fun _ => 0)),
  .inl (0, 4, .inl (fun _ => 0)),
  .inl (0, 10, .inl (fun _ => 0)),
  .inl (0, 10, .inl (fun _ => 0)),
  .inl (0, 10, .inl (fun _ => 0)),
  .inl (0, 1024, .inl (fun _ => 0)),
  .inr (9, [.null, .null]),
  .inr (8, [.int 0, .null, .null])]
theorem zoi_X8_3 : Cond.methodLink RX8 3 Lib.objectInit ∈ lw_tbl ∧ Cond.instanceMethod Lib.objectInit ∈ lw_tbl ∧ Cond.code Lib.objectInit ⟨#[0xb1]⟩ 1 none ∈ lw_tbl := ⟨List.mem_of_getElem? (i := 300) (by decide +kernel), List.mem_of_getElem? (i := 115) (by decide +kernel), List.mem_of_getElem? (i := 116) (by decide +kernel)⟩
theorem zmx_X8_9 : Cond.methodLink RX8 9 Lib.Math.max.name ∈ lw_tbl ∧ Cond.static Lib.Math.max.name ∈ lw_tbl ∧ Cond.initialized "java/lang/Math" ∈ lw_tbl ∧ Cond.code Lib.Math.max.name Lib.Math.max.code 2 (some .int) ∈ lw_tbl := ⟨List.mem_of_getElem? (i := 301) (by decide +kernel), List.mem_of_getElem? (i := 302) (by decide +kernel), List.mem_of_getElem? (i := 98) (by decide +kernel), List.mem_of_getElem? (i := 303) (by decide +kernel)⟩
theorem zpf_X8_15 : ∃ (C : String) (T : u_T) (N : Nat) (ty0 : Nat → FieldType), zq_cl 8 C T N ty0 ∧ 0 < N ∧ (T 0).2.2.2 = true ∧ ty0 0 = tyX8 0 ∧ (T 0).1 = RX8 ∧ Cond.fieldLink RX8 15 (T 0).1 (T 0).2.1 (T 0).2.2.1 ∈ lw_tbl := ⟨RX8, TX8, 3, tyX8, zc_8, by decide, rfl, rfl, rfl, List.mem_of_getElem? (i := 304) (by decide +kernel)⟩
theorem zgn_X8_15 : zq_fr RX8 15 8 0 true (tyX8 0) := ⟨RX8, TX8, 3, tyX8, zc_8, by decide, rfl, rfl, rfl, Or.inl (List.mem_of_getElem? (i := 304) (by decide +kernel))⟩
theorem zpf_X8_21 : ∃ (C : String) (T : u_T) (N : Nat) (ty0 : Nat → FieldType), zq_cl 8 C T N ty0 ∧ 1 < N ∧ (T 1).2.2.2 = true ∧ ty0 1 = tyX8 1 ∧ (T 1).1 = RX8 ∧ Cond.fieldLink RX8 21 (T 1).1 (T 1).2.1 (T 1).2.2.1 ∈ lw_tbl := ⟨RX8, TX8, 3, tyX8, zc_8, by decide, rfl, rfl, rfl, List.mem_of_getElem? (i := 305) (by decide +kernel)⟩
theorem zpf_X8_25 : ∃ (C : String) (T : u_T) (N : Nat) (ty0 : Nat → FieldType), zq_cl 8 C T N ty0 ∧ 2 < N ∧ (T 2).2.2.2 = true ∧ ty0 2 = tyX8 2 ∧ (T 2).1 = RX8 ∧ Cond.fieldLink RX8 25 (T 2).1 (T 2).2.1 (T 2).2.2.1 ∈ lw_tbl := ⟨RX8, TX8, 3, tyX8, zc_8, by decide, rfl, rfl, rfl, List.mem_of_getElem? (i := 306) (by decide +kernel)⟩
abbrev zw_16 : List zq_AC := [.inr (11, [.ref 26, .ref 31, .null, .null, .null, .null, .null, .null, .null, .null, .ref 2, .ref 14, .int 0]),
  .inl (3, 4096, .inr (.inl (fun _ => 0))),
  .inr (7, [.ref 3, .int 0, .int 0, .ref 4, .ref 5, .ref 6, .int 0, .int 0, .int 0, .ref 7, .ref 8, .ref 9, .ref 10, .ref 11, .ref 12, .ref 13]),
  .inl (1, 400, .inl (fun _ => 0)),
  .inl (0, 100, .inl (fun _ => 0)),
  .inl (0, 100, .inl (fun _ => 0)),
  .inl (0, 100, .inl (fun _ => 0)),
  .inl (0, 10, .inl (fun _ => 0)),
  .inl (0, 10, .inl (fun _ => 0)),
  .inl (0, 10, .inl (fun _ => 0)),
  .inl (0, 10, .inl (fun _ => 0)),
  .inl (0, 10, .inl (fun _ => 0)),
  .inl (0, 10, .inl (fun _ => 0)),
  .inl (0, 10, .inl (fun _ => 0)),
  .inr (7, [.ref 15, .int 0, .int 0, .ref 16, .ref 17, .ref 18, .int 0, .int 0, .int 0, .ref 19, .ref 20, .ref 21, .ref 22, .ref 23, .ref 24, .ref 25]),
  .inl (1, 400, .inl (fun _ => 0)),
  .inl (0, 100, .inl (fun _ => 0)),
  .inl (0, 100, .inl (fun _ => 0)),
  .inl (0, 100, .inl (fun _ => 0)),
  .inl (0, 10, .inl (fun _ => 0)),
  .inl (0, 10, .inl (fun _ => 0)),
  .inl (0, 10, .inl (fun _ => 0)),
  .inl (0, 10, .inl (fun _ => 0)),
  .inl (0, 10, .inl (fun _ => 0)),
  .inl (0, 10, .inl (fun _ => 0)),
  .inl (0, 10, .inl (fun _ => 0)),
  .inr (5, [.ref 27, .int 0, .int (-1), .ref 14, .int 0, .ref 28, .int 0, .int 0, .int 0, .int 0, .ref 29, .ref 30]),
  .inl (1, 400, .inl (fun _ => 0)),
  .inl (0, 8, .inl (fun _ => 0)),
  .inl (0, 10, .inl (fun _ => 0)),
  .inl (0, 10, .inl (fun _ => 0)),
  .inr (3, [.ref 2, .ref 32, .ref 33, .ref 34, .ref 35, .ref 36, .ref 37, .int 0, .int 0, .int (-1)]),
  .inl (0, 10, .inl (fun _ => 0)),
  .inl (0, 4, .inl (fun _ => 0)),
  .inl (0, 10, .inl (fun _ => 0)),
  .inl (0, 10, .inl (fun _ => 0)),
  .inl (0, 10, .inl (fun _ => 0)),
  .inl (0, 1024, .inl (fun _ => 0)),
  .inr (9, [.null, .null]),
  .inr (8, [.int 1024, .ref 40, .ref 41]),
  .inl (3, 5120, .inr (.inl (fun _ => 0))),
  .inl (0, 1024, .inl (fun _ => 0))]
set_option maxRecDepth 40000 in
set_option maxHeartbeats 4000000 in
theorem zct_15 : zq_MC yX8_init cX8_init 2 none ⟨1, 2, 6144, 21⟩ 2 6144 [.ref 39, .int 1024] zw_14 (none, zw_16) := by
  refine zq_MC_of (own := RX8) [.ref 39, .int 1024] (by decide +kernel) rfl rfl (by decide) ?_
  refine zq_aload_n (pc' := 1) rfl rfl dX8_init_0 rfl ?_
  refine zq_oinit (pc' := 4) zoi_X8_3 dX8_init_1 (by decide) (by decide) rfl ?_
  refine zq_aload_n (pc' := 5) rfl rfl dX8_init_4 rfl ?_
  refine zq_iconst (pc' := 6) (v := 1) dX8_init_5 rfl rfl ?_
  refine zq_iload_n (pc' := 7) rfl rfl dX8_init_6 rfl ?_
  refine zc_max (pc' := 10) zmx_X8_9 dX8_init_7 (by decide) (by decide) (by decide) rfl ?_
  show zq_R _ _ _ _ _ _ _ _ _ _ _ _ _ [.int 1024, .ref 39] _ _ _
  refine zq_putF (pc' := 13) zpf_X8_15 rfl (fun _ => ⟨rfl, rfl⟩) rfl (by decide) dX8_init_10 rfl ?_
  refine zq_aload_n (pc' := 14) rfl rfl dX8_init_13 rfl ?_
  refine zq_aload_n (pc' := 15) rfl rfl dX8_init_14 rfl ?_
  refine zq_get (pc' := 18) zgn_X8_15 rfl rfl dX8_init_15 rfl ?_
  refine zq_iconst (pc' := 19) (v := 5) dX8_init_18 rfl rfl ?_
  refine zq_imul (pc' := 20) dX8_init_19 rfl ?_
  show zq_R _ _ _ _ _ _ _ _ _ _ _ _ _ [.int 5120, .ref 39] _ _ _
  refine zq_newa (pc' := 22) (atype := .long) (kd := 3) (N := 5120) (a0 := (5120, .inr (.inl (fun _ => 0)))) zar_3 (fun _ => rfl) (fun _ _ h => h) (fun _ => rfl) (by decide) (by decide) (by decide) (by decide) rfl (by decide) (by decide) (by decide) dX8_init_20 rfl ?_
  refine zq_putF (pc' := 25) zpf_X8_21 rfl (fun _ => ⟨rfl, rfl⟩) rfl (by decide) dX8_init_22 rfl ?_
  refine zq_aload_n (pc' := 26) rfl rfl dX8_init_25 rfl ?_
  refine zq_aload_n (pc' := 27) rfl rfl dX8_init_26 rfl ?_
  refine zq_get (pc' := 30) zgn_X8_15 rfl rfl dX8_init_27 rfl ?_
  refine zq_newa (pc' := 32) (atype := .int) (kd := 0) (N := 1024) (a0 := (1024, .inl (fun _ => 0))) zar_0 (fun _ => rfl) (fun _ _ h => h) (fun _ => rfl) (by decide) (by decide) (by decide) (by decide) rfl (by decide) (by decide) (by decide) dX8_init_30 rfl ?_
  refine zq_putF (pc' := 35) zpf_X8_25 rfl (fun _ => ⟨rfl, rfl⟩) rfl (by decide) dX8_init_32 rfl ?_
  exact zq_vret rfl rfl rfl rfl dX8_init_35
theorem zci_X9_11 : zq_cb RX9 11 yX8_init cX8_init 2 none 1 ∧ Cond.instanceMethod yX8_init ∈ lw_tbl ∧ yX8_init.name = "<init>" := ⟨⟨List.mem_of_getElem? (i := 297) (by decide +kernel), List.mem_of_getElem? (i := 97) (by decide +kernel), List.mem_of_getElem? (i := 299) (by decide +kernel), by decide +kernel, by decide +kernel, by decide +kernel⟩, List.mem_of_getElem? (i := 298) (by decide +kernel), rfl⟩
theorem zpf_X9_14 : ∃ (C : String) (T : u_T) (N : Nat) (ty0 : Nat → FieldType), zq_cl 9 C T N ty0 ∧ 0 < N ∧ (T 0).2.2.2 = true ∧ ty0 0 = tyX9 0 ∧ (T 0).1 = RX9 ∧ Cond.fieldLink RX9 14 (T 0).1 (T 0).2.1 (T 0).2.2.1 ∈ lw_tbl := ⟨RX9, TX9, 2, tyX9, zc_9, by decide, rfl, rfl, rfl, List.mem_of_getElem? (i := 314) (by decide +kernel)⟩
theorem zpn_X9_20 : zq_fr RX9 20 9 1 false (tyX9 1) := ⟨RX9, TX9, 2, tyX9, zc_9, by decide, rfl, rfl, rfl, Or.inl (List.mem_of_getElem? (i := 315) (by decide +kernel))⟩
abbrev zw_18 : List zq_AC := [.inr (11, [.ref 26, .ref 31, .null, .null, .null, .null, .null, .null, .null, .null, .ref 2, .ref 14, .int 0]),
  .inl (3, 4096, .inr (.inl (fun _ => 0))),
  .inr (7, [.ref 3, .int 0, .int 0, .ref 4, .ref 5, .ref 6, .int 0, .int 0, .int 0, .ref 7, .ref 8, .ref 9, .ref 10, .ref 11, .ref 12, .ref 13]),
  .inl (1, 400, .inl (fun _ => 0)),
  .inl (0, 100, .inl (fun _ => 0)),
  .inl (0, 100, .inl (fun _ => 0)),
  .inl (0, 100, .inl (fun _ => 0)),
  .inl (0, 10, .inl (fun _ => 0)),
  .inl (0, 10, .inl (fun _ => 0)),
  .inl (0, 10, .inl (fun _ => 0)),
  .inl (0, 10, .inl (fun _ => 0)),
  .inl (0, 10, .inl (fun _ => 0)),
  .inl (0, 10, .inl (fun _ => 0)),
  .inl (0, 10, .inl (fun _ => 0)),
  .inr (7, [.ref 15, .int 0, .int 0, .ref 16, .ref 17, .ref 18, .int 0, .int 0, .int 0, .ref 19, .ref 20, .ref 21, .ref 22, .ref 23, .ref 24, .ref 25]),
  .inl (1, 400, .inl (fun _ => 0)),
  .inl (0, 100, .inl (fun _ => 0)),
  .inl (0, 100, .inl (fun _ => 0)),
  .inl (0, 100, .inl (fun _ => 0)),
  .inl (0, 10, .inl (fun _ => 0)),
  .inl (0, 10, .inl (fun _ => 0)),
  .inl (0, 10, .inl (fun _ => 0)),
  .inl (0, 10, .inl (fun _ => 0)),
  .inl (0, 10, .inl (fun _ => 0)),
  .inl (0, 10, .inl (fun _ => 0)),
  .inl (0, 10, .inl (fun _ => 0)),
  .inr (5, [.ref 27, .int 0, .int (-1), .ref 14, .int 0, .ref 28, .int 0, .int 0, .int 0, .int 0, .ref 29, .ref 30]),
  .inl (1, 400, .inl (fun _ => 0)),
  .inl (0, 8, .inl (fun _ => 0)),
  .inl (0, 10, .inl (fun _ => 0)),
  .inl (0, 10, .inl (fun _ => 0)),
  .inr (3, [.ref 2, .ref 32, .ref 33, .ref 34, .ref 35, .ref 36, .ref 37, .int 0, .int 0, .int (-1)]),
  .inl (0, 10, .inl (fun _ => 0)),
  .inl (0, 4, .inl (fun _ => 0)),
  .inl (0, 10, .inl (fun _ => 0)),
  .inl (0, 10, .inl (fun _ => 0)),
  .inl (0, 10, .inl (fun _ => 0)),
  .inl (0, 1024, .inl (fun _ => 0)),
  .inr (9, [.ref 39, .ref 2]),
  .inr (8, [.int 1024, .ref 40, .ref 41]),
  .inl (3, 5120, .inr (.inl (fun _ => 0))),
  .inl (0, 1024, .inl (fun _ => 0))]
set_option maxRecDepth 40000 in
set_option maxHeartbeats 4000000 in
theorem zct_17 : zq_MC yX9_init cX9_init 2 none ⟨2, 3, 6147, 42⟩ 3 6147 [.ref 38, .ref 2] zw_13 (none, zw_18) := by
  refine zq_MC_of (own := RX9) [.ref 38, .ref 2] (by decide +kernel) rfl rfl (by decide) ?_
  refine zq_aload_n (pc' := 1) rfl rfl dX9_init_0 rfl ?_
  refine zq_oinit (pc' := 4) zoi_X9_3 dX9_init_1 (by decide) (by decide) rfl ?_
  refine zq_aload_n (pc' := 5) rfl rfl dX9_init_4 rfl ?_
  refine zq_new (pc' := 8) znw_X9_9 (fun _ => rfl) (by decide) rfl (by decide) (by decide) (by decide) dX9_init_5 rfl ?_
  refine zq_dup (pc' := 9) rfl dX9_init_8 rfl ?_
  refine zq_sipush (pc' := 12) (v := 1024) dX9_init_9 rfl rfl ?_
  refine zq_callI (rm := ⟨2, 3, 6147, 42⟩) (mc := 3) (ms := 6147) (cells := 1) (slots := 3) (n0 := 39) (pc' := 15) (As := [.int 1024]) (rest := [.ref 39, .ref 38]) zci_X9_11 zct_15 rfl ⟨rfl, rfl, by decide, by decide⟩ ⟨by decide, by decide⟩ (by decide) (fun _ => ⟨by decide, rfl, by decide⟩) dX9_init_12 rfl rfl ?_
  refine zq_putF (pc' := 18) zpf_X9_14 rfl (fun _ => ⟨rfl, rfl⟩) rfl (by decide) dX9_init_15 rfl ?_
  refine zq_aload_n (pc' := 19) rfl rfl dX9_init_18 rfl ?_
  refine zq_aload_n (pc' := 20) rfl rfl dX9_init_19 rfl ?_
  refine zq_put (pc' := 23) zpn_X9_20 (fun _ => ⟨rfl, rfl⟩) rfl (by decide) dX9_init_20 rfl ?_
  exact zq_vret rfl rfl rfl rfl dX9_init_23
theorem zci_X11_37 : zq_cb RX11 37 yX9_init cX9_init 2 none 1 ∧ Cond.instanceMethod yX9_init ∈ lw_tbl ∧ yX9_init.name = "<init>" := ⟨⟨List.mem_of_getElem? (i := 291) (by decide +kernel), List.mem_of_getElem? (i := 96) (by decide +kernel), List.mem_of_getElem? (i := 293) (by decide +kernel), by decide +kernel, by decide +kernel, by decide +kernel⟩, List.mem_of_getElem? (i := 292) (by decide +kernel), rfl⟩
theorem zpf_X11_38 : ∃ (C : String) (T : u_T) (N : Nat) (ty0 : Nat → FieldType), zq_cl 11 C T N ty0 ∧ 2 < N ∧ (T 2).2.2.2 = true ∧ ty0 2 = tyX11 2 ∧ (T 2).1 = RX11 ∧ Cond.fieldLink RX11 38 (T 2).1 (T 2).2.1 (T 2).2.2.1 ∈ lw_tbl := ⟨RX11, TX11, 13, tyX11, zc_11, by decide, rfl, rfl, rfl, List.mem_of_getElem? (i := 456) (by decide +kernel)⟩
theorem znw_X11_42 : zq_nw RX11 42 0 2 [.null, .int 0] := ⟨RX0, TX0, tyX0, zc_0, List.mem_of_getElem? (i := 321) (by decide +kernel), List.mem_of_getElem? (i := 322) (by decide +kernel), List.mem_of_getElem? (i := 99) (by decide +kernel), by decide⟩
abbrev zw_19 : List zq_AC := [.inr (11, [.ref 26, .ref 31, .ref 38, .null, .null, .null, .null, .null, .null, .null, .ref 2, .ref 14, .int 0]),
  .inl (3, 4096, .inr (.inl (fun _ => 0))),
  .inr (7, [.ref 3, .int 0, .int 0, .ref 4, .ref 5, .ref 6, .int 0, .int 0, .int 0, .ref 7, .ref 8, .ref 9, .ref 10, .ref 11, .ref 12, .ref 13]),
  .inl (1, 400, .inl (fun _ => 0)),
  .inl (0, 100, .inl (fun _ => 0)),
  .inl (0, 100, .inl (fun _ => 0)),
  .inl (0, 100, .inl (fun _ => 0)),
  .inl (0, 10, .inl (fun _ => 0)),
  .inl (0, 10, .inl (fun _ => 0)),
  .inl (0, 10, .inl (fun _ => 0)),
  .inl (0, 10, .inl (fun _ => 0)),
  .inl (0, 10, .inl (fun _ => 0)),
  .inl (0, 10, .inl (fun _ => 0)),
  .inl (0, 10, .inl (fun _ => 0)),
  .inr (7, [.ref 15, .int 0, .int 0, .ref 16, .ref 17, .ref 18, .int 0, .int 0, .int 0, .ref 19, .ref 20, .ref 21, .ref 22, .ref 23, .ref 24, .ref 25]),
  .inl (1, 400, .inl (fun _ => 0)),
  .inl (0, 100, .inl (fun _ => 0)),
  .inl (0, 100, .inl (fun _ => 0)),
  .inl (0, 100, .inl (fun _ => 0)),
  .inl (0, 10, .inl (fun _ => 0)),
  .inl (0, 10, .inl (fun _ => 0)),
  .inl (0, 10, .inl (fun _ => 0)),
  .inl (0, 10, .inl (fun _ => 0)),
  .inl (0, 10, .inl (fun _ => 0)),
  .inl (0, 10, .inl (fun _ => 0)),
  .inl (0, 10, .inl (fun _ => 0)),
  .inr (5, [.ref 27, .int 0, .int (-1), .ref 14, .int 0, .ref 28, .int 0, .int 0, .int 0, .int 0, .ref 29, .ref 30]),
  .inl (1, 400, .inl (fun _ => 0)),
  .inl (0, 8, .inl (fun _ => 0)),
  .inl (0, 10, .inl (fun _ => 0)),
  .inl (0, 10, .inl (fun _ => 0)),
  .inr (3, [.ref 2, .ref 32, .ref 33, .ref 34, .ref 35, .ref 36, .ref 37, .int 0, .int 0, .int (-1)]),
  .inl (0, 10, .inl (fun _ => 0)),
  .inl (0, 4, .inl (fun _ => 0)),
  .inl (0, 10, .inl (fun _ => 0)),
  .inl (0, 10, .inl (fun _ => 0)),
  .inl (0, 10, .inl (fun _ => 0)),
  .inl (0, 1024, .inl (fun _ => 0)),
  .inr (9, [.ref 39, .ref 2]),
  .inr (8, [.int 1024, .ref 40, .ref 41]),
  .inl (3, 5120, .inr (.inl (fun _ => 0))),
  .inl (0, 1024, .inl (fun _ => 0)),
  .inr (0, [.null, .int 0])]
theorem zoi_X0_3 : Cond.methodLink RX0 3 Lib.objectInit ∈ lw_tbl ∧ Cond.instanceMethod Lib.objectInit ∈ lw_tbl ∧ Cond.code Lib.objectInit ⟨#[0xb1]⟩ 1 none ∈ lw_tbl := ⟨List.mem_of_getElem? (i := 326) (by decide +kernel), List.mem_of_getElem? (i := 115) (by decide +kernel), List.mem_of_getElem? (i := 116) (by decide +kernel)⟩
theorem zpf_X0_9 : ∃ (C : String) (T : u_T) (N : Nat) (ty0 : Nat → FieldType), zq_cl 0 C T N ty0 ∧ 0 < N ∧ (T 0).2.2.2 = true ∧ ty0 0 = tyX0 0 ∧ (T 0).1 = RX0 ∧ Cond.fieldLink RX0 9 (T 0).1 (T 0).2.1 (T 0).2.2.1 ∈ lw_tbl := ⟨RX0, TX0, 2, tyX0, zc_0, by decide, rfl, rfl, rfl, List.mem_of_getElem? (i := 327) (by decide +kernel)⟩
abbrev zw_21 : List zq_AC := [.inr (11, [.ref 26, .ref 31, .ref 38, .null, .null, .null, .null, .null, .null, .null, .ref 2, .ref 14, .int 0]),
  .inl (3, 4096, .inr (.inl (fun _ => 0))),
  .inr (7, [.ref 3, .int 0, .int 0, .ref 4, .ref 5, .ref 6, .int 0, .int 0, .int 0, .ref 7, .ref 8, .ref 9, .ref 10, .ref 11, .ref 12, .ref 13]),
  .inl (1, 400, .inl (fun _ => 0)),
  .inl (0, 100, .inl (fun _ => 0)),
  .inl (0, 100, .inl (fun _ => 0)),
  .inl (0, 100, .inl (fun _ => 0)),
  .inl (0, 10, .inl (fun _ => 0)),
  .inl (0, 10, .inl (fun _ => 0)),
  .inl (0, 10, .inl (fun _ => 0)),
  .inl (0, 10, .inl (fun _ => 0)),
  .inl (0, 10, .inl (fun _ => 0)),
  .inl (0, 10, .inl (fun _ => 0)),
  .inl (0, 10, .inl (fun _ => 0)),
  .inr (7, [.ref 15, .int 0, .int 0, .ref 16, .ref 17, .ref 18, .int 0, .int 0, .int 0, .ref 19, .ref 20, .ref 21, .ref 22, .ref 23, .ref 24, .ref 25]),
  .inl (1, 400, .inl (fun _ => 0)),
  .inl (0, 100, .inl (fun _ => 0)),
  .inl (0, 100, .inl (fun _ => 0)),
  .inl (0, 100, .inl (fun _ => 0)),
  .inl (0, 10, .inl (fun _ => 0)),
  .inl (0, 10, .inl (fun _ => 0)),
  .inl (0, 10, .inl (fun _ => 0)),
  .inl (0, 10, .inl (fun _ => 0)),
  .inl (0, 10, .inl (fun _ => 0)),
  .inl (0, 10, .inl (fun _ => 0)),
  .inl (0, 10, .inl (fun _ => 0)),
  .inr (5, [.ref 27, .int 0, .int (-1), .ref 14, .int 0, .ref 28, .int 0, .int 0, .int 0, .int 0, .ref 29, .ref 30]),
  .inl (1, 400, .inl (fun _ => 0)),
  .inl (0, 8, .inl (fun _ => 0)),
  .inl (0, 10, .inl (fun _ => 0)),
  .inl (0, 10, .inl (fun _ => 0)),
  .inr (3, [.ref 2, .ref 32, .ref 33, .ref 34, .ref 35, .ref 36, .ref 37, .int 0, .int 0, .int (-1)]),
  .inl (0, 10, .inl (fun _ => 0)),
  .inl (0, 4, .inl (fun _ => 0)),
  .inl (0, 10, .inl (fun _ => 0)),
  .inl (0, 10, .inl (fun _ => 0)),
  .inl (0, 10, .inl (fun _ => 0)),
  .inl (0, 1024, .inl (fun _ => 0)),
  .inr (9, [.ref 39, .ref 2]),
  .inr (8, [.int 1024, .ref 40, .ref 41]),
  .inl (3, 5120, .inr (.inl (fun _ => 0))),
  .inl (0, 1024, .inl (fun _ => 0)),
  .inr (0, [.ref 43, .int 0]),
  .inl (3, 200, .inr (.inl (fun _ => 0)))]
set_option maxRecDepth 40000 in
set_option maxHeartbeats 4000000 in
theorem zct_20 : zq_MC yX0_init cX0_init 1 none ⟨1, 1, 200, 20⟩ 1 200 [.ref 42] zw_19 (none, zw_21) := by
  refine zq_MC_of (own := RX0) [.ref 42] (by decide +kernel) rfl rfl (by decide) ?_
  refine zq_aload_n (pc' := 1) rfl rfl dX0_init_0 rfl ?_
  refine zq_oinit (pc' := 4) zoi_X0_3 dX0_init_1 (by decide) (by decide) rfl ?_
  refine zq_aload_n (pc' := 5) rfl rfl dX0_init_4 rfl ?_
  refine zq_sipush (pc' := 8) (v := 200) dX0_init_5 rfl rfl ?_
  refine zq_newa (pc' := 10) (atype := .long) (kd := 3) (N := 200) (a0 := (200, .inr (.inl (fun _ => 0)))) zar_3 (fun _ => rfl) (fun _ _ h => h) (fun _ => rfl) (by decide) (by decide) (by decide) (by decide) rfl (by decide) (by decide) (by decide) dX0_init_8 rfl ?_
  refine zq_putF (pc' := 13) zpf_X0_9 rfl (fun _ => ⟨rfl, rfl⟩) rfl (by decide) dX0_init_10 rfl ?_
  exact zq_vret rfl rfl rfl rfl dX0_init_13
theorem zci_X11_44 : (Cond.methodLinkNest RX11 44 yX0_init "CrossedSheets" ∈ lw_tbl ∧ Cond.initialized yX0_init.cls ∈ lw_tbl ∧ Cond.code yX0_init cX0_init 1 none ∈ lw_tbl ∧ (yX0_init.cls ≠ "java/lang/invoke/MethodHandle" ∧ yX0_init.cls ≠ "java/lang/invoke/VarHandle" ∧ (parseMethodDescriptor yX0_init.desc).map (fun d => d.parameters.length) = some 0)) ∧ Cond.instanceMethod yX0_init ∈ lw_tbl ∧ yX0_init.name = "<init>" := ⟨⟨List.mem_of_getElem? (i := 323) (by decide +kernel), List.mem_of_getElem? (i := 99) (by decide +kernel), List.mem_of_getElem? (i := 325) (by decide +kernel), by decide +kernel, by decide +kernel, by decide +kernel⟩, List.mem_of_getElem? (i := 324) (by decide +kernel), rfl⟩
theorem zpf_X11_45 : ∃ (C : String) (T : u_T) (N : Nat) (ty0 : Nat → FieldType), zq_cl 11 C T N ty0 ∧ 3 < N ∧ (T 3).2.2.2 = true ∧ ty0 3 = tyX11 3 ∧ (T 3).1 = RX11 ∧ Cond.fieldLink RX11 45 (T 3).1 (T 3).2.1 (T 3).2.2.1 ∈ lw_tbl := ⟨RX11, TX11, 13, tyX11, zc_11, by decide, rfl, rfl, rfl, List.mem_of_getElem? (i := 457) (by decide +kernel)⟩
theorem znw_X11_49 : zq_nw RX11 49 4 6 [.null, .null, .null, .null, .null, .int 0] := ⟨RX4, TX4, tyX4, zc_4, List.mem_of_getElem? (i := 335) (by decide +kernel), List.mem_of_getElem? (i := 336) (by decide +kernel), List.mem_of_getElem? (i := 100) (by decide +kernel), by decide⟩
theorem zgn_X11_31 : zq_fr RX11 31 11 1 true (tyX11 1) := ⟨RX11, TX11, 13, tyX11, zc_11, by decide, rfl, rfl, rfl, Or.inl (List.mem_of_getElem? (i := 455) (by decide +kernel))⟩
theorem zgn_X11_38 : zq_fr RX11 38 11 2 true (tyX11 2) := ⟨RX11, TX11, 13, tyX11, zc_11, by decide, rfl, rfl, rfl, Or.inl (List.mem_of_getElem? (i := 456) (by decide +kernel))⟩
theorem zgn_X11_45 : zq_fr RX11 45 11 3 true (tyX11 3) := ⟨RX11, TX11, 13, tyX11, zc_11, by decide, rfl, rfl, rfl, Or.inl (List.mem_of_getElem? (i := 457) (by decide +kernel))⟩
abbrev zw_22 : List zq_AC := [.inr (11, [.ref 26, .ref 31, .ref 38, .ref 42, .null, .null, .null, .null, .null, .null, .ref 2, .ref 14, .int 0]),
  .inl (3, 4096, .inr (.inl (fun _ => 0))),
  .inr (7, [.ref 3, .int 0, .int 0, .ref 4, .ref 5, .ref 6, .int 0, .int 0, .int 0, .ref 7, .ref 8, .ref 9, .ref 10, .ref 11, .ref 12, .ref 13]),
  .inl (1, 400, .inl (fun _ => 0)),
  .inl (0, 100, .inl (fun _ => 0)),
  .inl (0, 100, .inl (fun _ => 0)),
  .inl (0, 100, .inl (fun _ => 0)),
  .inl (0, 10, .inl (fun _ => 0)),
  .inl (0, 10, .inl (fun _ => 0)),
  .inl (0, 10, .inl (fun _ => 0)),
  .inl (0, 10, .inl (fun _ => 0)),
  .inl (0, 10, .inl (fun _ => 0)),
  .inl (0, 10, .inl (fun _ => 0)),
  .inl (0, 10, .inl (fun _ => 0)),
  .inr (7, [.ref 15, .int 0, .int 0, .ref 16, .ref 17, .ref 18, .int 0, .int 0, .int 0, .ref 19, .ref 20, .ref 21, .ref 22, .ref 23, .ref 24, .ref 25]),
  .inl (1, 400, .inl (fun _ => 0)),
  .inl (0, 100, .inl (fun _ => 0)),
  .inl (0, 100, .inl (fun _ => 0)),
  .inl (0, 100, .inl (fun _ => 0)),
  .inl (0, 10, .inl (fun _ => 0)),
  .inl (0, 10, .inl (fun _ => 0)),
  .inl (0, 10, .inl (fun _ => 0)),
  .inl (0, 10, .inl (fun _ => 0)),
  .inl (0, 10, .inl (fun _ => 0)),
  .inl (0, 10, .inl (fun _ => 0)),
  .inl (0, 10, .inl (fun _ => 0)),
  .inr (5, [.ref 27, .int 0, .int (-1), .ref 14, .int 0, .ref 28, .int 0, .int 0, .int 0, .int 0, .ref 29, .ref 30]),
  .inl (1, 400, .inl (fun _ => 0)),
  .inl (0, 8, .inl (fun _ => 0)),
  .inl (0, 10, .inl (fun _ => 0)),
  .inl (0, 10, .inl (fun _ => 0)),
  .inr (3, [.ref 2, .ref 32, .ref 33, .ref 34, .ref 35, .ref 36, .ref 37, .int 0, .int 0, .int (-1)]),
  .inl (0, 10, .inl (fun _ => 0)),
  .inl (0, 4, .inl (fun _ => 0)),
  .inl (0, 10, .inl (fun _ => 0)),
  .inl (0, 10, .inl (fun _ => 0)),
  .inl (0, 10, .inl (fun _ => 0)),
  .inl (0, 1024, .inl (fun _ => 0)),
  .inr (9, [.ref 39, .ref 2]),
  .inr (8, [.int 1024, .ref 40, .ref 41]),
  .inl (3, 5120, .inr (.inl (fun _ => 0))),
  .inl (0, 1024, .inl (fun _ => 0)),
  .inr (0, [.ref 43, .int 0]),
  .inl (3, 200, .inr (.inl (fun _ => 0))),
  .inr (4, [.null, .null, .null, .null, .null, .int 0])]
theorem zoi_X4_3 : Cond.methodLink RX4 3 Lib.objectInit ∈ lw_tbl ∧ Cond.instanceMethod Lib.objectInit ∈ lw_tbl ∧ Cond.code Lib.objectInit ⟨#[0xb1]⟩ 1 none ∈ lw_tbl := ⟨List.mem_of_getElem? (i := 340) (by decide +kernel), List.mem_of_getElem? (i := 115) (by decide +kernel), List.mem_of_getElem? (i := 116) (by decide +kernel)⟩
theorem zpf_X4_9 : ∃ (C : String) (T : u_T) (N : Nat) (ty0 : Nat → FieldType), zq_cl 4 C T N ty0 ∧ 4 < N ∧ (T 4).2.2.2 = true ∧ ty0 4 = tyX4 4 ∧ (T 4).1 = RX4 ∧ Cond.fieldLink RX4 9 (T 4).1 (T 4).2.1 (T 4).2.2.1 ∈ lw_tbl := ⟨RX4, TX4, 6, tyX4, zc_4, by decide, rfl, rfl, rfl, List.mem_of_getElem? (i := 345) (by decide +kernel)⟩
theorem zpn_X4_15 : zq_fr RX4 15 4 5 false (tyX4 5) := ⟨RX4, TX4, 6, tyX4, zc_4, by decide, rfl, rfl, rfl, Or.inl (List.mem_of_getElem? (i := 346) (by decide +kernel))⟩
theorem zpf_X4_19 : ∃ (C : String) (T : u_T) (N : Nat) (ty0 : Nat → FieldType), zq_cl 4 C T N ty0 ∧ 0 < N ∧ (T 0).2.2.2 = true ∧ ty0 0 = tyX4 0 ∧ (T 0).1 = RX4 ∧ Cond.fieldLink RX4 19 (T 0).1 (T 0).2.1 (T 0).2.2.1 ∈ lw_tbl := ⟨RX4, TX4, 6, tyX4, zc_4, by decide, rfl, rfl, rfl, List.mem_of_getElem? (i := 341) (by decide +kernel)⟩
theorem zpf_X4_23 : ∃ (C : String) (T : u_T) (N : Nat) (ty0 : Nat → FieldType), zq_cl 4 C T N ty0 ∧ 1 < N ∧ (T 1).2.2.2 = true ∧ ty0 1 = tyX4 1 ∧ (T 1).1 = RX4 ∧ Cond.fieldLink RX4 23 (T 1).1 (T 1).2.1 (T 1).2.2.1 ∈ lw_tbl := ⟨RX4, TX4, 6, tyX4, zc_4, by decide, rfl, rfl, rfl, List.mem_of_getElem? (i := 342) (by decide +kernel)⟩
theorem zpf_X4_27 : ∃ (C : String) (T : u_T) (N : Nat) (ty0 : Nat → FieldType), zq_cl 4 C T N ty0 ∧ 2 < N ∧ (T 2).2.2.2 = true ∧ ty0 2 = tyX4 2 ∧ (T 2).1 = RX4 ∧ Cond.fieldLink RX4 27 (T 2).1 (T 2).2.1 (T 2).2.2.1 ∈ lw_tbl := ⟨RX4, TX4, 6, tyX4, zc_4, by decide, rfl, rfl, rfl, List.mem_of_getElem? (i := 343) (by decide +kernel)⟩
theorem zpf_X4_31 : ∃ (C : String) (T : u_T) (N : Nat) (ty0 : Nat → FieldType), zq_cl 4 C T N ty0 ∧ 3 < N ∧ (T 3).2.2.2 = true ∧ ty0 3 = tyX4 3 ∧ (T 3).1 = RX4 ∧ Cond.fieldLink RX4 31 (T 3).1 (T 3).2.1 (T 3).2.2.1 ∈ lw_tbl := ⟨RX4, TX4, 6, tyX4, zc_4, by decide, rfl, rfl, rfl, List.mem_of_getElem? (i := 344) (by decide +kernel)⟩
abbrev zw_24 : List zq_AC := [.inr (11, [.ref 26, .ref 31, .ref 38, .ref 42, .null, .null, .null, .null, .null, .null, .ref 2, .ref 14, .int 0]),
  .inl (3, 4096, .inr (.inl (fun _ => 0))),
  .inr (7, [.ref 3, .int 0, .int 0, .ref 4, .ref 5, .ref 6, .int 0, .int 0, .int 0, .ref 7, .ref 8, .ref 9, .ref 10, .ref 11, .ref 12, .ref 13]),
  .inl (1, 400, .inl (fun _ => 0)),
  .inl (0, 100, .inl (fun _ => 0)),
  .inl (0, 100, .inl (fun _ => 0)),
  .inl (0, 100, .inl (fun _ => 0)),
  .inl (0, 10, .inl (fun _ => 0)),
  .inl (0, 10, .inl (fun _ => 0)),
  .inl (0, 10, .inl (fun _ => 0)),
  .inl (0, 10, .inl (fun _ => 0)),
  .inl (0, 10, .inl (fun _ => 0)),
  .inl (0, 10, .inl (fun _ => 0)),
  .inl (0, 10, .inl (fun _ => 0)),
  .inr (7, [.ref 15, .int 0, .int 0, .ref 16, .ref 17, .ref 18, .int 0, .int 0, .int 0, .ref 19, .ref 20, .ref 21, .ref 22, .ref 23, .ref 24, .ref 25]),
  .inl (1, 400, .inl (fun _ => 0)),
  .inl (0, 100, .inl (fun _ => 0)),
  .inl (0, 100, .inl (fun _ => 0)),
  .inl (0, 100, .inl (fun _ => 0)),
  .inl (0, 10, .inl (fun _ => 0)),
  .inl (0, 10, .inl (fun _ => 0)),
  .inl (0, 10, .inl (fun _ => 0)),
  .inl (0, 10, .inl (fun _ => 0)),
  .inl (0, 10, .inl (fun _ => 0)),
  .inl (0, 10, .inl (fun _ => 0)),
  .inl (0, 10, .inl (fun _ => 0)),
  .inr (5, [.ref 27, .int 0, .int (-1), .ref 14, .int 0, .ref 28, .int 0, .int 0, .int 0, .int 0, .ref 29, .ref 30]),
  .inl (1, 400, .inl (fun _ => 0)),
  .inl (0, 8, .inl (fun _ => 0)),
  .inl (0, 10, .inl (fun _ => 0)),
  .inl (0, 10, .inl (fun _ => 0)),
  .inr (3, [.ref 2, .ref 32, .ref 33, .ref 34, .ref 35, .ref 36, .ref 37, .int 0, .int 0, .int (-1)]),
  .inl (0, 10, .inl (fun _ => 0)),
  .inl (0, 4, .inl (fun _ => 0)),
  .inl (0, 10, .inl (fun _ => 0)),
  .inl (0, 10, .inl (fun _ => 0)),
  .inl (0, 10, .inl (fun _ => 0)),
  .inl (0, 1024, .inl (fun _ => 0)),
  .inr (9, [.ref 39, .ref 2]),
  .inr (8, [.int 1024, .ref 40, .ref 41]),
  .inl (3, 5120, .inr (.inl (fun _ => 0))),
  .inl (0, 1024, .inl (fun _ => 0)),
  .inr (0, [.ref 43, .int 0]),
  .inl (3, 200, .inr (.inl (fun _ => 0))),
  .inr (4, [.ref 31, .ref 38, .ref 42, .ref 1, .ref 45, .int (-1)]),
  .inl (3, 1024, .inr (.inl (fun _ => 0)))]
set_option maxRecDepth 40000 in
set_option maxHeartbeats 4000000 in
theorem zct_23 : zq_MC yX4_init cX4_init 5 none ⟨1, 1, 1024, 20⟩ 1 1024 [.ref 44, .ref 31, .ref 38, .ref 42, .ref 1] zw_22 (none, zw_24) := by
  refine zq_MC_of (own := RX4) [.ref 44, .ref 31, .ref 38, .ref 42, .ref 1] (by decide +kernel) rfl rfl (by decide) ?_
  refine zq_aload_n (pc' := 1) rfl rfl dX4_init_0 rfl ?_
  refine zq_oinit (pc' := 4) zoi_X4_3 dX4_init_1 (by decide) (by decide) rfl ?_
  refine zq_aload_n (pc' := 5) rfl rfl dX4_init_4 rfl ?_
  refine zq_sipush (pc' := 8) (v := 1024) dX4_init_5 rfl rfl ?_
  refine zq_newa (pc' := 10) (atype := .long) (kd := 3) (N := 1024) (a0 := (1024, .inr (.inl (fun _ => 0)))) zar_3 (fun _ => rfl) (fun _ _ h => h) (fun _ => rfl) (by decide) (by decide) (by decide) (by decide) rfl (by decide) (by decide) (by decide) dX4_init_8 rfl ?_
  refine zq_putF (pc' := 13) zpf_X4_9 rfl (fun _ => ⟨rfl, rfl⟩) rfl (by decide) dX4_init_10 rfl ?_
  refine zq_aload_n (pc' := 14) rfl rfl dX4_init_13 rfl ?_
  refine zq_iconst (pc' := 15) (v := (-1)) dX4_init_14 rfl rfl ?_
  refine zq_put (pc' := 18) zpn_X4_15 (fun _ => ⟨rfl, rfl⟩) rfl (by decide) dX4_init_15 rfl ?_
  refine zq_aload_n (pc' := 19) rfl rfl dX4_init_18 rfl ?_
  refine zq_aload_n (pc' := 20) rfl rfl dX4_init_19 rfl ?_
  refine zq_putF (pc' := 23) zpf_X4_19 rfl (fun _ => ⟨rfl, rfl⟩) rfl (by decide) dX4_init_20 rfl ?_
  refine zq_aload_n (pc' := 24) rfl rfl dX4_init_23 rfl ?_
  refine zq_aload_n (pc' := 25) rfl rfl dX4_init_24 rfl ?_
  refine zq_putF (pc' := 28) zpf_X4_23 rfl (fun _ => ⟨rfl, rfl⟩) rfl (by decide) dX4_init_25 rfl ?_
  refine zq_aload_n (pc' := 29) rfl rfl dX4_init_28 rfl ?_
  refine zq_aload_n (pc' := 30) rfl rfl dX4_init_29 rfl ?_
  refine zq_putF (pc' := 33) zpf_X4_27 rfl (fun _ => ⟨rfl, rfl⟩) rfl (by decide) dX4_init_30 rfl ?_
  refine zq_aload_n (pc' := 34) rfl rfl dX4_init_33 rfl ?_
  refine zq_aload (pc' := 36) rfl dX4_init_34 rfl ?_
  refine zq_putF (pc' := 39) zpf_X4_31 rfl (fun _ => ⟨rfl, rfl⟩) rfl (by decide) dX4_init_36 rfl ?_
  exact zq_vret rfl rfl rfl rfl dX4_init_39
theorem zci_X11_51 : zq_cb RX11 51 yX4_init cX4_init 5 none 4 ∧ Cond.instanceMethod yX4_init ∈ lw_tbl ∧ yX4_init.name = "<init>" := ⟨⟨List.mem_of_getElem? (i := 337) (by decide +kernel), List.mem_of_getElem? (i := 100) (by decide +kernel), List.mem_of_getElem? (i := 339) (by decide +kernel), by decide +kernel, by decide +kernel, by decide +kernel⟩, List.mem_of_getElem? (i := 338) (by decide +kernel), rfl⟩
theorem zpf_X11_54 : ∃ (C : String) (T : u_T) (N : Nat) (ty0 : Nat → FieldType), zq_cl 11 C T N ty0 ∧ 4 < N ∧ (T 4).2.2.2 = true ∧ ty0 4 = tyX11 4 ∧ (T 4).1 = RX11 ∧ Cond.fieldLink RX11 54 (T 4).1 (T 4).2.1 (T 4).2.2.1 ∈ lw_tbl := ⟨RX11, TX11, 13, tyX11, zc_11, by decide, rfl, rfl, rfl, List.mem_of_getElem? (i := 458) (by decide +kernel)⟩
theorem znw_X11_58 : zq_nw RX11 58 6 8 [.null, .null, .null, .null, .null, .null, .int 0, .int 0] := ⟨RX6, TX6, tyX6, zc_6, List.mem_of_getElem? (i := 360) (by decide +kernel), List.mem_of_getElem? (i := 361) (by decide +kernel), List.mem_of_getElem? (i := 101) (by decide +kernel), by decide⟩
abbrev zw_25 : List zq_AC := [.inr (11, [.ref 26, .ref 31, .ref 38, .ref 42, .ref 44, .null, .null, .null, .null, .null, .ref 2, .ref 14, .int 0]),
  .inl (3, 4096, .inr (.inl (fun _ => 0))),
  .inr (7, [.ref 3, .int 0, .int 0, .ref 4, .ref 5, .ref 6, .int 0, .int 0, .int 0, .ref 7, .ref 8, .ref 9, .ref 10, .ref 11, .ref 12, .ref 13]),
  .inl (1, 400, .inl (fun _ => 0)),
  .inl (0, 100, .inl (fun _ => 0)),
  .inl (0, 100, .inl (fun _ => 0)),
  .inl (0, 100, .inl (fun _ => 0)),
  .inl (0, 10, .inl (fun _ => 0)),
  .inl (0, 10, .inl (fun _ => 0)),
  .inl (0, 10, .inl (fun _ => 0)),
  .inl (0, 10, .inl (fun _ => 0)),
  .inl (0, 10, .inl (fun _ => 0)),
  .inl (0, 10, .inl (fun _ => 0)),
  .inl (0, 10, .inl (fun _ => 0)),
  .inr (7, [.ref 15, .int 0, .int 0, .ref 16, .ref 17, .ref 18, .int 0, .int 0, .int 0, .ref 19, .ref 20, .ref 21, .ref 22, .ref 23, .ref 24, .ref 25]),
  .inl (1, 400, .inl (fun _ => 0)),
  .inl (0, 100, .inl (fun _ => 0)),
  .inl (0, 100, .inl (fun _ => 0)),
  .inl (0, 100, .inl (fun _ => 0)),
  .inl (0, 10, .inl (fun _ => 0)),
  .inl (0, 10, .inl (fun _ => 0)),
  .inl (0, 10, .inl (fun _ => 0)),
  .inl (0, 10, .inl (fun _ => 0)),
  .inl (0, 10, .inl (fun _ => 0)),
  .inl (0, 10, .inl (fun _ => 0)),
  .inl (0, 10, .inl (fun _ => 0)),
  .inr (5, [.ref 27, .int 0, .int (-1), .ref 14, .int 0, .ref 28, .int 0, .int 0, .int 0, .int 0, .ref 29, .ref 30]),
  .inl (1, 400, .inl (fun _ => 0)),
  .inl (0, 8, .inl (fun _ => 0)),
  .inl (0, 10, .inl (fun _ => 0)),
  .inl (0, 10, .inl (fun _ => 0)),
  .inr (3, [.ref 2, .ref 32, .ref 33, .ref 34, .ref 35, .ref 36, .ref 37, .int 0, .int 0, .int (-1)]),
  .inl (0, 10, .inl (fun _ => 0)),
  .inl (0, 4, .inl (fun _ => 0)),
  .inl (0, 10, .inl (fun _ => 0)),
  .inl (0, 10, .inl (fun _ => 0)),
  .inl (0, 10, .inl (fun _ => 0)),
  .inl (0, 1024, .inl (fun _ => 0)),
  .inr (9, [.ref 39, .ref 2]),
  .inr (8, [.int 1024, .ref 40, .ref 41]),
  .inl (3, 5120, .inr (.inl (fun _ => 0))),
  .inl (0, 1024, .inl (fun _ => 0)),
  .inr (0, [.ref 43, .int 0]),
  .inl (3, 200, .inr (.inl (fun _ => 0))),
  .inr (4, [.ref 31, .ref 38, .ref 42, .ref 1, .ref 45, .int (-1)]),
  .inl (3, 1024, .inr (.inl (fun _ => 0))),
  .inr (6, [.null, .null, .null, .null, .null, .null, .int 0, .int 0])]
theorem zoi_X6_3 : Cond.methodLink RX6 3 Lib.objectInit ∈ lw_tbl ∧ Cond.instanceMethod Lib.objectInit ∈ lw_tbl ∧ Cond.code Lib.objectInit ⟨#[0xb1]⟩ 1 none ∈ lw_tbl := ⟨List.mem_of_getElem? (i := 365) (by decide +kernel), List.mem_of_getElem? (i := 115) (by decide +kernel), List.mem_of_getElem? (i := 116) (by decide +kernel)⟩
theorem zpf_X6_9 : ∃ (C : String) (T : u_T) (N : Nat) (ty0 : Nat → FieldType), zq_cl 6 C T N ty0 ∧ 4 < N ∧ (T 4).2.2.2 = true ∧ ty0 4 = tyX6 4 ∧ (T 4).1 = RX6 ∧ Cond.fieldLink RX6 9 (T 4).1 (T 4).2.1 (T 4).2.2.1 ∈ lw_tbl := ⟨RX6, TX6, 8, tyX6, zc_6, by decide, rfl, rfl, rfl, List.mem_of_getElem? (i := 370) (by decide +kernel)⟩
theorem zpf_X6_15 : ∃ (C : String) (T : u_T) (N : Nat) (ty0 : Nat → FieldType), zq_cl 6 C T N ty0 ∧ 5 < N ∧ (T 5).2.2.2 = true ∧ ty0 5 = tyX6 5 ∧ (T 5).1 = RX6 ∧ Cond.fieldLink RX6 15 (T 5).1 (T 5).2.1 (T 5).2.2.1 ∈ lw_tbl := ⟨RX6, TX6, 8, tyX6, zc_6, by decide, rfl, rfl, rfl, List.mem_of_getElem? (i := 371) (by decide +kernel)⟩
theorem zpn_X6_19 : zq_fr RX6 19 6 7 false (tyX6 7) := ⟨RX6, TX6, 8, tyX6, zc_6, by decide, rfl, rfl, rfl, Or.inl (List.mem_of_getElem? (i := 373) (by decide +kernel))⟩
theorem zpf_X6_23 : ∃ (C : String) (T : u_T) (N : Nat) (ty0 : Nat → FieldType), zq_cl 6 C T N ty0 ∧ 0 < N ∧ (T 0).2.2.2 = true ∧ ty0 0 = tyX6 0 ∧ (T 0).1 = RX6 ∧ Cond.fieldLink RX6 23 (T 0).1 (T 0).2.1 (T 0).2.2.1 ∈ lw_tbl := ⟨RX6, TX6, 8, tyX6, zc_6, by decide, rfl, rfl, rfl, List.mem_of_getElem? (i := 366) (by decide +kernel)⟩
theorem zpf_X6_27 : ∃ (C : String) (T : u_T) (N : Nat) (ty0 : Nat → FieldType), zq_cl 6 C T N ty0 ∧ 1 < N ∧ (T 1).2.2.2 = true ∧ ty0 1 = tyX6 1 ∧ (T 1).1 = RX6 ∧ Cond.fieldLink RX6 27 (T 1).1 (T 1).2.1 (T 1).2.2.1 ∈ lw_tbl := ⟨RX6, TX6, 8, tyX6, zc_6, by decide, rfl, rfl, rfl, List.mem_of_getElem? (i := 367) (by decide +kernel)⟩
theorem zpf_X6_31 : ∃ (C : String) (T : u_T) (N : Nat) (ty0 : Nat → FieldType), zq_cl 6 C T N ty0 ∧ 2 < N ∧ (T 2).2.2.2 = true ∧ ty0 2 = tyX6 2 ∧ (T 2).1 = RX6 ∧ Cond.fieldLink RX6 31 (T 2).1 (T 2).2.1 (T 2).2.2.1 ∈ lw_tbl := ⟨RX6, TX6, 8, tyX6, zc_6, by decide, rfl, rfl, rfl, List.mem_of_getElem? (i := 368) (by decide +kernel)⟩
theorem zpf_X6_35 : ∃ (C : String) (T : u_T) (N : Nat) (ty0 : Nat → FieldType), zq_cl 6 C T N ty0 ∧ 3 < N ∧ (T 3).2.2.2 = true ∧ ty0 3 = tyX6 3 ∧ (T 3).1 = RX6 ∧ Cond.fieldLink RX6 35 (T 3).1 (T 3).2.1 (T 3).2.2.1 ∈ lw_tbl := ⟨RX6, TX6, 8, tyX6, zc_6, by decide, rfl, rfl, rfl, List.mem_of_getElem? (i := 369) (by decide +kernel)⟩
abbrev zw_27 : List zq_AC := [.inr (11, [.ref 26, .ref 31, .ref 38, .ref 42, .ref 44, .null, .null, .null, .null, .null, .ref 2, .ref 14, .int 0]),
  .inl (3, 4096, .inr (.inl (fun _ => 0))),
  .inr (7, [.ref 3, .int 0, .int 0, .ref 4, .ref 5, .ref 6, .int 0, .int 0, .int 0, .ref 7, .ref 8, .ref 9, .ref 10, .ref 11, .ref 12, .ref 13]),
  .inl (1, 400, .inl (fun _ => 0)),
  .inl (0, 100, .inl (fun _ => 0)),
  .inl (0, 100, .inl (fun _ => 0)),
  .inl (0, 100, .inl (fun _ => 0)),
  .inl (0, 10, .inl (fun _ => 0)),
  .inl (0, 10, .inl (fun _ => 0)),
  .inl (0, 10, .inl (fun _ => 0)),
  .inl (0, 10, .inl (fun _ => 0)),
  .inl (0, 10, .inl (fun _ => 0)),
  .inl (0, 10, .inl (fun _ => 0)),
  .inl (0, 10, .inl (fun _ => 0)),
  .inr (7, [.ref 15, .int 0, .int 0, .ref 16, .ref 17, .ref 18, .int 0, .int 0, .int 0, .ref 19, .ref 20, .ref 21, .ref 22, .ref 23, .ref 24, .ref 25]),
  .inl (1, 400, .inl (fun _ => 0)),
  .inl (0, 100, .inl (fun _ => 0)),
  .inl (0, 100, .inl (fun _ => 0)),
  .inl (0, 100, .inl (fun _ => 0)),
  .inl (0, 10, .inl (fun _ => 0)),
  .inl (0, 10, .inl (fun _ => 0)),
  .inl (0, 10, .inl (fun _ => 0)),
  .inl (0, 10, .inl (fun _ => 0)),
  .inl (0, 10, .inl (fun _ => 0)),
  .inl (0, 10, .inl (fun _ => 0)),
  .inl (0, 10, .inl (fun _ => 0)),
  .inr (5, [.ref 27, .int 0, .int (-1), .ref 14, .int 0, .ref 28, .int 0, .int 0, .int 0, .int 0, .ref 29, .ref 30]),
  .inl (1, 400, .inl (fun _ => 0)),
  .inl (0, 8, .inl (fun _ => 0)),
  .inl (0, 10, .inl (fun _ => 0)),
  .inl (0, 10, .inl (fun _ => 0)),
  .inr (3, [.ref 2, .ref 32, .ref 33, .ref 34, .ref 35, .ref 36, .ref 37, .int 0, .int 0, .int (-1)]),
  .inl (0, 10, .inl (fun _ => 0)),
  .inl (0, 4, .inl (fun _ => 0)),
  .inl (0, 10, .inl (fun _ => 0)),
  .inl (0, 10, .inl (fun _ => 0)),
  .inl (0, 10, .inl (fun _ => 0)),
  .inl (0, 1024, .inl (fun _ => 0)),
  .inr (9, [.ref 39, .ref 2]),
  .inr (8, [.int 1024, .ref 40, .ref 41]),
  .inl (3, 5120, .inr (.inl (fun _ => 0))),
  .inl (0, 1024, .inl (fun _ => 0)),
  .inr (0, [.ref 43, .int 0]),
  .inl (3, 200, .inr (.inl (fun _ => 0))),
  .inr (4, [.ref 31, .ref 38, .ref 42, .ref 1, .ref 45, .int (-1)]),
  .inl (3, 1024, .inr (.inl (fun _ => 0))),
  .inr (6, [.ref 31, .ref 38, .ref 42, .ref 1, .ref 47, .ref 48, .int 0, .int (-1)]),
  .inl (0, 10, .inl (fun _ => 0)),
  .inl (3, 4, .inr (.inl (fun _ => 0)))]
set_option maxRecDepth 40000 in
set_option maxHeartbeats 4000000 in
theorem zct_26 : zq_MC yX6_init cX6_init 5 none ⟨1, 2, 14, 20⟩ 2 14 [.ref 46, .ref 31, .ref 38, .ref 42, .ref 1] zw_25 (none, zw_27) := by
  refine zq_MC_of (own := RX6) [.ref 46, .ref 31, .ref 38, .ref 42, .ref 1] (by decide +kernel) rfl rfl (by decide) ?_
  refine zq_aload_n (pc' := 1) rfl rfl dX6_init_0 rfl ?_
  refine zq_oinit (pc' := 4) zoi_X6_3 dX6_init_1 (by decide) (by decide) rfl ?_
  refine zq_aload_n (pc' := 5) rfl rfl dX6_init_4 rfl ?_
  refine zq_bipush (pc' := 7) (v := 10) dX6_init_5 rfl rfl ?_
  refine zq_newa (pc' := 9) (atype := .int) (kd := 0) (N := 10) (a0 := (10, .inl (fun _ => 0))) zar_0 (fun _ => rfl) (fun _ _ h => h) (fun _ => rfl) (by decide) (by decide) (by decide) (by decide) rfl (by decide) (by decide) (by decide) dX6_init_7 rfl ?_
  refine zq_putF (pc' := 12) zpf_X6_9 rfl (fun _ => ⟨rfl, rfl⟩) rfl (by decide) dX6_init_9 rfl ?_
  refine zq_aload_n (pc' := 13) rfl rfl dX6_init_12 rfl ?_
  refine zq_iconst (pc' := 14) (v := 4) dX6_init_13 rfl rfl ?_
  refine zq_newa (pc' := 16) (atype := .long) (kd := 3) (N := 4) (a0 := (4, .inr (.inl (fun _ => 0)))) zar_3 (fun _ => rfl) (fun _ _ h => h) (fun _ => rfl) (by decide) (by decide) (by decide) (by decide) rfl (by decide) (by decide) (by decide) dX6_init_14 rfl ?_
  refine zq_putF (pc' := 19) zpf_X6_15 rfl (fun _ => ⟨rfl, rfl⟩) rfl (by decide) dX6_init_16 rfl ?_
  refine zq_aload_n (pc' := 20) rfl rfl dX6_init_19 rfl ?_
  refine zq_iconst (pc' := 21) (v := (-1)) dX6_init_20 rfl rfl ?_
  refine zq_put (pc' := 24) zpn_X6_19 (fun _ => ⟨rfl, rfl⟩) rfl (by decide) dX6_init_21 rfl ?_
  refine zq_aload_n (pc' := 25) rfl rfl dX6_init_24 rfl ?_
  refine zq_aload_n (pc' := 26) rfl rfl dX6_init_25 rfl ?_
  refine zq_putF (pc' := 29) zpf_X6_23 rfl (fun _ => ⟨rfl, rfl⟩) rfl (by decide) dX6_init_26 rfl ?_
  refine zq_aload_n (pc' := 30) rfl rfl dX6_init_29 rfl ?_
  refine zq_aload_n (pc' := 31) rfl rfl dX6_init_30 rfl ?_
  refine zq_putF (pc' := 34) zpf_X6_27 rfl (fun _ => ⟨rfl, rfl⟩) rfl (by decide) dX6_init_31 rfl ?_
  refine zq_aload_n (pc' := 35) rfl rfl dX6_init_34 rfl ?_
  refine zq_aload_n (pc' := 36) rfl rfl dX6_init_35 rfl ?_
  refine zq_putF (pc' := 39) zpf_X6_31 rfl (fun _ => ⟨rfl, rfl⟩) rfl (by decide) dX6_init_36 rfl ?_
  refine zq_aload_n (pc' := 40) rfl rfl dX6_init_39 rfl ?_
  refine zq_aload (pc' := 42) rfl dX6_init_40 rfl ?_
  refine zq_putF (pc' := 45) zpf_X6_35 rfl (fun _ => ⟨rfl, rfl⟩) rfl (by decide) dX6_init_42 rfl ?_
  exact zq_vret rfl rfl rfl rfl dX6_init_45
theorem zci_X11_60 : zq_cb RX11 60 yX6_init cX6_init 5 none 4 ∧ Cond.instanceMethod yX6_init ∈ lw_tbl ∧ yX6_init.name = "<init>" := ⟨⟨List.mem_of_getElem? (i := 362) (by decide +kernel), List.mem_of_getElem? (i := 101) (by decide +kernel), List.mem_of_getElem? (i := 364) (by decide +kernel), by decide +kernel, by decide +kernel, by decide +kernel⟩, List.mem_of_getElem? (i := 363) (by decide +kernel), rfl⟩
theorem zpf_X11_61 : ∃ (C : String) (T : u_T) (N : Nat) (ty0 : Nat → FieldType), zq_cl 11 C T N ty0 ∧ 5 < N ∧ (T 5).2.2.2 = true ∧ ty0 5 = tyX11 5 ∧ (T 5).1 = RX11 ∧ Cond.fieldLink RX11 61 (T 5).1 (T 5).2.1 (T 5).2.2.1 ∈ lw_tbl := ⟨RX11, TX11, 13, tyX11, zc_11, by decide, rfl, rfl, rfl, List.mem_of_getElem? (i := 459) (by decide +kernel)⟩
theorem znw_X11_65 : zq_nw RX11 65 10 6 [.null, .null, .null, .null, .int 0, .int 0] := ⟨RX10, TX10, tyX10, zc_10, List.mem_of_getElem? (i := 391) (by decide +kernel), List.mem_of_getElem? (i := 392) (by decide +kernel), List.mem_of_getElem? (i := 102) (by decide +kernel), by decide⟩
abbrev zw_28 : List zq_AC := [.inr (11, [.ref 26, .ref 31, .ref 38, .ref 42, .ref 44, .ref 46, .null, .null, .null, .null, .ref 2, .ref 14, .int 0]),
  .inl (3, 4096, .inr (.inl (fun _ => 0))),
  .inr (7, [.ref 3, .int 0, .int 0, .ref 4, .ref 5, .ref 6, .int 0, .int 0, .int 0, .ref 7, .ref 8, .ref 9, .ref 10, .ref 11, .ref 12, .ref 13]),
  .inl (1, 400, .inl (fun _ => 0)),
  .inl (0, 100, .inl (fun _ => 0)),
  .inl (0, 100, .inl (fun _ => 0)),
  .inl (0, 100, .inl (fun _ => 0)),
  .inl (0, 10, .inl (fun _ => 0)),
  .inl (0, 10, .inl (fun _ => 0)),
  .inl (0, 10, .inl (fun _ => 0)),
  .inl (0, 10, .inl (fun _ => 0)),
  .inl (0, 10, .inl (fun _ => 0)),
  .inl (0, 10, .inl (fun _ => 0)),
  .inl (0, 10, .inl (fun _ => 0)),
  .inr (7, [.ref 15, .int 0, .int 0, .ref 16, .ref 17, .ref 18, .int 0, .int 0, .int 0, .ref 19, .ref 20, .ref 21, .ref 22, .ref 23, .ref 24, .ref 25]),
  .inl (1, 400, .inl (fun _ => 0)),
  .inl (0, 100, .inl (fun _ => 0)),
  .inl (0, 100, .inl (fun _ => 0)),
  .inl (0, 100, .inl (fun _ => 0)),
  .inl (0, 10, .inl (fun _ => 0)),
  .inl (0, 10, .inl (fun _ => 0)),
  .inl (0, 10, .inl (fun _ => 0)),
  .inl (0, 10, .inl (fun _ => 0)),
  .inl (0, 10, .inl (fun _ => 0)),
  .inl (0, 10, .inl (fun _ => 0)),
  .inl (0, 10, .inl (fun _ => 0)),
  .inr (5, [.ref 27, .int 0, .int (-1), .ref 14, .int 0, .ref 28, .int 0, .int 0, .int 0, .int 0, .ref 29, .ref 30]),
  .inl (1, 400, .inl (fun _ => 0)),
  .inl (0, 8, .inl (fun _ => 0)),
  .inl (0, 10, .inl (fun _ => 0)),
  .inl (0, 10, .inl (fun _ => 0)),
  .inr (3, [.ref 2, .ref 32, .ref 33, .ref 34, .ref 35, .ref 36, .ref 37, .int 0, .int 0, .int (-1)]),
  .inl (0, 10, .inl (fun _ => 0)),
  .inl (0, 4, .inl (fun _ => 0)),
  .inl (0, 10, .inl (fun _ => 0)),
  .inl (0, 10, .inl (fun _ => 0)),
  .inl (0, 10, .inl (fun _ => 0)),
  .inl (0, 1024, .inl (fun _ => 0)),
  .inr (9, [.ref 39, .ref 2]),
  .inr (8, [.int 1024, .ref 40, .ref 41]),
  .inl (3, 5120, .inr (.inl (fun _ => 0))),
  .inl (0, 1024, .inl (fun _ => 0)),
  .inr (0, [.ref 43, .int 0]),
  .inl (3, 200, .inr (.inl (fun _ => 0))),
  .inr (4, [.ref 31, .ref 38, .ref 42, .ref 1, .ref 45, .int (-1)]),
  .inl (3, 1024, .inr (.inl (fun _ => 0))),
  .inr (6, [.ref 31, .ref 38, .ref 42, .ref 1, .ref 47, .ref 48, .int 0, .int (-1)]),
  .inl (0, 10, .inl (fun _ => 0)),
  .inl (3, 4, .inr (.inl (fun _ => 0))),
  .inr (10, [.null, .null, .null, .null, .int 0, .int 0])]
theorem zoi_X10_3 : Cond.methodLink RX10 3 Lib.objectInit ∈ lw_tbl ∧ Cond.instanceMethod Lib.objectInit ∈ lw_tbl ∧ Cond.code Lib.objectInit ⟨#[0xb1]⟩ 1 none ∈ lw_tbl := ⟨List.mem_of_getElem? (i := 396) (by decide +kernel), List.mem_of_getElem? (i := 115) (by decide +kernel), List.mem_of_getElem? (i := 116) (by decide +kernel)⟩
theorem zpf_X10_9 : ∃ (C : String) (T : u_T) (N : Nat) (ty0 : Nat → FieldType), zq_cl 10 C T N ty0 ∧ 3 < N ∧ (T 3).2.2.2 = true ∧ ty0 3 = tyX10 3 ∧ (T 3).1 = RX10 ∧ Cond.fieldLink RX10 9 (T 3).1 (T 3).2.1 (T 3).2.2.1 ∈ lw_tbl := ⟨RX10, TX10, 6, tyX10, zc_10, by decide, rfl, rfl, rfl, List.mem_of_getElem? (i := 400) (by decide +kernel)⟩
theorem zpn_X10_15 : zq_fr RX10 15 10 5 false (tyX10 5) := ⟨RX10, TX10, 6, tyX10, zc_10, by decide, rfl, rfl, rfl, Or.inl (List.mem_of_getElem? (i := 402) (by decide +kernel))⟩
theorem zpf_X10_19 : ∃ (C : String) (T : u_T) (N : Nat) (ty0 : Nat → FieldType), zq_cl 10 C T N ty0 ∧ 0 < N ∧ (T 0).2.2.2 = true ∧ ty0 0 = tyX10 0 ∧ (T 0).1 = RX10 ∧ Cond.fieldLink RX10 19 (T 0).1 (T 0).2.1 (T 0).2.2.1 ∈ lw_tbl := ⟨RX10, TX10, 6, tyX10, zc_10, by decide, rfl, rfl, rfl, List.mem_of_getElem? (i := 397) (by decide +kernel)⟩
theorem zpf_X10_23 : ∃ (C : String) (T : u_T) (N : Nat) (ty0 : Nat → FieldType), zq_cl 10 C T N ty0 ∧ 1 < N ∧ (T 1).2.2.2 = true ∧ ty0 1 = tyX10 1 ∧ (T 1).1 = RX10 ∧ Cond.fieldLink RX10 23 (T 1).1 (T 1).2.1 (T 1).2.2.1 ∈ lw_tbl := ⟨RX10, TX10, 6, tyX10, zc_10, by decide, rfl, rfl, rfl, List.mem_of_getElem? (i := 398) (by decide +kernel)⟩
theorem zpf_X10_27 : ∃ (C : String) (T : u_T) (N : Nat) (ty0 : Nat → FieldType), zq_cl 10 C T N ty0 ∧ 2 < N ∧ (T 2).2.2.2 = true ∧ ty0 2 = tyX10 2 ∧ (T 2).1 = RX10 ∧ Cond.fieldLink RX10 27 (T 2).1 (T 2).2.1 (T 2).2.2.1 ∈ lw_tbl := ⟨RX10, TX10, 6, tyX10, zc_10, by decide, rfl, rfl, rfl, List.mem_of_getElem? (i := 399) (by decide +kernel)⟩
abbrev zw_30 : List zq_AC := [.inr (11, [.ref 26, .ref 31, .ref 38, .ref 42, .ref 44, .ref 46, .null, .null, .null, .null, .ref 2, .ref 14, .int 0]),
  .inl (3, 4096, .inr (.inl (fun _ => 0))),
  .inr (7, [.ref 3, .int 0, .int 0, .ref 4, .ref 5, .ref 6, .int 0, .int 0, .int 0, .ref 7, .ref 8, .ref 9, .ref 10, .ref 11, .ref 12, .ref 13]),
  .inl (1, 400, .inl (fun _ => 0)),
  .inl (0, 100, .inl (fun _ => 0)),
  .inl (0, 100, .inl (fun _ => 0)),
  .inl (0, 100, .inl (fun _ => 0)),
  .inl (0, 10, .inl (fun _ => 0)),
  .inl (0, 10, .inl (fun _ => 0)),
  .inl (0, 10, .inl (fun _ => 0)),
  .inl (0, 10, .inl (fun _ => 0)),
  .inl (0, 10, .inl (fun _ => 0)),
  .inl (0, 10, .inl (fun _ => 0)),
  .inl (0, 10, .inl (fun _ => 0)),
  .inr (7, [.ref 15, .int 0, .int 0, .ref 16, .ref 17, .ref 18, .int 0, .int 0, .int 0, .ref 19, .ref 20, .ref 21, .ref 22, .ref 23, .ref 24, .ref 25]),
  .inl (1, 400, .inl (fun _ => 0)),
  .inl (0, 100, .inl (fun _ => 0)),
  .inl (0, 100, .inl (fun _ => 0)),
  .inl (0, 100, .inl (fun _ => 0)),
  .inl (0, 10, .inl (fun _ => 0)),
  .inl (0, 10, .inl (fun _ => 0)),
  .inl (0, 10, .inl (fun _ => 0)),
  .inl (0, 10, .inl (fun _ => 0)),
  .inl (0, 10, .inl (fun _ => 0)),
  .inl (0, 10, .inl (fun _ => 0)),
  .inl (0, 10, .inl (fun _ => 0)),
  .inr (5, [.ref 27, .int 0, .int (-1), .ref 14, .int 0, .ref 28, .int 0, .int 0, .int 0, .int 0, .ref 29, .ref 30]),
  .inl (1, 400, .inl (fun _ => 0)),
  .inl (0, 8, .inl (fun _ => 0)),
  .inl (0, 10, .inl (fun _ => 0)),
  .inl (0, 10, .inl (fun _ => 0)),
  .inr (3, [.ref 2, .ref 32, .ref 33, .ref 34, .ref 35, .ref 36, .ref 37, .int 0, .int 0, .int (-1)]),
  .inl (0, 10, .inl (fun _ => 0)),
  .inl (0, 4, .inl (fun _ => 0)),
  .inl (0, 10, .inl (fun _ => 0)),
  .inl (0, 10, .inl (fun _ => 0)),
  .inl (0, 10, .inl (fun _ => 0)),
  .inl (0, 1024, .inl (fun _ => 0)),
  .inr (9, [.ref 39, .ref 2]),
  .inr (8, [.int 1024, .ref 40, .ref 41]),
  .inl (3, 5120, .inr (.inl (fun _ => 0))),
  .inl (0, 1024, .inl (fun _ => 0)),
  .inr (0, [.ref 43, .int 0]),
  .inl (3, 200, .inr (.inl (fun _ => 0))),
  .inr (4, [.ref 31, .ref 38, .ref 42, .ref 1, .ref 45, .int (-1)]),
  .inl (3, 1024, .inr (.inl (fun _ => 0))),
  .inr (6, [.ref 31, .ref 38, .ref 42, .ref 1, .ref 47, .ref 48, .int 0, .int (-1)]),
  .inl (0, 10, .inl (fun _ => 0)),
  .inl (3, 4, .inr (.inl (fun _ => 0))),
  .inr (10, [.ref 31, .ref 38, .ref 1, .ref 50, .int 0, .int (-1)]),
  .inl (0, 1024, .inl (fun _ => 0))]
set_option maxRecDepth 40000 in
set_option maxHeartbeats 4000000 in
theorem zct_29 : zq_MC yX10_init cX10_init 4 none ⟨1, 1, 1024, 20⟩ 1 1024 [.ref 49, .ref 31, .ref 38, .ref 1] zw_28 (none, zw_30) := by
  refine zq_MC_of (own := RX10) [.ref 49, .ref 31, .ref 38, .ref 1] (by decide +kernel) rfl rfl (by decide) ?_
  refine zq_aload_n (pc' := 1) rfl rfl dX10_init_0 rfl ?_
  refine zq_oinit (pc' := 4) zoi_X10_3 dX10_init_1 (by decide) (by decide) rfl ?_
  refine zq_aload_n (pc' := 5) rfl rfl dX10_init_4 rfl ?_
  refine zq_sipush (pc' := 8) (v := 1024) dX10_init_5 rfl rfl ?_
  refine zq_newa (pc' := 10) (atype := .int) (kd := 0) (N := 1024) (a0 := (1024, .inl (fun _ => 0))) zar_0 (fun _ => rfl) (fun _ _ h => h) (fun _ => rfl) (by decide) (by decide) (by decide) (by decide) rfl (by decide) (by decide) (by decide) dX10_init_8 rfl ?_
  refine zq_putF (pc' := 13) zpf_X10_9 rfl (fun _ => ⟨rfl, rfl⟩) rfl (by decide) dX10_init_10 rfl ?_
  refine zq_aload_n (pc' := 14) rfl rfl dX10_init_13 rfl ?_
  refine zq_iconst (pc' := 15) (v := (-1)) dX10_init_14 rfl rfl ?_
  refine zq_put (pc' := 18) zpn_X10_15 (fun _ => ⟨rfl, rfl⟩) rfl (by decide) dX10_init_15 rfl ?_
  refine zq_aload_n (pc' := 19) rfl rfl dX10_init_18 rfl ?_
  refine zq_aload_n (pc' := 20) rfl rfl dX10_init_19 rfl ?_
  refine zq_putF (pc' := 23) zpf_X10_19 rfl (fun _ => ⟨rfl, rfl⟩) rfl (by decide) dX10_init_20 rfl ?_
  refine zq_aload_n (pc' := 24) rfl rfl dX10_init_23 rfl ?_
  refine zq_aload_n (pc' := 25) rfl rfl dX10_init_24 rfl ?_
  refine zq_putF (pc' := 28) zpf_X10_23 rfl (fun _ => ⟨rfl, rfl⟩) rfl (by decide) dX10_init_25 rfl ?_
  refine zq_aload_n (pc' := 29) rfl rfl dX10_init_28 rfl ?_
  refine zq_aload_n (pc' := 30) rfl rfl dX10_init_29 rfl ?_
  refine zq_putF (pc' := 33) zpf_X10_27 rfl (fun _ => ⟨rfl, rfl⟩) rfl (by decide) dX10_init_30 rfl ?_
  exact zq_vret rfl rfl rfl rfl dX10_init_33
theorem zci_X11_67 : zq_cb RX11 67 yX10_init cX10_init 4 none 3 ∧ Cond.instanceMethod yX10_init ∈ lw_tbl ∧ yX10_init.name = "<init>" := ⟨⟨List.mem_of_getElem? (i := 393) (by decide +kernel), List.mem_of_getElem? (i := 102) (by decide +kernel), List.mem_of_getElem? (i := 395) (by decide +kernel), by decide +kernel, by decide +kernel, by decide +kernel⟩, List.mem_of_getElem? (i := 394) (by decide +kernel), rfl⟩
theorem zpf_X11_70 : ∃ (C : String) (T : u_T) (N : Nat) (ty0 : Nat → FieldType), zq_cl 11 C T N ty0 ∧ 6 < N ∧ (T 6).2.2.2 = true ∧ ty0 6 = tyX11 6 ∧ (T 6).1 = RX11 ∧ Cond.fieldLink RX11 70 (T 6).1 (T 6).2.1 (T 6).2.2.1 ∈ lw_tbl := ⟨RX11, TX11, 13, tyX11, zc_11, by decide, rfl, rfl, rfl, List.mem_of_getElem? (i := 460) (by decide +kernel)⟩
theorem znw_X11_74 : zq_nw RX11 74 8 3 [.int 0, .null, .null] := ⟨RX8, TX8, tyX8, zc_8, List.mem_of_getElem? (i := 416) (by decide +kernel), List.mem_of_getElem? (i := 296) (by decide +kernel), List.mem_of_getElem? (i := 97) (by decide +kernel), by decide⟩
abbrev zw_31 : List zq_AC := [.inr (11, [.ref 26, .ref 31, .ref 38, .ref 42, .ref 44, .ref 46, .ref 49, .null, .null, .null, .ref 2, .ref 14, .int 0]),
  .inl (3, 4096, .inr (.inl (fun _ => 0))),
  .inr (7, [.ref 3, .int 0, .int 0, .ref 4, .ref 5, .ref 6, .int 0, .int 0, .int 0, .ref 7, .ref 8, .ref 9, .ref 10, .ref 11, .ref 12, .ref 13]),
  .inl (1, 400, .inl (fun _ => 0)),
  .inl (0, 100, .inl (fun _ => 0)),
  .inl (0, 100, .inl (fun _ => 0)),
  .inl (0, 100, .inl (fun _ => 0)),
  .inl (0, 10, .inl (fun _ => 0)),
  .inl (0, 10, .inl (fun _ => 0)),
  .inl (0, 10, .inl (fun _ => 0)),
  .inl (0, 10, .inl (fun _ => 0)),
  .inl (0, 10, .inl (fun _ => 0)),
  .inl (0, 10, .inl (fun _ => 0)),
  .inl (0, 10, .inl (fun _ => 0)),
  .inr (7, [.ref 15, .int 0, .int 0, .ref 16, .ref 17, .ref 18, .int 0, .int 0, .int 0, .ref 19, .ref 20, .ref 21, .ref 22, .ref 23, .ref 24, .ref 25]),
  .inl (1, 400, .inl (fun _ => 0)),
  .inl (0, 100, .inl (fun _ => 0)),
  .inl (0, 100, .inl (fun _ => 0)),
  .inl (0, 100, .inl (fun _ => 0)),
  .inl (0, 10, .inl (fun _ => 0)),
  .inl (0, 10, .inl (fun _ => 0)),
  .inl (0, 10, .inl (fun _ => 0)),
  .inl (0, 10, .inl (fun _ => 0)),
  .inl (0, 10, .inl (fun _ => 0)),
  .inl (0, 10, .inl (fun _ => 0)),
  .inl (0, 10, .inl (fun _ => 0)),
  .inr (5, [.ref 27, .int 0, .int (-1), .ref 14, .int 0, .ref 28, .int 0, .int 0, .int 0, .int 0, .ref 29, .ref 30]),
  .inl (1, 400, .inl (fun _ => 0)),
  .inl (0, 8, .inl (fun _ => 0)),
  .inl (0, 10, .inl (fun _ => 0)),
  .inl (0, 10, .inl (fun _ => 0)),
  .inr (3, [.ref 2, .ref 32, .ref 33, .ref 34, .ref 35, .ref 36, .ref 37, .int 0, .int 0, .int (-1)]),
  .inl (0, 10, .inl (fun _ => 0)),
  .inl (0, 4, .inl (fun _ => 0)),
  .inl (0, 10, .inl (fun _ => 0)),
  .inl (0, 10, .inl (fun _ => 0)),
  .inl (0, 10, .inl (fun _ => 0)),
  .inl (0, 1024, .inl (fun _ => 0)),
  .inr (9, [.ref 39, .ref 2]),
  .inr (8, [.int 1024, .ref 40, .ref 41]),
  .inl (3, 5120, .inr (.inl (fun _ => 0))),
  .inl (0, 1024, .inl (fun _ => 0)),
  .inr (0, [.ref 43, .int 0]),
  .inl (3, 200, .inr (.inl (fun _ => 0))),
  .inr (4, [.ref 31, .ref 38, .ref 42, .ref 1, .ref 45, .int (-1)]),
  .inl (3, 1024, .inr (.inl (fun _ => 0))),
  .inr (6, [.ref 31, .ref 38, .ref 42, .ref 1, .ref 47, .ref 48, .int 0, .int (-1)]),
  .inl (0, 10, .inl (fun _ => 0)),
  .inl (3, 4, .inr (.inl (fun _ => 0))),
  .inr (10, [.ref 31, .ref 38, .ref 1, .ref 50, .int 0, .int (-1)]),
  .inl (0, 1024, .inl (fun _ => 0)),
  .inr (8, [.int 0, .null, .null])]
abbrev zw_33 : List zq_AC := [.inr (11, [.ref 26, .ref 31, .ref 38, .ref 42, .ref 44, .ref 46, .ref 49, .null, .null, .null, .ref 2, .ref 14, .int 0]),
  .inl (3, 4096, .inr (.inl (fun _ => 0))),
  .inr (7, [.ref 3, .int 0, .int 0, .ref 4, .ref 5, .ref 6, .int 0, .int 0, .int 0, .ref 7, .ref 8, .ref 9, .ref 10, .ref 11, .ref 12, .ref 13]),
  .inl (1, 400, .inl (fun _ => 0)),
  .inl (0, 100, .inl (fun _ => 0)),
  .inl (0, 100, .inl (fun _ => 0)),
  .inl (0, 100, .inl (fun _ => 0)),
  .inl (0, 10, .inl (fun _ => 0)),
  .inl (0, 10, .inl (fun _ => 0)),
  .inl (0, 10, .inl (fun _ => 0)),
  .inl (0, 10, .inl (fun _ => 0)),
  .inl (0, 10, .inl (fun _ => 0)),
  .inl (0, 10, .inl (fun _ => 0)),
  .inl (0, 10, .inl (fun _ => 0)),
  .inr (7, [.ref 15, .int 0, .int 0, .ref 16, .ref 17, .ref 18, .int 0, .int 0, .int 0, .ref 19, .ref 20, .ref 21, .ref 22, .ref 23, .ref 24, .ref 25]),
  .inl (1, 400, .inl (fun _ => 0)),
  .inl (0, 100, .inl (fun _ => 0)),
  .inl (0, 100, .inl (fun _ => 0)),
  .inl (0, 100, .inl (fun _ => 0)),
  .inl (0, 10, .inl (fun _ => 0)),
  .inl (0, 10, .inl (fun _ => 0)),
  .inl (0, 10, .inl (fun _ => 0)),
  .inl (0, 10, .inl (fun _ => 0)),
  .inl (0, 10, .inl (fun _ => 0)),
  .inl (0, 10, .inl (fun _ => 0)),
  .inl (0, 10, .inl (fun _ => 0)),
  .inr (5, [.ref 27, .int 0, .int (-1), .ref 14, .int 0, .ref 28, .int 0, .int 0, .int 0, .int 0, .ref 29, .ref 30]),
  .inl (1, 400, .inl (fun _ => 0)),
  .inl (0, 8, .inl (fun _ => 0)),
  .inl (0, 10, .inl (fun _ => 0)),
  .inl (0, 10, .inl (fun _ => 0)),
  .inr (3, [.ref 2, .ref 32, .ref 33, .ref 34, .ref 35, .ref 36, .ref 37, .int 0, .int 0, .int (-1)]),
  .inl (0, 10, .inl (fun _ => 0)),
  .inl (0, 4, .inl (fun _ => 0)),
  .inl (0, 10, .inl (fun _ => 0)),
  .inl (0, 10, .inl (fun _ => 0)),
  .inl (0, 10, .inl (fun _ => 0)),
  .inl (0, 1024, .inl (fun _ => 0)),
  .inr (9, [.ref 39, .ref 2]),
  .inr (8, [.int 1024, .ref 40, .ref 41]),
  .inl (3, 5120, .inr (.inl (fun _ => 0))),
  .inl (0, 1024, .inl (fun _ => 0)),
  .inr (0, [.ref 43, .int 0]),
  .inl (3, 200, .inr (.inl (fun _ => 0))),
  .inr (4, [.ref 31, .ref 38, .ref 42, .ref 1, .ref 45, .int (-1)]),
  .inl (3, 1024, .inr (.inl (fun _ => 0))),
  .inr (6, [.ref 31, .ref 38, .ref 42, .ref 1, .ref 47, .ref 48, .int 0, .int (-1)]),
  .inl (0, 10, .inl (fun _ => 0)),
  .inl (3, 4, .inr (.inl (fun _ => 0))),
  .inr (10, [.ref 31, .ref 38, .ref 1, .ref 50, .int 0, .int (-1)]),
  .inl (0, 1024, .inl (fun _ => 0)),
  .inr (8, [.int 5, .ref 52, .ref 53]),
  .inl (3, 25, .inr (.inl (fun _ => 0))),
  .inl (0, 5, .inl (fun _ => 0))]
set_option maxRecDepth 40000 in
set_option maxHeartbeats 4000000 in
theorem zct_32 : zq_MC yX8_init cX8_init 2 none ⟨1, 2, 30, 21⟩ 2 30 [.ref 51, .int 5] zw_31 (none, zw_33) := by
  refine zq_MC_of (own := RX8) [.ref 51, .int 5] (by decide +kernel) rfl rfl (by decide) ?_
  refine zq_aload_n (pc' := 1) rfl rfl dX8_init_0 rfl ?_
  refine zq_oinit (pc' := 4) zoi_X8_3 dX8_init_1 (by decide) (by decide) rfl ?_
  refine zq_aload_n (pc' := 5) rfl rfl dX8_init_4 rfl ?_
  refine zq_iconst (pc' := 6) (v := 1) dX8_init_5 rfl rfl ?_
  refine zq_iload_n (pc' := 7) rfl rfl dX8_init_6 rfl ?_
  refine zc_max (pc' := 10) zmx_X8_9 dX8_init_7 (by decide) (by decide) (by decide) rfl ?_
  show zq_R _ _ _ _ _ _ _ _ _ _ _ _ _ [.int 5, .ref 51] _ _ _
  refine zq_putF (pc' := 13) zpf_X8_15 rfl (fun _ => ⟨rfl, rfl⟩) rfl (by decide) dX8_init_10 rfl ?_
  refine zq_aload_n (pc' := 14) rfl rfl dX8_init_13 rfl ?_
  refine zq_aload_n (pc' := 15) rfl rfl dX8_init_14 rfl ?_
  refine zq_get (pc' := 18) zgn_X8_15 rfl rfl dX8_init_15 rfl ?_
  refine zq_iconst (pc' := 19) (v := 5) dX8_init_18 rfl rfl ?_
  refine zq_imul (pc' := 20) dX8_init_19 rfl ?_
  show zq_R _ _ _ _ _ _ _ _ _ _ _ _ _ [.int 25, .ref 51] _ _ _
  refine zq_newa (pc' := 22) (atype := .long) (kd := 3) (N := 25) (a0 := (25, .inr (.inl (fun _ => 0)))) zar_3 (fun _ => rfl) (fun _ _ h => h) (fun _ => rfl) (by decide) (by decide) (by decide) (by decide) rfl (by decide) (by decide) (by decide) dX8_init_20 rfl ?_
  refine zq_putF (pc' := 25) zpf_X8_21 rfl (fun _ => ⟨rfl, rfl⟩) rfl (by decide) dX8_init_22 rfl ?_
  refine zq_aload_n (pc' := 26) rfl rfl dX8_init_25 rfl ?_
  refine zq_aload_n (pc' := 27) rfl rfl dX8_init_26 rfl ?_
  refine zq_get (pc' := 30) zgn_X8_15 rfl rfl dX8_init_27 rfl ?_
  refine zq_newa (pc' := 32) (atype := .int) (kd := 0) (N := 5) (a0 := (5, .inl (fun _ => 0))) zar_0 (fun _ => rfl) (fun _ _ h => h) (fun _ => rfl) (by decide) (by decide) (by decide) (by decide) rfl (by decide) (by decide) (by decide) dX8_init_30 rfl ?_
  refine zq_putF (pc' := 35) zpf_X8_25 rfl (fun _ => ⟨rfl, rfl⟩) rfl (by decide) dX8_init_32 rfl ?_
  exact zq_vret rfl rfl rfl rfl dX8_init_35
theorem zci_X11_76 : zq_cb RX11 76 yX8_init cX8_init 2 none 1 ∧ Cond.instanceMethod yX8_init ∈ lw_tbl ∧ yX8_init.name = "<init>" := ⟨⟨List.mem_of_getElem? (i := 417) (by decide +kernel), List.mem_of_getElem? (i := 97) (by decide +kernel), List.mem_of_getElem? (i := 299) (by decide +kernel), by decide +kernel, by decide +kernel, by decide +kernel⟩, List.mem_of_getElem? (i := 298) (by decide +kernel), rfl⟩
theorem zpf_X11_79 : ∃ (C : String) (T : u_T) (N : Nat) (ty0 : Nat → FieldType), zq_cl 11 C T N ty0 ∧ 7 < N ∧ (T 7).2.2.2 = true ∧ ty0 7 = tyX11 7 ∧ (T 7).1 = RX11 ∧ Cond.fieldLink RX11 79 (T 7).1 (T 7).2.1 (T 7).2.2.1 ∈ lw_tbl := ⟨RX11, TX11, 13, tyX11, zc_11, by decide, rfl, rfl, rfl, List.mem_of_getElem? (i := 461) (by decide +kernel)⟩
theorem znw_X11_83 : zq_nw RX11 83 2 1 [.null] := ⟨RX2, TX2, tyX2, zc_2, List.mem_of_getElem? (i := 418) (by decide +kernel), List.mem_of_getElem? (i := 419) (by decide +kernel), List.mem_of_getElem? (i := 103) (by decide +kernel), by decide⟩
abbrev zw_34 : List zq_AC := [.inr (11, [.ref 26, .ref 31, .ref 38, .ref 42, .ref 44, .ref 46, .ref 49, .ref 51, .null, .null, .ref 2, .ref 14, .int 0]),
  .inl (3, 4096, .inr (.inl (fun _ => 0))),
  .inr (7, [.ref 3, .int 0, .int 0, .ref 4, .ref 5, .ref 6, .int 0, .int 0, .int 0, .ref 7, .ref 8, .ref 9, .ref 10, .ref 11, .ref 12, .ref 13]),
  .inl (1, 400, .inl (fun _ => 0)),
  .inl (0, 100, .inl (fun _ => 0)),
  .inl (0, 100, .inl (fun _ => 0)),
  .inl (0, 100, .inl (fun _ => 0)),
  .inl (0, 10, .inl (fun _ => 0)),
  .inl (0, 10, .inl (fun _ => 0)),
  .inl (0, 10, .inl (fun _ => 0)),
  .inl (0, 10, .inl (fun _ => 0)),
  .inl (0, 10, .inl (fun _ => 0)),
  .inl (0, 10, .inl (fun _ => 0)),
  .inl (0, 10, .inl (fun _ => 0)),
  .inr (7, [.ref 15, .int 0, .int 0, .ref 16, .ref 17, .ref 18, .int 0, .int 0, .int 0, .ref 19, .ref 20, .ref 21, .ref 22, .ref 23, .ref 24, .ref 25]),
  .inl (1, 400, .inl (fun _ => 0)),
  .inl (0, 100, .inl (fun _ => 0)),
  .inl (0, 100, .inl (fun _ => 0)),
  .inl (0, 100, .inl (fun _ => 0)),
  .inl (0, 10, .inl (fun _ => 0)),
  .inl (0, 10, .inl (fun _ => 0)),
  .inl (0, 10, .inl (fun _ => 0)),
  .inl (0, 10, .inl (fun _ => 0)),
  .inl (0, 10, .inl (fun _ => 0)),
  .inl (0, 10, .inl (fun _ => 0)),
  .inl (0, 10, .inl (fun _ => 0)),
  .inr (5, [.ref 27, .int 0, .int (-1), .ref 14, .int 0, .ref 28, .int 0, .int 0, .int 0, .int 0, .ref 29, .ref 30]),
  .inl (1, 400, .inl (fun _ => 0)),
  .inl (0, 8, .inl (fun _ => 0)),
  .inl (0, 10, .inl (fun _ => 0)),
  .inl (0, 10, .inl (fun _ => 0)),
  .inr (3, [.ref 2, .ref 32, .ref 33, .ref 34, .ref 35, .ref 36, .ref 37, .int 0, .int 0, .int (-1)]),
  .inl (0, 10, .inl (fun _ => 0)),
  .inl (0, 4, .inl (fun _ => 0)),
  .inl (0, 10, .inl (fun _ => 0)),
  .inl (0, 10, .inl (fun _ => 0)),
  .inl (0, 10, .inl (fun _ => 0)),
  .inl (0, 1024, .inl (fun _ => 0)),
  .inr (9, [.ref 39, .ref 2]),
  .inr (8, [.int 1024, .ref 40, .ref 41]),
  .inl (3, 5120, .inr (.inl (fun _ => 0))),
  .inl (0, 1024, .inl (fun _ => 0)),
  .inr (0, [.ref 43, .int 0]),
  .inl (3, 200, .inr (.inl (fun _ => 0))),
  .inr (4, [.ref 31, .ref 38, .ref 42, .ref 1, .ref 45, .int (-1)]),
  .inl (3, 1024, .inr (.inl (fun _ => 0))),
  .inr (6, [.ref 31, .ref 38, .ref 42, .ref 1, .ref 47, .ref 48, .int 0, .int (-1)]),
  .inl (0, 10, .inl (fun _ => 0)),
  .inl (3, 4, .inr (.inl (fun _ => 0))),
  .inr (10, [.ref 31, .ref 38, .ref 1, .ref 50, .int 0, .int (-1)]),
  .inl (0, 1024, .inl (fun _ => 0)),
  .inr (8, [.int 5, .ref 52, .ref 53]),
  .inl (3, 25, .inr (.inl (fun _ => 0))),
  .inl (0, 5, .inl (fun _ => 0)),
  .inr (2, [.null])]
theorem zoi_X2_3 : Cond.methodLink RX2 3 Lib.objectInit ∈ lw_tbl ∧ Cond.instanceMethod Lib.objectInit ∈ lw_tbl ∧ Cond.code Lib.objectInit ⟨#[0xb1]⟩ 1 none ∈ lw_tbl := ⟨List.mem_of_getElem? (i := 423) (by decide +kernel), List.mem_of_getElem? (i := 115) (by decide +kernel), List.mem_of_getElem? (i := 116) (by decide +kernel)⟩
theorem zpf_X2_9 : ∃ (C : String) (T : u_T) (N : Nat) (ty0 : Nat → FieldType), zq_cl 2 C T N ty0 ∧ 0 < N ∧ (T 0).2.2.2 = true ∧ ty0 0 = tyX2 0 ∧ (T 0).1 = RX2 ∧ Cond.fieldLink RX2 9 (T 0).1 (T 0).2.1 (T 0).2.2.1 ∈ lw_tbl := ⟨RX2, TX2, 1, tyX2, zc_2, by decide, rfl, rfl, rfl, List.mem_of_getElem? (i := 424) (by decide +kernel)⟩
abbrev zw_36 : List zq_AC := [.inr (11, [.ref 26, .ref 31, .ref 38, .ref 42, .ref 44, .ref 46, .ref 49, .ref 51, .null, .null, .ref 2, .ref 14, .int 0]),
  .inl (3, 4096, .inr (.inl (fun _ => 0))),
  .inr (7, [.ref 3, .int 0, .int 0, .ref 4, .ref 5, .ref 6, .int 0, .int 0, .int 0, .ref 7, .ref 8, .ref 9, .ref 10, .ref 11, .ref 12, .ref 13]),
  .inl (1, 400, .inl (fun _ => 0)),
  .inl (0, 100, .inl (fun _ => 0)),
  .inl (0, 100, .inl (fun _ => 0)),
  .inl (0, 100, .inl (fun _ => 0)),
  .inl (0, 10, .inl (fun _ => 0)),
  .inl (0, 10, .inl (fun _ => 0)),
  .inl (0, 10, .inl (fun _ => 0)),
  .inl (0, 10, .inl (fun _ => 0)),
  .inl (0, 10, .inl (fun _ => 0)),
  .inl (0, 10, .inl (fun _ => 0)),
  .inl (0, 10, .inl (fun _ => 0)),
  .inr (7, [.ref 15, .int 0, .int 0, .ref 16, .ref 17, .ref 18, .int 0, .int 0, .int 0, .ref 19, .ref 20, .ref 21, .ref 22, .ref 23, .ref 24, .ref 25]),
  .inl (1, 400, .inl (fun _ => 0)),
  .inl (0, 100, .inl (fun _ => 0)),
  .inl (0, 100, .inl (fun _ => 0)),
  .inl (0, 100, .inl (fun _ => 0)),
  .inl (0, 10, .inl (fun _ => 0)),
  .inl (0, 10, .inl (fun _ => 0)),
  .inl (0, 10, .inl (fun _ => 0)),
  .inl (0, 10, .inl (fun _ => 0)),
  .inl (0, 10, .inl (fun _ => 0)),
  .inl (0, 10, .inl (fun _ => 0)),
  .inl (0, 10, .inl (fun _ => 0)),
  .inr (5, [.ref 27, .int 0, .int (-1), .ref 14, .int 0, .ref 28, .int 0, .int 0, .int 0, .int 0, .ref 29, .ref 30]),
  .inl (1, 400, .inl (fun _ => 0)),
  .inl (0, 8, .inl (fun _ => 0)),
  .inl (0, 10, .inl (fun _ => 0)),
  .inl (0, 10, .inl (fun _ => 0)),
  .inr (3, [.ref 2, .ref 32, .ref 33, .ref 34, .ref 35, .ref 36, .ref 37, .int 0, .int 0, .int (-1)]),
  .inl (0, 10, .inl (fun _ => 0)),
  .inl (0, 4, .inl (fun _ => 0)),
  .inl (0, 10, .inl (fun _ => 0)),
  .inl (0, 10, .inl (fun _ => 0)),
  .inl (0, 10, .inl (fun _ => 0)),
  .inl (0, 1024, .inl (fun _ => 0)),
  .inr (9, [.ref 39, .ref 2]),
  .inr (8, [.int 1024, .ref 40, .ref 41]),
  .inl (3, 5120, .inr (.inl (fun _ => 0))),
  .inl (0, 1024, .inl (fun _ => 0)),
  .inr (0, [.ref 43, .int 0]),
  .inl (3, 200, .inr (.inl (fun _ => 0))),
  .inr (4, [.ref 31, .ref 38, .ref 42, .ref 1, .ref 45, .int (-1)]),
  .inl (3, 1024, .inr (.inl (fun _ => 0))),
  .inr (6, [.ref 31, .ref 38, .ref 42, .ref 1, .ref 47, .ref 48, .int 0, .int (-1)]),
  .inl (0, 10, .inl (fun _ => 0)),
  .inl (3, 4, .inr (.inl (fun _ => 0))),
  .inr (10, [.ref 31, .ref 38, .ref 1, .ref 50, .int 0, .int (-1)]),
  .inl (0, 1024, .inl (fun _ => 0)),
  .inr (8, [.int 5, .ref 52, .ref 53]),
  .inl (3, 25, .inr (.inl (fun _ => 0))),
  .inl (0, 5, .inl (fun _ => 0)),
  .inr (2, [.ref 55]),
  .inl (3, 100, .inr (.inl (fun _ => 0)))]
set_option maxRecDepth 40000 in
set_option maxHeartbeats 4000000 in
theorem zct_35 : zq_MC yX2_init cX2_init 1 none ⟨1, 1, 100, 20⟩ 1 100 [.ref 54] zw_34 (none, zw_36) := by
  refine zq_MC_of (own := RX2) [.ref 54] (by decide +kernel) rfl rfl (by decide) ?_
  refine zq_aload_n (pc' := 1) rfl rfl dX2_init_0 rfl ?_
  refine zq_oinit (pc' := 4) zoi_X2_3 dX2_init_1 (by decide) (by decide) rfl ?_
  refine zq_aload_n (pc' := 5) rfl rfl dX2_init_4 rfl ?_
  refine zq_bipush (pc' := 7) (v := 100) dX2_init_5 rfl rfl ?_
  refine zq_newa (pc' := 9) (atype := .long) (kd := 3) (N := 100) (a0 := (100, .inr (.inl (fun _ => 0)))) zar_3 (fun _ => rfl) (fun _ _ h => h) (fun _ => rfl) (by decide) (by decide) (by decide) (by decide) rfl (by decide) (by decide) (by decide) dX2_init_7 rfl ?_
  refine zq_putF (pc' := 12) zpf_X2_9 rfl (fun _ => ⟨rfl, rfl⟩) rfl (by decide) dX2_init_9 rfl ?_
  exact zq_vret rfl rfl rfl rfl dX2_init_12
theorem zci_X11_85 : (Cond.methodLinkNest RX11 85 yX2_init "CrossedSheets" ∈ lw_tbl ∧ Cond.initialized yX2_init.cls ∈ lw_tbl ∧ Cond.code yX2_init cX2_init 1 none ∈ lw_tbl ∧ (yX2_init.cls ≠ "java/lang/invoke/MethodHandle" ∧ yX2_init.cls ≠ "java/lang/invoke/VarHandle" ∧ (parseMethodDescriptor yX2_init.desc).map (fun d => d.parameters.length) = some 0)) ∧ Cond.instanceMethod yX2_init ∈ lw_tbl ∧ yX2_init.name = "<init>" := ⟨⟨List.mem_of_getElem? (i := 420) (by decide +kernel), List.mem_of_getElem? (i := 103) (by decide +kernel), List.mem_of_getElem? (i := 422) (by decide +kernel), by decide +kernel, by decide +kernel, by decide +kernel⟩, List.mem_of_getElem? (i := 421) (by decide +kernel), rfl⟩
theorem zpf_X11_86 : ∃ (C : String) (T : u_T) (N : Nat) (ty0 : Nat → FieldType), zq_cl 11 C T N ty0 ∧ 9 < N ∧ (T 9).2.2.2 = true ∧ ty0 9 = tyX11 9 ∧ (T 9).1 = RX11 ∧ Cond.fieldLink RX11 86 (T 9).1 (T 9).2.1 (T 9).2.2.1 ∈ lw_tbl := ⟨RX11, TX11, 13, tyX11, zc_11, by decide, rfl, rfl, rfl, List.mem_of_getElem? (i := 463) (by decide +kernel)⟩
theorem znw_X11_90 : zq_nw RX11 90 1 6 [.null, .null, .null, .null, .null, .int 0] := ⟨RX1, TX1, tyX1, zc_1, List.mem_of_getElem? (i := 428) (by decide +kernel), List.mem_of_getElem? (i := 429) (by decide +kernel), List.mem_of_getElem? (i := 104) (by decide +kernel), by decide⟩
theorem zgn_X11_79 : zq_fr RX11 79 11 7 true (tyX11 7) := ⟨RX11, TX11, 13, tyX11, zc_11, by decide, rfl, rfl, rfl, Or.inl (List.mem_of_getElem? (i := 461) (by decide +kernel))⟩
theorem zgn_X11_86 : zq_fr RX11 86 11 9 true (tyX11 9) := ⟨RX11, TX11, 13, tyX11, zc_11, by decide, rfl, rfl, rfl, Or.inl (List.mem_of_getElem? (i := 463) (by decide +kernel))⟩
abbrev zw_37 : List zq_AC := [.inr (11, [.ref 26, .ref 31, .ref 38, .ref 42, .ref 44, .ref 46, .ref 49, .ref 51, .null, .ref 54, .ref 2, .ref 14, .int 0]),
  .inl (3, 4096, .inr (.inl (fun _ => 0))),
  .inr (7, [.ref 3, .int 0, .int 0, .ref 4, .ref 5, .ref 6, .int 0, .int 0, .int 0, .ref 7, .ref 8, .ref 9, .ref 10, .ref 11, .ref 12, .ref 13]),
  .inl (1, 400, .inl (fun _ => 0)),
  .inl (0, 100, .inl (fun _ => 0)),
  .inl (0, 100, .inl (fun _ => 0)),
  .inl (0, 100, .inl (fun _ => 0)),
  .inl (0, 10, .inl (fun _ => 0)),
  .inl (0, 10, .inl (fun _ => 0)),
  .inl (0, 10, .inl (fun _ => 0)),
  .inl (0, 10, .inl (fun _ => 0)),
  .inl (0, 10, .inl (fun _ => 0)),
  .inl (0, 10, .inl (fun _ => 0)),
  .inl (0, 10, .inl (fun _ => 0)),
  .inr (7, [.ref 15, .int 0, .int 0, .ref 16, .ref 17, .ref 18, .int 0, .int 0, .int 0, .ref 19, .ref 20, .ref 21, .ref 22, .ref 23, .ref 24, .ref 25]),
  .inl (1, 400, .inl (fun _ => 0)),
  .inl (0, 100, .inl (fun _ => 0)),
  .inl (0, 100, .inl (fun _ => 0)),
  .inl (0, 100, .inl (fun _ => 0)),
  .inl (0, 10, .inl (fun _ => 0)),
  .inl (0, 10, .inl (fun _ => 0)),
  .inl (0, 10, .inl (fun _ => 0)),
  .inl (0, 10, .inl (fun _ => 0)),
  .inl (0, 10, .inl (fun _ => 0)),
  .inl (0, 10, .inl (fun _ => 0)),
  .inl (0, 10, .inl (fun _ => 0)),
  .inr (5, [.ref 27, .int 0, .int (-1), .ref 14, .int 0, .ref 28, .int 0, .int 0, .int 0, .int 0, .ref 29, .ref 30]),
  .inl (1, 400, .inl (fun _ => 0)),
  .inl (0, 8, .inl (fun _ => 0)),
  .inl (0, 10, .inl (fun _ => 0)),
  .inl (0, 10, .inl (fun _ => 0)),
  .inr (3, [.ref 2, .ref 32, .ref 33, .ref 34, .ref 35, .ref 36, .ref 37, .int 0, .int 0, .int (-1)]),
  .inl (0, 10, .inl (fun _ => 0)),
  .inl (0, 4, .inl (fun _ => 0)),
  .inl (0, 10, .inl (fun _ => 0)),
  .inl (0, 10, .inl (fun _ => 0)),
  .inl (0, 10, .inl (fun _ => 0)),
  .inl (0, 1024, .inl (fun _ => 0)),
  .inr (9, [.ref 39, .ref 2]),
  .inr (8, [.int 1024, .ref 40, .ref 41]),
  .inl (3, 5120, .inr (.inl (fun _ => 0))),
  .inl (0, 1024, .inl (fun _ => 0)),
  .inr (0, [.ref 43, .int 0]),
  .inl (3, 200, .inr (.inl (fun _ => 0))),
  .inr (4, [.ref 31, .ref 38, .ref 42, .ref 1, .ref 45, .int (-1)]),
  .inl (3, 1024, .inr (.inl (fun _ => 0))),
  .inr (6, [.ref 31, .ref 38, .ref 42, .ref 1, .ref 47, .ref 48, .int 0, .int (-1)]),
  .inl (0, 10, .inl (fun _ => 0)),
  .inl (3, 4, .inr (.inl (fun _ => 0))),
  .inr (10, [.ref 31, .ref 38, .ref 1, .ref 50, .int 0, .int (-1)]),
  .inl (0, 1024, .inl (fun _ => 0)),
  .inr (8, [.int 5, .ref 52, .ref 53]),
  .inl (3, 25, .inr (.inl (fun _ => 0))),
  .inl (0, 5, .inl (fun _ => 0)),
  .inr (2, [.ref 55]),
  .inl (3, 100, .inr (.inl (fun _ => 0))),
  .inr (1, [.null, .null, .null, .null, .null, .int 0])]
theorem zoi_X1_3 : Cond.methodLink RX1 3 Lib.objectInit ∈ lw_tbl ∧ Cond.instanceMethod Lib.objectInit ∈ lw_tbl ∧ Cond.code Lib.objectInit ⟨#[0xb1]⟩ 1 none ∈ lw_tbl := ⟨List.mem_of_getElem? (i := 433) (by decide +kernel), List.mem_of_getElem? (i := 115) (by decide +kernel), List.mem_of_getElem? (i := 116) (by decide +kernel)⟩
theorem zpf_X1_9 : ∃ (C : String) (T : u_T) (N : Nat) (ty0 : Nat → FieldType), zq_cl 1 C T N ty0 ∧ 0 < N ∧ (T 0).2.2.2 = true ∧ ty0 0 = tyX1 0 ∧ (T 0).1 = RX1 ∧ Cond.fieldLink RX1 9 (T 0).1 (T 0).2.1 (T 0).2.2.1 ∈ lw_tbl := ⟨RX1, TX1, 6, tyX1, zc_1, by decide, rfl, rfl, rfl, List.mem_of_getElem? (i := 434) (by decide +kernel)⟩
theorem zpf_X1_15 : ∃ (C : String) (T : u_T) (N : Nat) (ty0 : Nat → FieldType), zq_cl 1 C T N ty0 ∧ 1 < N ∧ (T 1).2.2.2 = true ∧ ty0 1 = tyX1 1 ∧ (T 1).1 = RX1 ∧ Cond.fieldLink RX1 15 (T 1).1 (T 1).2.1 (T 1).2.2.1 ∈ lw_tbl := ⟨RX1, TX1, 6, tyX1, zc_1, by decide, rfl, rfl, rfl, List.mem_of_getElem? (i := 435) (by decide +kernel)⟩
theorem zpf_X1_19 : ∃ (C : String) (T : u_T) (N : Nat) (ty0 : Nat → FieldType), zq_cl 1 C T N ty0 ∧ 2 < N ∧ (T 2).2.2.2 = true ∧ ty0 2 = tyX1 2 ∧ (T 2).1 = RX1 ∧ Cond.fieldLink RX1 19 (T 2).1 (T 2).2.1 (T 2).2.2.1 ∈ lw_tbl := ⟨RX1, TX1, 6, tyX1, zc_1, by decide, rfl, rfl, rfl, List.mem_of_getElem? (i := 436) (by decide +kernel)⟩
theorem zpf_X1_23 : ∃ (C : String) (T : u_T) (N : Nat) (ty0 : Nat → FieldType), zq_cl 1 C T N ty0 ∧ 3 < N ∧ (T 3).2.2.2 = true ∧ ty0 3 = tyX1 3 ∧ (T 3).1 = RX1 ∧ Cond.fieldLink RX1 23 (T 3).1 (T 3).2.1 (T 3).2.2.1 ∈ lw_tbl := ⟨RX1, TX1, 6, tyX1, zc_1, by decide, rfl, rfl, rfl, List.mem_of_getElem? (i := 437) (by decide +kernel)⟩
theorem zpf_X1_27 : ∃ (C : String) (T : u_T) (N : Nat) (ty0 : Nat → FieldType), zq_cl 1 C T N ty0 ∧ 4 < N ∧ (T 4).2.2.2 = true ∧ ty0 4 = tyX1 4 ∧ (T 4).1 = RX1 ∧ Cond.fieldLink RX1 27 (T 4).1 (T 4).2.1 (T 4).2.2.1 ∈ lw_tbl := ⟨RX1, TX1, 6, tyX1, zc_1, by decide, rfl, rfl, rfl, List.mem_of_getElem? (i := 438) (by decide +kernel)⟩
abbrev zw_39 : List zq_AC := [.inr (11, [.ref 26, .ref 31, .ref 38, .ref 42, .ref 44, .ref 46, .ref 49, .ref 51, .null, .ref 54, .ref 2, .ref 14, .int 0]),
  .inl (3, 4096, .inr (.inl (fun _ => 0))),
  .inr (7, [.ref 3, .int 0, .int 0, .ref 4, .ref 5, .ref 6, .int 0, .int 0, .int 0, .ref 7, .ref 8, .ref 9, .ref 10, .ref 11, .ref 12, .ref 13]),
  .inl (1, 400, .inl (fun _ => 0)),
  .inl (0, 100, .inl (fun _ => 0)),
  .inl (0, 100, .inl (fun _ => 0)),
  .inl (0, 100, .inl (fun _ => 0)),
  .inl (0, 10, .inl (fun _ => 0)),
  .inl (0, 10, .inl (fun _ => 0)),
  .inl (0, 10, .inl (fun _ => 0)),
  .inl (0, 10, .inl (fun _ => 0)),
  .inl (0, 10, .inl (fun _ => 0)),
  .inl (0, 10, .inl (fun _ => 0)),
  .inl (0, 10, .inl (fun _ => 0)),
  .inr (7, [.ref 15, .int 0, .int 0, .ref 16, .ref 17, .ref 18, .int 0, .int 0, .int 0, .ref 19, .ref 20, .ref 21, .ref 22, .ref 23, .ref 24, .ref 25]),
  .inl (1, 400, .inl (fun _ => 0)),
  .inl (0, 100, .inl (fun _ => 0)),
  .inl (0, 100, .inl (fun _ => 0)),
  .inl (0, 100, .inl (fun _ => 0)),
  .inl (0, 10, .inl (fun _ => 0)),
  .inl (0, 10, .inl (fun _ => 0)),
  .inl (0, 10, .inl (fun _ => 0)),
  .inl (0, 10, .inl (fun _ => 0)),
  .inl (0, 10, .inl (fun _ => 0)),
  .inl (0, 10, .inl (fun _ => 0)),
  .inl (0, 10, .inl (fun _ => 0)),
  .inr (5, [.ref 27, .int 0, .int (-1), .ref 14, .int 0, .ref 28, .int 0, .int 0, .int 0, .int 0, .ref 29, .ref 30]),
  .inl (1, 400, .inl (fun _ => 0)),
  .inl (0, 8, .inl (fun _ => 0)),
  .inl (0, 10, .inl (fun _ => 0)),
  .inl (0, 10, .inl (fun _ => 0)),
  .inr (3, [.ref 2, .ref 32, .ref 33, .ref 34, .ref 35, .ref 36, .ref 37, .int 0, .int 0, .int (-1)]),
  .inl (0, 10, .inl (fun _ => 0)),
  .inl (0, 4, .inl (fun _ => 0)),
  .inl (0, 10, .inl (fun _ => 0)),
  .inl (0, 10, .inl (fun _ => 0)),
  .inl (0, 10, .inl (fun _ => 0)),
  .inl (0, 1024, .inl (fun _ => 0)),
  .inr (9, [.ref 39, .ref 2]),
  .inr (8, [.int 1024, .ref 40, .ref 41]),
  .inl (3, 5120, .inr (.inl (fun _ => 0))),
  .inl (0, 1024, .inl (fun _ => 0)),
  .inr (0, [.ref 43, .int 0]),
  .inl (3, 200, .inr (.inl (fun _ => 0))),
  .inr (4, [.ref 31, .ref 38, .ref 42, .ref 1, .ref 45, .int (-1)]),
  .inl (3, 1024, .inr (.inl (fun _ => 0))),
  .inr (6, [.ref 31, .ref 38, .ref 42, .ref 1, .ref 47, .ref 48, .int 0, .int (-1)]),
  .inl (0, 10, .inl (fun _ => 0)),
  .inl (3, 4, .inr (.inl (fun _ => 0))),
  .inr (10, [.ref 31, .ref 38, .ref 1, .ref 50, .int 0, .int (-1)]),
  .inl (0, 1024, .inl (fun _ => 0)),
  .inr (8, [.int 5, .ref 52, .ref 53]),
  .inl (3, 25, .inr (.inl (fun _ => 0))),
  .inl (0, 5, .inl (fun _ => 0)),
  .inr (2, [.ref 55]),
  .inl (3, 100, .inr (.inl (fun _ => 0))),
  .inr (1, [.ref 31, .ref 38, .ref 51, .ref 54, .ref 1, .int 0])]
set_option maxRecDepth 40000 in
set_option maxHeartbeats 4000000 in
theorem zct_38 : zq_MC yX1_init cX1_init 6 none ⟨1, 0, 0, 20⟩ 0 0 [.ref 56, .ref 31, .ref 38, .ref 51, .ref 54, .ref 1] zw_37 (none, zw_39) := by
  refine zq_MC_of (own := RX1) [.ref 56, .ref 31, .ref 38, .ref 51, .ref 54, .ref 1] (by decide +kernel) rfl rfl (by decide) ?_
  refine zq_aload_n (pc' := 1) rfl rfl dX1_init_0 rfl ?_
  refine zq_oinit (pc' := 4) zoi_X1_3 dX1_init_1 (by decide) (by decide) rfl ?_
  refine zq_aload_n (pc' := 5) rfl rfl dX1_init_4 rfl ?_
  refine zq_aload_n (pc' := 6) rfl rfl dX1_init_5 rfl ?_
  refine zq_putF (pc' := 9) zpf_X1_9 rfl (fun _ => ⟨rfl, rfl⟩) rfl (by decide) dX1_init_6 rfl ?_
  refine zq_aload_n (pc' := 10) rfl rfl dX1_init_9 rfl ?_
  refine zq_aload_n (pc' := 11) rfl rfl dX1_init_10 rfl ?_
  refine zq_putF (pc' := 14) zpf_X1_15 rfl (fun _ => ⟨rfl, rfl⟩) rfl (by decide) dX1_init_11 rfl ?_
  refine zq_aload_n (pc' := 15) rfl rfl dX1_init_14 rfl ?_
  refine zq_aload_n (pc' := 16) rfl rfl dX1_init_15 rfl ?_
  refine zq_putF (pc' := 19) zpf_X1_19 rfl (fun _ => ⟨rfl, rfl⟩) rfl (by decide) dX1_init_16 rfl ?_
  refine zq_aload_n (pc' := 20) rfl rfl dX1_init_19 rfl ?_
  refine zq_aload (pc' := 22) rfl dX1_init_20 rfl ?_
  refine zq_putF (pc' := 25) zpf_X1_23 rfl (fun _ => ⟨rfl, rfl⟩) rfl (by decide) dX1_init_22 rfl ?_
  refine zq_aload_n (pc' := 26) rfl rfl dX1_init_25 rfl ?_
  refine zq_aload (pc' := 28) rfl dX1_init_26 rfl ?_
  refine zq_putF (pc' := 31) zpf_X1_27 rfl (fun _ => ⟨rfl, rfl⟩) rfl (by decide) dX1_init_28 rfl ?_
  exact zq_vret rfl rfl rfl rfl dX1_init_31
theorem zci_X11_92 : zq_cb RX11 92 yX1_init cX1_init 6 none 5 ∧ Cond.instanceMethod yX1_init ∈ lw_tbl ∧ yX1_init.name = "<init>" := ⟨⟨List.mem_of_getElem? (i := 430) (by decide +kernel), List.mem_of_getElem? (i := 104) (by decide +kernel), List.mem_of_getElem? (i := 432) (by decide +kernel), by decide +kernel, by decide +kernel, by decide +kernel⟩, List.mem_of_getElem? (i := 431) (by decide +kernel), rfl⟩
theorem zpf_X11_95 : ∃ (C : String) (T : u_T) (N : Nat) (ty0 : Nat → FieldType), zq_cl 11 C T N ty0 ∧ 8 < N ∧ (T 8).2.2.2 = true ∧ ty0 8 = tyX11 8 ∧ (T 8).1 = RX11 ∧ Cond.fieldLink RX11 95 (T 8).1 (T 8).2.1 (T 8).2.2.1 ∈ lw_tbl := ⟨RX11, TX11, 13, tyX11, zc_11, by decide, rfl, rfl, rfl, List.mem_of_getElem? (i := 462) (by decide +kernel)⟩
theorem zpn_X11_99 : zq_fr RX11 99 11 12 false (tyX11 12) := ⟨RX11, TX11, 13, tyX11, zc_11, by decide, rfl, rfl, rfl, Or.inl (List.mem_of_getElem? (i := 466) (by decide +kernel))⟩
abbrev zw_41 : List zq_AC := [.inr (11, [.ref 26, .ref 31, .ref 38, .ref 42, .ref 44, .ref 46, .ref 49, .ref 51, .ref 56, .ref 54, .ref 2, .ref 14, .int (-1)]),
  .inl (3, 4096, .inr (.inl (fun _ => 0))),
  .inr (7, [.ref 3, .int 0, .int 0, .ref 4, .ref 5, .ref 6, .int 0, .int 0, .int 0, .ref 7, .ref 8, .ref 9, .ref 10, .ref 11, .ref 12, .ref 13]),
  .inl (1, 400, .inl (fun _ => 0)),
  .inl (0, 100, .inl (fun _ => 0)),
  .inl (0, 100, .inl (fun _ => 0)),
  .inl (0, 100, .inl (fun _ => 0)),
  .inl (0, 10, .inl (fun _ => 0)),
  .inl (0, 10, .inl (fun _ => 0)),
  .inl (0, 10, .inl (fun _ => 0)),
  .inl (0, 10, .inl (fun _ => 0)),
  .inl (0, 10, .inl (fun _ => 0)),
  .inl (0, 10, .inl (fun _ => 0)),
  .inl (0, 10, .inl (fun _ => 0)),
  .inr (7, [.ref 15, .int 0, .int 0, .ref 16, .ref 17, .ref 18, .int 0, .int 0, .int 0, .ref 19, .ref 20, .ref 21, .ref 22, .ref 23, .ref 24, .ref 25]),
  .inl (1, 400, .inl (fun _ => 0)),
  .inl (0, 100, .inl (fun _ => 0)),
  .inl (0, 100, .inl (fun _ => 0)),
  .inl (0, 100, .inl (fun _ => 0)),
  .inl (0, 10, .inl (fun _ => 0)),
  .inl (0, 10, .inl (fun _ => 0)),
  .inl (0, 10, .inl (fun _ => 0)),
  .inl (0, 10, .inl (fun _ => 0)),
  .inl (0, 10, .inl (fun _ => 0)),
  .inl (0, 10, .inl (fun _ => 0)),
  .inl (0, 10, .inl (fun _ => 0)),
  .inr (5, [.ref 27, .int 0, .int (-1), .ref 14, .int 0, .ref 28, .int 0, .int 0, .int 0, .int 0, .ref 29, .ref 30]),
  .inl (1, 400, .inl (fun _ => 0)),
  .inl (0, 8, .inl (fun _ => 0)),
  .inl (0, 10, .inl (fun _ => 0)),
  .inl (0, 10, .inl (fun _ => 0)),
  .inr (3, [.ref 2, .ref 32, .ref 33, .ref 34, .ref 35, .ref 36, .ref 37, .int 0, .int 0, .int (-1)]),
  .inl (0, 10, .inl (fun _ => 0)),
  .inl (0, 4, .inl (fun _ => 0)),
  .inl (0, 10, .inl (fun _ => 0)),
  .inl (0, 10, .inl (fun _ => 0)),
  .inl (0, 10, .inl (fun _ => 0)),
  .inl (0, 1024, .inl (fun _ => 0)),
  .inr (9, [.ref 39, .ref 2]),
  .inr (8, [.int 1024, .ref 40, .ref 41]),
  .inl (3, 5120, .inr (.inl (fun _ => 0))),
  .inl (0, 1024, .inl (fun _ => 0)),
  .inr (0, [.ref 43, .int 0]),
  .inl (3, 200, .inr (.inl (fun _ => 0))),
  .inr (4, [.ref 31, .ref 38, .ref 42, .ref 1, .ref 45, .int (-1)]),
  .inl (3, 1024, .inr (.inl (fun _ => 0))),
  .inr (6, [.ref 31, .ref 38, .ref 42, .ref 1, .ref 47, .ref 48, .int 0, .int (-1)]),
  .inl (0, 10, .inl (fun _ => 0)),
  .inl (3, 4, .inr (.inl (fun _ => 0))),
  .inr (10, [.ref 31, .ref 38, .ref 1, .ref 50, .int 0, .int (-1)]),
  .inl (0, 1024, .inl (fun _ => 0)),
  .inr (8, [.int 5, .ref 52, .ref 53]),
  .inl (3, 25, .inr (.inl (fun _ => 0))),
  .inl (0, 5, .inl (fun _ => 0)),
  .inr (2, [.ref 55]),
  .inl (3, 100, .inr (.inl (fun _ => 0))),
  .inr (1, [.ref 31, .ref 38, .ref 51, .ref 54, .ref 1, .int 0])]
set_option maxRecDepth 40000 in
set_option maxHeartbeats 4000000 in
theorem zct_40 : zq_MC yX11_init cX11_init 2 none ⟨3, 56, 15759, 63⟩ 56 15759 [.ref 0] zw_0 (none, zw_41) := by
  refine zq_MC_of (own := RX11) [.ref 0, .null] (by decide +kernel) rfl rfl (by decide) ?_
  refine zq_aload_n (pc' := 1) rfl rfl dX11_init_0 rfl ?_
  refine zq_oinit (pc' := 4) zoi_X11_3 dX11_init_1 (by decide) (by decide) rfl ?_
  refine zq_sipush (pc' := 7) (v := 4096) dX11_init_4 rfl rfl ?_
  refine zq_newa (pc' := 9) (atype := .long) (kd := 3) (N := 4096) (a0 := (4096, .inr (.inl (fun _ => 0)))) zar_3 (fun _ => rfl) (fun _ _ h => h) (fun _ => rfl) (by decide) (by decide) (by decide) (by decide) rfl (by decide) (by decide) (by decide) dX11_init_7 rfl ?_
  refine zq_astore_n (pc' := 10) (ls' := [.ref 0, .ref 1]) rfl (by decide) rfl rfl dX11_init_9 rfl ?_
  refine zq_aload_n (pc' := 11) rfl rfl dX11_init_10 rfl ?_
  refine zq_new (pc' := 14) znw_X11_9 (fun _ => rfl) (by decide) rfl (by decide) (by decide) (by decide) dX11_init_11 rfl ?_
  refine zq_dup (pc' := 15) rfl dX11_init_14 rfl ?_
  refine zq_callIN (rm := ⟨3, 56, 15759, 63⟩) (mc := 56) (ms := 15759) (cells := 2) (slots := 4112) (n0 := 1) (pc' := 18) (As := []) (rest := [.ref 2, .ref 0]) zci_X11_11 zct_2 rfl ⟨rfl, rfl, by decide, by decide⟩ ⟨by decide, by decide⟩ (by decide) (fun _ => ⟨by decide, rfl, by decide⟩) dX11_init_15 rfl rfl ?_
  refine zq_put (pc' := 21) zpn_X11_12 (fun _ => ⟨rfl, rfl⟩) rfl (by decide) dX11_init_18 rfl ?_
  refine zq_aload_n (pc' := 22) rfl rfl dX11_init_21 rfl ?_
  refine zq_new (pc' := 25) znw_X11_9 (fun _ => rfl) (by decide) rfl (by decide) (by decide) (by decide) dX11_init_22 rfl ?_
  refine zq_dup (pc' := 26) rfl dX11_init_25 rfl ?_
  refine zq_callIN (rm := ⟨3, 56, 15759, 63⟩) (mc := 56) (ms := 15759) (cells := 14) (slots := 4898) (n0 := 1) (pc' := 29) (As := []) (rest := [.ref 14, .ref 0]) zci_X11_11 zct_5 rfl ⟨rfl, rfl, by decide, by decide⟩ ⟨by decide, by decide⟩ (by decide) (fun _ => ⟨by decide, rfl, by decide⟩) dX11_init_26 rfl rfl ?_
  refine zq_put (pc' := 32) zpn_X11_16 (fun _ => ⟨rfl, rfl⟩) rfl (by decide) dX11_init_29 rfl ?_
  refine zq_aload_n (pc' := 33) rfl rfl dX11_init_32 rfl ?_
  refine zq_new (pc' := 36) znw_X11_19 (fun _ => rfl) (by decide) rfl (by decide) (by decide) (by decide) dX11_init_33 rfl ?_
  refine zq_dup (pc' := 37) rfl dX11_init_36 rfl ?_
  refine zq_aload_n (pc' := 38) rfl rfl dX11_init_37 rfl ?_
  refine zq_get (pc' := 41) zgn_X11_16 rfl rfl dX11_init_38 rfl ?_
  refine zq_callI (rm := ⟨3, 56, 15759, 63⟩) (mc := 56) (ms := 15759) (cells := 26) (slots := 5680) (n0 := 1) (pc' := 44) (As := [.ref 14]) (rest := [.ref 26, .ref 0]) zci_X11_21 zct_8 rfl ⟨rfl, rfl, by decide, by decide⟩ ⟨by decide, by decide⟩ (by decide) (fun _ => ⟨by decide, rfl, by decide⟩) dX11_init_41 rfl rfl ?_
  refine zq_putF (pc' := 47) zpf_X11_24 rfl (fun _ => ⟨rfl, rfl⟩) rfl (by decide) dX11_init_44 rfl ?_
  refine zq_aload_n (pc' := 48) rfl rfl dX11_init_47 rfl ?_
  refine zq_new (pc' := 51) znw_X11_28 (fun _ => rfl) (by decide) rfl (by decide) (by decide) (by decide) dX11_init_48 rfl ?_
  refine zq_dup (pc' := 52) rfl dX11_init_51 rfl ?_
  refine zq_aload_n (pc' := 53) rfl rfl dX11_init_52 rfl ?_
  refine zq_get (pc' := 56) zgn_X11_12 rfl rfl dX11_init_53 rfl ?_
  refine zq_callI (rm := ⟨3, 56, 15759, 63⟩) (mc := 56) (ms := 15759) (cells := 31) (slots := 6118) (n0 := 1) (pc' := 59) (As := [.ref 2]) (rest := [.ref 31, .ref 0]) zci_X11_30 zct_11 rfl ⟨rfl, rfl, by decide, by decide⟩ ⟨by decide, by decide⟩ (by decide) (fun _ => ⟨by decide, rfl, by decide⟩) dX11_init_56 rfl rfl ?_
  refine zq_putF (pc' := 62) zpf_X11_31 rfl (fun _ => ⟨rfl, rfl⟩) rfl (by decide) dX11_init_59 rfl ?_
  refine zq_aload_n (pc' := 63) rfl rfl dX11_init_62 rfl ?_
  refine zq_new (pc' := 66) znw_X11_35 (fun _ => rfl) (by decide) rfl (by decide) (by decide) (by decide) dX11_init_63 rfl ?_
  refine zq_dup (pc' := 67) rfl dX11_init_66 rfl ?_
  refine zq_aload_n (pc' := 68) rfl rfl dX11_init_67 rfl ?_
  refine zq_get (pc' := 71) zgn_X11_12 rfl rfl dX11_init_68 rfl ?_
  refine zq_callI (rm := ⟨3, 56, 15759, 63⟩) (mc := 56) (ms := 15759) (cells := 38) (slots := 7188) (n0 := 1) (pc' := 74) (As := [.ref 2]) (rest := [.ref 38, .ref 0]) zci_X11_37 zct_17 rfl ⟨rfl, rfl, by decide, by decide⟩ ⟨by decide, by decide⟩ (by decide) (fun _ => ⟨by decide, rfl, by decide⟩) dX11_init_71 rfl rfl ?_
  refine zq_putF (pc' := 77) zpf_X11_38 rfl (fun _ => ⟨rfl, rfl⟩) rfl (by decide) dX11_init_74 rfl ?_
  refine zq_aload_n (pc' := 78) rfl rfl dX11_init_77 rfl ?_
  refine zq_new (pc' := 81) znw_X11_42 (fun _ => rfl) (by decide) rfl (by decide) (by decide) (by decide) dX11_init_78 rfl ?_
  refine zq_dup (pc' := 82) rfl dX11_init_81 rfl ?_
  refine zq_callIN (rm := ⟨3, 56, 15759, 63⟩) (mc := 56) (ms := 15759) (cells := 42) (slots := 13337) (n0 := 1) (pc' := 85) (As := []) (rest := [.ref 42, .ref 0]) zci_X11_44 zct_20 rfl ⟨rfl, rfl, by decide, by decide⟩ ⟨by decide, by decide⟩ (by decide) (fun _ => ⟨by decide, rfl, by decide⟩) dX11_init_82 rfl rfl ?_
  refine zq_putF (pc' := 88) zpf_X11_45 rfl (fun _ => ⟨rfl, rfl⟩) rfl (by decide) dX11_init_85 rfl ?_
  refine zq_aload_n (pc' := 89) rfl rfl dX11_init_88 rfl ?_
  refine zq_new (pc' := 92) znw_X11_49 (fun _ => rfl) (by decide) rfl (by decide) (by decide) (by decide) dX11_init_89 rfl ?_
  refine zq_dup (pc' := 93) rfl dX11_init_92 rfl ?_
  refine zq_aload_n (pc' := 94) rfl rfl dX11_init_93 rfl ?_
  refine zq_get (pc' := 97) zgn_X11_31 rfl rfl dX11_init_94 rfl ?_
  refine zq_aload_n (pc' := 98) rfl rfl dX11_init_97 rfl ?_
  refine zq_get (pc' := 101) zgn_X11_38 rfl rfl dX11_init_98 rfl ?_
  refine zq_aload_n (pc' := 102) rfl rfl dX11_init_101 rfl ?_
  refine zq_get (pc' := 105) zgn_X11_45 rfl rfl dX11_init_102 rfl ?_
  refine zq_aload_n (pc' := 106) rfl rfl dX11_init_105 rfl ?_
  refine zq_callI (rm := ⟨3, 56, 15759, 63⟩) (mc := 56) (ms := 15759) (cells := 44) (slots := 13543) (n0 := 1) (pc' := 109) (As := [.ref 31, .ref 38, .ref 42, .ref 1]) (rest := [.ref 44, .ref 0]) zci_X11_51 zct_23 rfl ⟨rfl, rfl, by decide, by decide⟩ ⟨by decide, by decide⟩ (by decide) (fun _ => ⟨by decide, rfl, by decide⟩) dX11_init_106 rfl rfl ?_
  refine zq_putF (pc' := 112) zpf_X11_54 rfl (fun _ => ⟨rfl, rfl⟩) rfl (by decide) dX11_init_109 rfl ?_
  refine zq_aload_n (pc' := 113) rfl rfl dX11_init_112 rfl ?_
  refine zq_new (pc' := 116) znw_X11_58 (fun _ => rfl) (by decide) rfl (by decide) (by decide) (by decide) dX11_init_113 rfl ?_
  refine zq_dup (pc' := 117) rfl dX11_init_116 rfl ?_
  refine zq_aload_n (pc' := 118) rfl rfl dX11_init_117 rfl ?_
  refine zq_get (pc' := 121) zgn_X11_31 rfl rfl dX11_init_118 rfl ?_
  refine zq_aload_n (pc' := 122) rfl rfl dX11_init_121 rfl ?_
  refine zq_get (pc' := 125) zgn_X11_38 rfl rfl dX11_init_122 rfl ?_
  refine zq_aload_n (pc' := 126) rfl rfl dX11_init_125 rfl ?_
  refine zq_get (pc' := 129) zgn_X11_45 rfl rfl dX11_init_126 rfl ?_
  refine zq_aload_n (pc' := 130) rfl rfl dX11_init_129 rfl ?_
  refine zq_callI (rm := ⟨3, 56, 15759, 63⟩) (mc := 56) (ms := 15759) (cells := 46) (slots := 14575) (n0 := 1) (pc' := 133) (As := [.ref 31, .ref 38, .ref 42, .ref 1]) (rest := [.ref 46, .ref 0]) zci_X11_60 zct_26 rfl ⟨rfl, rfl, by decide, by decide⟩ ⟨by decide, by decide⟩ (by decide) (fun _ => ⟨by decide, rfl, by decide⟩) dX11_init_130 rfl rfl ?_
  refine zq_putF (pc' := 136) zpf_X11_61 rfl (fun _ => ⟨rfl, rfl⟩) rfl (by decide) dX11_init_133 rfl ?_
  refine zq_aload_n (pc' := 137) rfl rfl dX11_init_136 rfl ?_
  refine zq_new (pc' := 140) znw_X11_65 (fun _ => rfl) (by decide) rfl (by decide) (by decide) (by decide) dX11_init_137 rfl ?_
  refine zq_dup (pc' := 141) rfl dX11_init_140 rfl ?_
  refine zq_aload_n (pc' := 142) rfl rfl dX11_init_141 rfl ?_
  refine zq_get (pc' := 145) zgn_X11_31 rfl rfl dX11_init_142 rfl ?_
  refine zq_aload_n (pc' := 146) rfl rfl dX11_init_145 rfl ?_
  refine zq_get (pc' := 149) zgn_X11_38 rfl rfl dX11_init_146 rfl ?_
  refine zq_aload_n (pc' := 150) rfl rfl dX11_init_149 rfl ?_
  refine zq_callI (rm := ⟨3, 56, 15759, 63⟩) (mc := 56) (ms := 15759) (cells := 49) (slots := 14595) (n0 := 1) (pc' := 153) (As := [.ref 31, .ref 38, .ref 1]) (rest := [.ref 49, .ref 0]) zci_X11_67 zct_29 rfl ⟨rfl, rfl, by decide, by decide⟩ ⟨by decide, by decide⟩ (by decide) (fun _ => ⟨by decide, rfl, by decide⟩) dX11_init_150 rfl rfl ?_
  refine zq_putF (pc' := 156) zpf_X11_70 rfl (fun _ => ⟨rfl, rfl⟩) rfl (by decide) dX11_init_153 rfl ?_
  refine zq_aload_n (pc' := 157) rfl rfl dX11_init_156 rfl ?_
  refine zq_new (pc' := 160) znw_X11_74 (fun _ => rfl) (by decide) rfl (by decide) (by decide) (by decide) dX11_init_157 rfl ?_
  refine zq_dup (pc' := 161) rfl dX11_init_160 rfl ?_
  refine zq_iconst (pc' := 162) (v := 5) dX11_init_161 rfl rfl ?_
  refine zq_callI (rm := ⟨3, 56, 15759, 63⟩) (mc := 56) (ms := 15759) (cells := 51) (slots := 15622) (n0 := 1) (pc' := 165) (As := [.int 5]) (rest := [.ref 51, .ref 0]) zci_X11_76 zct_32 rfl ⟨rfl, rfl, by decide, by decide⟩ ⟨by decide, by decide⟩ (by decide) (fun _ => ⟨by decide, rfl, by decide⟩) dX11_init_162 rfl rfl ?_
  refine zq_putF (pc' := 168) zpf_X11_79 rfl (fun _ => ⟨rfl, rfl⟩) rfl (by decide) dX11_init_165 rfl ?_
  refine zq_aload_n (pc' := 169) rfl rfl dX11_init_168 rfl ?_
  refine zq_new (pc' := 172) znw_X11_83 (fun _ => rfl) (by decide) rfl (by decide) (by decide) (by decide) dX11_init_169 rfl ?_
  refine zq_dup (pc' := 173) rfl dX11_init_172 rfl ?_
  refine zq_callIN (rm := ⟨3, 56, 15759, 63⟩) (mc := 56) (ms := 15759) (cells := 54) (slots := 15653) (n0 := 1) (pc' := 176) (As := []) (rest := [.ref 54, .ref 0]) zci_X11_85 zct_35 rfl ⟨rfl, rfl, by decide, by decide⟩ ⟨by decide, by decide⟩ (by decide) (fun _ => ⟨by decide, rfl, by decide⟩) dX11_init_173 rfl rfl ?_
  refine zq_putF (pc' := 179) zpf_X11_86 rfl (fun _ => ⟨rfl, rfl⟩) rfl (by decide) dX11_init_176 rfl ?_
  refine zq_aload_n (pc' := 180) rfl rfl dX11_init_179 rfl ?_
  refine zq_new (pc' := 183) znw_X11_90 (fun _ => rfl) (by decide) rfl (by decide) (by decide) (by decide) dX11_init_180 rfl ?_
  refine zq_dup (pc' := 184) rfl dX11_init_183 rfl ?_
  refine zq_aload_n (pc' := 185) rfl rfl dX11_init_184 rfl ?_
  refine zq_get (pc' := 188) zgn_X11_31 rfl rfl dX11_init_185 rfl ?_
  refine zq_aload_n (pc' := 189) rfl rfl dX11_init_188 rfl ?_
  refine zq_get (pc' := 192) zgn_X11_38 rfl rfl dX11_init_189 rfl ?_
  refine zq_aload_n (pc' := 193) rfl rfl dX11_init_192 rfl ?_
  refine zq_get (pc' := 196) zgn_X11_79 rfl rfl dX11_init_193 rfl ?_
  refine zq_aload_n (pc' := 197) rfl rfl dX11_init_196 rfl ?_
  refine zq_get (pc' := 200) zgn_X11_86 rfl rfl dX11_init_197 rfl ?_
  refine zq_aload_n (pc' := 201) rfl rfl dX11_init_200 rfl ?_
  refine zq_callI (rm := ⟨3, 56, 15759, 63⟩) (mc := 56) (ms := 15759) (cells := 56) (slots := 15759) (n0 := 1) (pc' := 204) (As := [.ref 31, .ref 38, .ref 51, .ref 54, .ref 1]) (rest := [.ref 56, .ref 0]) zci_X11_92 zct_38 rfl ⟨rfl, rfl, by decide, by decide⟩ ⟨by decide, by decide⟩ (by decide) (fun _ => ⟨by decide, rfl, by decide⟩) dX11_init_201 rfl rfl ?_
  refine zq_putF (pc' := 207) zpf_X11_95 rfl (fun _ => ⟨rfl, rfl⟩) rfl (by decide) dX11_init_204 rfl ?_
  refine zq_aload_n (pc' := 208) rfl rfl dX11_init_207 rfl ?_
  refine zq_iconst (pc' := 209) (v := (-1)) dX11_init_208 rfl rfl ?_
  refine zq_put (pc' := 212) zpn_X11_99 (fun _ => ⟨rfl, rfl⟩) rfl (by decide) dX11_init_209 rfl ?_
  exact zq_vret rfl rfl rfl rfl dX11_init_212
abbrev zw_42 : List zq_AC := [.inr (11, [.ref 26, .ref 31, .ref 38, .ref 42, .ref 44, .ref 46, .ref 49, .ref 51, .ref 56, .ref 54, .ref 2, .ref 14, .int (-1)]),
  .inl (3, 4096, .inr (.inl (fun _ => 0))),
  .inr (7, [.ref 3, .int 0, .int 0, .ref 4, .ref 5, .ref 6, .int 0, .int 0, .int 0, .ref 7, .ref 8, .ref 9, .ref 10, .ref 11, .ref 12, .ref 13]),
  .inl (1, 400, .inl (fun _ => 0)),
  .inl (0, 100, .inl (fun _ => 0)),
  .inl (0, 100, .inl (fun _ => 0)),
  .inl (0, 100, .inl (fun _ => 0)),
  .inl (0, 10, .inl (fun _ => 0)),
  .inl (0, 10, .inl (fun _ => 0)),
  .inl (0, 10, .inl (fun _ => 0)),
  .inl (0, 10, .inl (fun _ => 0)),
  .inl (0, 10, .inl (fun _ => 0)),
  .inl (0, 10, .inl (fun _ => 0)),
  .inl (0, 10, .inl (fun _ => 0)),
  .inr (7, [.ref 15, .int 0, .int 0, .ref 16, .ref 17, .ref 18, .int 0, .int 0, .int 0, .ref 19, .ref 20, .ref 21, .ref 22, .ref 23, .ref 24, .ref 25]),
  .inl (1, 400, .inl (fun _ => 0)),
  .inl (0, 100, .inl (fun _ => 0)),
  .inl (0, 100, .inl (fun _ => 0)),
  .inl (0, 100, .inl (fun _ => 0)),
  .inl (0, 10, .inl (fun _ => 0)),
  .inl (0, 10, .inl (fun _ => 0)),
  .inl (0, 10, .inl (fun _ => 0)),
  .inl (0, 10, .inl (fun _ => 0)),
  .inl (0, 10, .inl (fun _ => 0)),
  .inl (0, 10, .inl (fun _ => 0)),
  .inl (0, 10, .inl (fun _ => 0)),
  .inr (5, [.ref 27, .int 0, .int (-1), .ref 14, .int 0, .ref 28, .int 0, .int 0, .int 0, .int 0, .ref 29, .ref 30]),
  .inl (1, 400, .inl (fun _ => 0)),
  .inl (0, 8, .inl (fun _ => 0)),
  .inl (0, 10, .inl (fun _ => 0)),
  .inl (0, 10, .inl (fun _ => 0)),
  .inr (3, [.ref 2, .ref 32, .ref 33, .ref 34, .ref 35, .ref 36, .ref 37, .int 0, .int 0, .int (-1)]),
  .inl (0, 10, .inl (fun _ => 0)),
  .inl (0, 4, .inl (fun _ => 0)),
  .inl (0, 10, .inl (fun _ => 0)),
  .inl (0, 10, .inl (fun _ => 0)),
  .inl (0, 10, .inl (fun _ => 0)),
  .inl (0, 1024, .inl (fun _ => 0)),
  .inr (9, [.ref 39, .ref 2]),
  .inr (8, [.int 1024, .ref 40, .ref 41]),
  .inl (3, 5120, .inr (.inl (fun _ => 0))),
  .inl (0, 1024, .inl (fun _ => 0)),
  .inr (0, [.ref 43, .int 0]),
  .inl (3, 200, .inr (.inl (fun _ => 0))),
  .inr (4, [.ref 31, .ref 38, .ref 42, .ref 1, .ref 45, .int (-1)]),
  .inl (3, 1024, .inr (.inl (fun _ => 0))),
  .inr (6, [.ref 31, .ref 38, .ref 42, .ref 1, .ref 47, .ref 48, .int 0, .int (-1)]),
  .inl (0, 10, .inl (fun _ => 0)),
  .inl (3, 4, .inr (.inl (fun _ => 0))),
  .inr (10, [.ref 31, .ref 38, .ref 1, .ref 50, .int 0, .int (-1)]),
  .inl (0, 1024, .inl (fun _ => 0)),
  .inr (8, [.int 5, .ref 52, .ref 53]),
  .inl (3, 25, .inr (.inl (fun _ => 0))),
  .inl (0, 5, .inl (fun _ => 0)),
  .inr (2, [.ref 55]),
  .inl (3, 100, .inr (.inl (fun _ => 0))),
  .inr (1, [.ref 31, .ref 38, .ref 51, .ref 54, .ref 1, .int 0]),
  .inr (12, [.int 0, .null, .null, .null, .null, .int 0, .int 0, .null, .null, .null, .null, .null, .null, .null, .null, .null, .int 0, .int 0, .int 0, .int 0, .int 0, .int 0, .null, .null, .null, .null, .null, .int 0, .int 0, .int 0, .int 0, .int 0, .null, .int 0, .int 0, .null, .int 0, .int 0, .null, .null, .null, .null, .null, .null, .int 0, .null, .null, .null, .null, .null, .null, .null, .int 0, .null, .int 0, .null, .null, .null, .null, .int 0, .null, .null])]
theorem zoi_X12_1 : Cond.methodLink RX12 1 Lib.objectInit ∈ lw_tbl ∧ Cond.instanceMethod Lib.objectInit ∈ lw_tbl ∧ Cond.code Lib.objectInit ⟨#[0xb1]⟩ 1 none ∈ lw_tbl := ⟨List.mem_of_getElem? (i := 1126) (by decide +kernel), List.mem_of_getElem? (i := 115) (by decide +kernel), List.mem_of_getElem? (i := 116) (by decide +kernel)⟩
theorem zpf_X12_7 : ∃ (C : String) (T : u_T) (N : Nat) (ty0 : Nat → FieldType), zq_cl 12 C T N ty0 ∧ 1 < N ∧ (T 1).2.2.2 = true ∧ ty0 1 = tyX12 1 ∧ (T 1).1 = RX12 ∧ Cond.fieldLink RX12 7 (T 1).1 (T 1).2.1 (T 1).2.2.1 ∈ lw_tbl := ⟨RX12, TX12, 62, tyX12, zc_12, by decide, rfl, rfl, rfl, List.mem_of_getElem? (i := 1136) (by decide +kernel)⟩
theorem zpf_X12_13 : ∃ (C : String) (T : u_T) (N : Nat) (ty0 : Nat → FieldType), zq_cl 12 C T N ty0 ∧ 2 < N ∧ (T 2).2.2.2 = true ∧ ty0 2 = tyX12 2 ∧ (T 2).1 = RX12 ∧ Cond.fieldLink RX12 13 (T 2).1 (T 2).2.1 (T 2).2.2.1 ∈ lw_tbl := ⟨RX12, TX12, 62, tyX12, zc_12, by decide, rfl, rfl, rfl, List.mem_of_getElem? (i := 1137) (by decide +kernel)⟩
theorem zpf_X12_16 : ∃ (C : String) (T : u_T) (N : Nat) (ty0 : Nat → FieldType), zq_cl 12 C T N ty0 ∧ 3 < N ∧ (T 3).2.2.2 = true ∧ ty0 3 = tyX12 3 ∧ (T 3).1 = RX12 ∧ Cond.fieldLink RX12 16 (T 3).1 (T 3).2.1 (T 3).2.2.1 ∈ lw_tbl := ⟨RX12, TX12, 62, tyX12, zc_12, by decide, rfl, rfl, rfl, List.mem_of_getElem? (i := 1138) (by decide +kernel)⟩
theorem zpf_X12_19 : ∃ (C : String) (T : u_T) (N : Nat) (ty0 : Nat → FieldType), zq_cl 12 C T N ty0 ∧ 4 < N ∧ (T 4).2.2.2 = true ∧ ty0 4 = tyX12 4 ∧ (T 4).1 = RX12 ∧ Cond.fieldLink RX12 19 (T 4).1 (T 4).2.1 (T 4).2.2.1 ∈ lw_tbl := ⟨RX12, TX12, 62, tyX12, zc_12, by decide, rfl, rfl, rfl, List.mem_of_getElem? (i := 1139) (by decide +kernel)⟩
theorem zpf_X12_22 : ∃ (C : String) (T : u_T) (N : Nat) (ty0 : Nat → FieldType), zq_cl 12 C T N ty0 ∧ 7 < N ∧ (T 7).2.2.2 = true ∧ ty0 7 = tyX12 7 ∧ (T 7).1 = RX12 ∧ Cond.fieldLink RX12 22 (T 7).1 (T 7).2.1 (T 7).2.2.1 ∈ lw_tbl := ⟨RX12, TX12, 62, tyX12, zc_12, by decide, rfl, rfl, rfl, List.mem_of_getElem? (i := 1142) (by decide +kernel)⟩
theorem zpf_X12_25 : ∃ (C : String) (T : u_T) (N : Nat) (ty0 : Nat → FieldType), zq_cl 12 C T N ty0 ∧ 8 < N ∧ (T 8).2.2.2 = true ∧ ty0 8 = tyX12 8 ∧ (T 8).1 = RX12 ∧ Cond.fieldLink RX12 25 (T 8).1 (T 8).2.1 (T 8).2.2.1 ∈ lw_tbl := ⟨RX12, TX12, 62, tyX12, zc_12, by decide, rfl, rfl, rfl, List.mem_of_getElem? (i := 1143) (by decide +kernel)⟩
theorem zpf_X12_28 : ∃ (C : String) (T : u_T) (N : Nat) (ty0 : Nat → FieldType), zq_cl 12 C T N ty0 ∧ 9 < N ∧ (T 9).2.2.2 = true ∧ ty0 9 = tyX12 9 ∧ (T 9).1 = RX12 ∧ Cond.fieldLink RX12 28 (T 9).1 (T 9).2.1 (T 9).2.2.1 ∈ lw_tbl := ⟨RX12, TX12, 62, tyX12, zc_12, by decide, rfl, rfl, rfl, List.mem_of_getElem? (i := 1144) (by decide +kernel)⟩
theorem zpf_X12_31 : ∃ (C : String) (T : u_T) (N : Nat) (ty0 : Nat → FieldType), zq_cl 12 C T N ty0 ∧ 10 < N ∧ (T 10).2.2.2 = true ∧ ty0 10 = tyX12 10 ∧ (T 10).1 = RX12 ∧ Cond.fieldLink RX12 31 (T 10).1 (T 10).2.1 (T 10).2.2.1 ∈ lw_tbl := ⟨RX12, TX12, 62, tyX12, zc_12, by decide, rfl, rfl, rfl, List.mem_of_getElem? (i := 1145) (by decide +kernel)⟩
theorem zpf_X12_34 : ∃ (C : String) (T : u_T) (N : Nat) (ty0 : Nat → FieldType), zq_cl 12 C T N ty0 ∧ 11 < N ∧ (T 11).2.2.2 = true ∧ ty0 11 = tyX12 11 ∧ (T 11).1 = RX12 ∧ Cond.fieldLink RX12 34 (T 11).1 (T 11).2.1 (T 11).2.2.1 ∈ lw_tbl := ⟨RX12, TX12, 62, tyX12, zc_12, by decide, rfl, rfl, rfl, List.mem_of_getElem? (i := 1146) (by decide +kernel)⟩
theorem zpf_X12_37 : ∃ (C : String) (T : u_T) (N : Nat) (ty0 : Nat → FieldType), zq_cl 12 C T N ty0 ∧ 12 < N ∧ (T 12).2.2.2 = true ∧ ty0 12 = tyX12 12 ∧ (T 12).1 = RX12 ∧ Cond.fieldLink RX12 37 (T 12).1 (T 12).2.1 (T 12).2.2.1 ∈ lw_tbl := ⟨RX12, TX12, 62, tyX12, zc_12, by decide, rfl, rfl, rfl, List.mem_of_getElem? (i := 1147) (by decide +kernel)⟩
theorem zpf_X12_40 : ∃ (C : String) (T : u_T) (N : Nat) (ty0 : Nat → FieldType), zq_cl 12 C T N ty0 ∧ 13 < N ∧ (T 13).2.2.2 = true ∧ ty0 13 = tyX12 13 ∧ (T 13).1 = RX12 ∧ Cond.fieldLink RX12 40 (T 13).1 (T 13).2.1 (T 13).2.2.1 ∈ lw_tbl := ⟨RX12, TX12, 62, tyX12, zc_12, by decide, rfl, rfl, rfl, List.mem_of_getElem? (i := 1148) (by decide +kernel)⟩
theorem zpf_X12_43 : ∃ (C : String) (T : u_T) (N : Nat) (ty0 : Nat → FieldType), zq_cl 12 C T N ty0 ∧ 14 < N ∧ (T 14).2.2.2 = true ∧ ty0 14 = tyX12 14 ∧ (T 14).1 = RX12 ∧ Cond.fieldLink RX12 43 (T 14).1 (T 14).2.1 (T 14).2.2.1 ∈ lw_tbl := ⟨RX12, TX12, 62, tyX12, zc_12, by decide, rfl, rfl, rfl, List.mem_of_getElem? (i := 1149) (by decide +kernel)⟩
theorem zpf_X12_47 : ∃ (C : String) (T : u_T) (N : Nat) (ty0 : Nat → FieldType), zq_cl 12 C T N ty0 ∧ 15 < N ∧ (T 15).2.2.2 = true ∧ ty0 15 = tyX12 15 ∧ (T 15).1 = RX12 ∧ Cond.fieldLink RX12 47 (T 15).1 (T 15).2.1 (T 15).2.2.1 ∈ lw_tbl := ⟨RX12, TX12, 62, tyX12, zc_12, by decide, rfl, rfl, rfl, List.mem_of_getElem? (i := 1150) (by decide +kernel)⟩
theorem zpn_X12_50 : zq_fr RX12 50 12 17 false (tyX12 17) := ⟨RX12, TX12, 62, tyX12, zc_12, by decide, rfl, rfl, rfl, Or.inl (List.mem_of_getElem? (i := 1152) (by decide +kernel))⟩
theorem zpf_X12_54 : ∃ (C : String) (T : u_T) (N : Nat) (ty0 : Nat → FieldType), zq_cl 12 C T N ty0 ∧ 22 < N ∧ (T 22).2.2.2 = true ∧ ty0 22 = tyX12 22 ∧ (T 22).1 = RX12 ∧ Cond.fieldLink RX12 54 (T 22).1 (T 22).2.1 (T 22).2.2.1 ∈ lw_tbl := ⟨RX12, TX12, 62, tyX12, zc_12, by decide, rfl, rfl, rfl, List.mem_of_getElem? (i := 1157) (by decide +kernel)⟩
theorem zpf_X12_57 : ∃ (C : String) (T : u_T) (N : Nat) (ty0 : Nat → FieldType), zq_cl 12 C T N ty0 ∧ 23 < N ∧ (T 23).2.2.2 = true ∧ ty0 23 = tyX12 23 ∧ (T 23).1 = RX12 ∧ Cond.fieldLink RX12 57 (T 23).1 (T 23).2.1 (T 23).2.2.1 ∈ lw_tbl := ⟨RX12, TX12, 62, tyX12, zc_12, by decide, rfl, rfl, rfl, List.mem_of_getElem? (i := 1158) (by decide +kernel)⟩
theorem zpf_X12_60 : ∃ (C : String) (T : u_T) (N : Nat) (ty0 : Nat → FieldType), zq_cl 12 C T N ty0 ∧ 24 < N ∧ (T 24).2.2.2 = true ∧ ty0 24 = tyX12 24 ∧ (T 24).1 = RX12 ∧ Cond.fieldLink RX12 60 (T 24).1 (T 24).2.1 (T 24).2.2.1 ∈ lw_tbl := ⟨RX12, TX12, 62, tyX12, zc_12, by decide, rfl, rfl, rfl, List.mem_of_getElem? (i := 1159) (by decide +kernel)⟩
theorem zpf_X12_63 : ∃ (C : String) (T : u_T) (N : Nat) (ty0 : Nat → FieldType), zq_cl 12 C T N ty0 ∧ 25 < N ∧ (T 25).2.2.2 = true ∧ ty0 25 = tyX12 25 ∧ (T 25).1 = RX12 ∧ Cond.fieldLink RX12 63 (T 25).1 (T 25).2.1 (T 25).2.2.1 ∈ lw_tbl := ⟨RX12, TX12, 62, tyX12, zc_12, by decide, rfl, rfl, rfl, List.mem_of_getElem? (i := 1160) (by decide +kernel)⟩
theorem zpf_X12_66 : ∃ (C : String) (T : u_T) (N : Nat) (ty0 : Nat → FieldType), zq_cl 12 C T N ty0 ∧ 26 < N ∧ (T 26).2.2.2 = true ∧ ty0 26 = tyX12 26 ∧ (T 26).1 = RX12 ∧ Cond.fieldLink RX12 66 (T 26).1 (T 26).2.1 (T 26).2.2.1 ∈ lw_tbl := ⟨RX12, TX12, 62, tyX12, zc_12, by decide, rfl, rfl, rfl, List.mem_of_getElem? (i := 1161) (by decide +kernel)⟩
theorem zpf_X12_69 : ∃ (C : String) (T : u_T) (N : Nat) (ty0 : Nat → FieldType), zq_cl 12 C T N ty0 ∧ 32 < N ∧ (T 32).2.2.2 = true ∧ ty0 32 = tyX12 32 ∧ (T 32).1 = RX12 ∧ Cond.fieldLink RX12 69 (T 32).1 (T 32).2.1 (T 32).2.2.1 ∈ lw_tbl := ⟨RX12, TX12, 62, tyX12, zc_12, by decide, rfl, rfl, rfl, List.mem_of_getElem? (i := 1167) (by decide +kernel)⟩
theorem zpf_X12_72 : ∃ (C : String) (T : u_T) (N : Nat) (ty0 : Nat → FieldType), zq_cl 12 C T N ty0 ∧ 35 < N ∧ (T 35).2.2.2 = true ∧ ty0 35 = tyX12 35 ∧ (T 35).1 = RX12 ∧ Cond.fieldLink RX12 72 (T 35).1 (T 35).2.1 (T 35).2.2.1 ∈ lw_tbl := ⟨RX12, TX12, 62, tyX12, zc_12, by decide, rfl, rfl, rfl, List.mem_of_getElem? (i := 1170) (by decide +kernel)⟩
theorem zpf_X12_75 : ∃ (C : String) (T : u_T) (N : Nat) (ty0 : Nat → FieldType), zq_cl 12 C T N ty0 ∧ 38 < N ∧ (T 38).2.2.2 = true ∧ ty0 38 = tyX12 38 ∧ (T 38).1 = RX12 ∧ Cond.fieldLink RX12 75 (T 38).1 (T 38).2.1 (T 38).2.2.1 ∈ lw_tbl := ⟨RX12, TX12, 62, tyX12, zc_12, by decide, rfl, rfl, rfl, List.mem_of_getElem? (i := 1173) (by decide +kernel)⟩
theorem zpf_X12_78 : ∃ (C : String) (T : u_T) (N : Nat) (ty0 : Nat → FieldType), zq_cl 12 C T N ty0 ∧ 39 < N ∧ (T 39).2.2.2 = true ∧ ty0 39 = tyX12 39 ∧ (T 39).1 = RX12 ∧ Cond.fieldLink RX12 78 (T 39).1 (T 39).2.1 (T 39).2.2.1 ∈ lw_tbl := ⟨RX12, TX12, 62, tyX12, zc_12, by decide, rfl, rfl, rfl, List.mem_of_getElem? (i := 1174) (by decide +kernel)⟩
theorem zpf_X12_81 : ∃ (C : String) (T : u_T) (N : Nat) (ty0 : Nat → FieldType), zq_cl 12 C T N ty0 ∧ 40 < N ∧ (T 40).2.2.2 = true ∧ ty0 40 = tyX12 40 ∧ (T 40).1 = RX12 ∧ Cond.fieldLink RX12 81 (T 40).1 (T 40).2.1 (T 40).2.2.1 ∈ lw_tbl := ⟨RX12, TX12, 62, tyX12, zc_12, by decide, rfl, rfl, rfl, List.mem_of_getElem? (i := 1175) (by decide +kernel)⟩
theorem zpf_X12_85 : ∃ (C : String) (T : u_T) (N : Nat) (ty0 : Nat → FieldType), zq_cl 12 C T N ty0 ∧ 41 < N ∧ (T 41).2.2.2 = true ∧ ty0 41 = tyX12 41 ∧ (T 41).1 = RX12 ∧ Cond.fieldLink RX12 85 (T 41).1 (T 41).2.1 (T 41).2.2.1 ∈ lw_tbl := ⟨RX12, TX12, 62, tyX12, zc_12, by decide, rfl, rfl, rfl, List.mem_of_getElem? (i := 1176) (by decide +kernel)⟩
theorem zpf_X12_88 : ∃ (C : String) (T : u_T) (N : Nat) (ty0 : Nat → FieldType), zq_cl 12 C T N ty0 ∧ 42 < N ∧ (T 42).2.2.2 = true ∧ ty0 42 = tyX12 42 ∧ (T 42).1 = RX12 ∧ Cond.fieldLink RX12 88 (T 42).1 (T 42).2.1 (T 42).2.2.1 ∈ lw_tbl := ⟨RX12, TX12, 62, tyX12, zc_12, by decide, rfl, rfl, rfl, List.mem_of_getElem? (i := 1177) (by decide +kernel)⟩
theorem zpf_X12_91 : ∃ (C : String) (T : u_T) (N : Nat) (ty0 : Nat → FieldType), zq_cl 12 C T N ty0 ∧ 43 < N ∧ (T 43).2.2.2 = true ∧ ty0 43 = tyX12 43 ∧ (T 43).1 = RX12 ∧ Cond.fieldLink RX12 91 (T 43).1 (T 43).2.1 (T 43).2.2.1 ∈ lw_tbl := ⟨RX12, TX12, 62, tyX12, zc_12, by decide, rfl, rfl, rfl, List.mem_of_getElem? (i := 1178) (by decide +kernel)⟩
theorem zpf_X12_94 : ∃ (C : String) (T : u_T) (N : Nat) (ty0 : Nat → FieldType), zq_cl 12 C T N ty0 ∧ 45 < N ∧ (T 45).2.2.2 = true ∧ ty0 45 = tyX12 45 ∧ (T 45).1 = RX12 ∧ Cond.fieldLink RX12 94 (T 45).1 (T 45).2.1 (T 45).2.2.1 ∈ lw_tbl := ⟨RX12, TX12, 62, tyX12, zc_12, by decide, rfl, rfl, rfl, List.mem_of_getElem? (i := 1180) (by decide +kernel)⟩
theorem zkc_X12_97 : Cond.constant RX12 97 40960 ∈ lw_tbl := List.mem_of_getElem? (i := 1127) (by decide +kernel)
theorem zpf_X12_98 : ∃ (C : String) (T : u_T) (N : Nat) (ty0 : Nat → FieldType), zq_cl 12 C T N ty0 ∧ 46 < N ∧ (T 46).2.2.2 = true ∧ ty0 46 = tyX12 46 ∧ (T 46).1 = RX12 ∧ Cond.fieldLink RX12 98 (T 46).1 (T 46).2.1 (T 46).2.2.1 ∈ lw_tbl := ⟨RX12, TX12, 62, tyX12, zc_12, by decide, rfl, rfl, rfl, List.mem_of_getElem? (i := 1181) (by decide +kernel)⟩
theorem zpf_X12_101 : ∃ (C : String) (T : u_T) (N : Nat) (ty0 : Nat → FieldType), zq_cl 12 C T N ty0 ∧ 47 < N ∧ (T 47).2.2.2 = true ∧ ty0 47 = tyX12 47 ∧ (T 47).1 = RX12 ∧ Cond.fieldLink RX12 101 (T 47).1 (T 47).2.1 (T 47).2.2.1 ∈ lw_tbl := ⟨RX12, TX12, 62, tyX12, zc_12, by decide, rfl, rfl, rfl, List.mem_of_getElem? (i := 1182) (by decide +kernel)⟩
theorem zpf_X12_104 : ∃ (C : String) (T : u_T) (N : Nat) (ty0 : Nat → FieldType), zq_cl 12 C T N ty0 ∧ 48 < N ∧ (T 48).2.2.2 = true ∧ ty0 48 = tyX12 48 ∧ (T 48).1 = RX12 ∧ Cond.fieldLink RX12 104 (T 48).1 (T 48).2.1 (T 48).2.2.1 ∈ lw_tbl := ⟨RX12, TX12, 62, tyX12, zc_12, by decide, rfl, rfl, rfl, List.mem_of_getElem? (i := 1183) (by decide +kernel)⟩
theorem zpf_X12_107 : ∃ (C : String) (T : u_T) (N : Nat) (ty0 : Nat → FieldType), zq_cl 12 C T N ty0 ∧ 49 < N ∧ (T 49).2.2.2 = true ∧ ty0 49 = tyX12 49 ∧ (T 49).1 = RX12 ∧ Cond.fieldLink RX12 107 (T 49).1 (T 49).2.1 (T 49).2.2.1 ∈ lw_tbl := ⟨RX12, TX12, 62, tyX12, zc_12, by decide, rfl, rfl, rfl, List.mem_of_getElem? (i := 1184) (by decide +kernel)⟩
theorem zpf_X12_110 : ∃ (C : String) (T : u_T) (N : Nat) (ty0 : Nat → FieldType), zq_cl 12 C T N ty0 ∧ 50 < N ∧ (T 50).2.2.2 = true ∧ ty0 50 = tyX12 50 ∧ (T 50).1 = RX12 ∧ Cond.fieldLink RX12 110 (T 50).1 (T 50).2.1 (T 50).2.2.1 ∈ lw_tbl := ⟨RX12, TX12, 62, tyX12, zc_12, by decide, rfl, rfl, rfl, List.mem_of_getElem? (i := 1185) (by decide +kernel)⟩
theorem zpf_X12_113 : ∃ (C : String) (T : u_T) (N : Nat) (ty0 : Nat → FieldType), zq_cl 12 C T N ty0 ∧ 51 < N ∧ (T 51).2.2.2 = true ∧ ty0 51 = tyX12 51 ∧ (T 51).1 = RX12 ∧ Cond.fieldLink RX12 113 (T 51).1 (T 51).2.1 (T 51).2.2.1 ∈ lw_tbl := ⟨RX12, TX12, 62, tyX12, zc_12, by decide, rfl, rfl, rfl, List.mem_of_getElem? (i := 1186) (by decide +kernel)⟩
theorem zpf_X12_116 : ∃ (C : String) (T : u_T) (N : Nat) (ty0 : Nat → FieldType), zq_cl 12 C T N ty0 ∧ 53 < N ∧ (T 53).2.2.2 = true ∧ ty0 53 = tyX12 53 ∧ (T 53).1 = RX12 ∧ Cond.fieldLink RX12 116 (T 53).1 (T 53).2.1 (T 53).2.2.1 ∈ lw_tbl := ⟨RX12, TX12, 62, tyX12, zc_12, by decide, rfl, rfl, rfl, List.mem_of_getElem? (i := 1188) (by decide +kernel)⟩
theorem zpf_X12_119 : ∃ (C : String) (T : u_T) (N : Nat) (ty0 : Nat → FieldType), zq_cl 12 C T N ty0 ∧ 55 < N ∧ (T 55).2.2.2 = true ∧ ty0 55 = tyX12 55 ∧ (T 55).1 = RX12 ∧ Cond.fieldLink RX12 119 (T 55).1 (T 55).2.1 (T 55).2.2.1 ∈ lw_tbl := ⟨RX12, TX12, 62, tyX12, zc_12, by decide, rfl, rfl, rfl, List.mem_of_getElem? (i := 1190) (by decide +kernel)⟩
theorem zpf_X12_122 : ∃ (C : String) (T : u_T) (N : Nat) (ty0 : Nat → FieldType), zq_cl 12 C T N ty0 ∧ 56 < N ∧ (T 56).2.2.2 = true ∧ ty0 56 = tyX12 56 ∧ (T 56).1 = RX12 ∧ Cond.fieldLink RX12 122 (T 56).1 (T 56).2.1 (T 56).2.2.1 ∈ lw_tbl := ⟨RX12, TX12, 62, tyX12, zc_12, by decide, rfl, rfl, rfl, List.mem_of_getElem? (i := 1191) (by decide +kernel)⟩
theorem zpf_X12_125 : ∃ (C : String) (T : u_T) (N : Nat) (ty0 : Nat → FieldType), zq_cl 12 C T N ty0 ∧ 57 < N ∧ (T 57).2.2.2 = true ∧ ty0 57 = tyX12 57 ∧ (T 57).1 = RX12 ∧ Cond.fieldLink RX12 125 (T 57).1 (T 57).2.1 (T 57).2.2.1 ∈ lw_tbl := ⟨RX12, TX12, 62, tyX12, zc_12, by decide, rfl, rfl, rfl, List.mem_of_getElem? (i := 1192) (by decide +kernel)⟩
theorem zpf_X12_128 : ∃ (C : String) (T : u_T) (N : Nat) (ty0 : Nat → FieldType), zq_cl 12 C T N ty0 ∧ 58 < N ∧ (T 58).2.2.2 = true ∧ ty0 58 = tyX12 58 ∧ (T 58).1 = RX12 ∧ Cond.fieldLink RX12 128 (T 58).1 (T 58).2.1 (T 58).2.2.1 ∈ lw_tbl := ⟨RX12, TX12, 62, tyX12, zc_12, by decide, rfl, rfl, rfl, List.mem_of_getElem? (i := 1193) (by decide +kernel)⟩
theorem zpf_X12_131 : ∃ (C : String) (T : u_T) (N : Nat) (ty0 : Nat → FieldType), zq_cl 12 C T N ty0 ∧ 60 < N ∧ (T 60).2.2.2 = true ∧ ty0 60 = tyX12 60 ∧ (T 60).1 = RX12 ∧ Cond.fieldLink RX12 131 (T 60).1 (T 60).2.1 (T 60).2.2.1 ∈ lw_tbl := ⟨RX12, TX12, 62, tyX12, zc_12, by decide, rfl, rfl, rfl, List.mem_of_getElem? (i := 1195) (by decide +kernel)⟩
theorem zpf_X12_134 : ∃ (C : String) (T : u_T) (N : Nat) (ty0 : Nat → FieldType), zq_cl 12 C T N ty0 ∧ 61 < N ∧ (T 61).2.2.2 = true ∧ ty0 61 = tyX12 61 ∧ (T 61).1 = RX12 ∧ Cond.fieldLink RX12 134 (T 61).1 (T 61).2.1 (T 61).2.2.1 ∈ lw_tbl := ⟨RX12, TX12, 62, tyX12, zc_12, by decide, rfl, rfl, rfl, List.mem_of_getElem? (i := 1196) (by decide +kernel)⟩
abbrev zw_fin : List zq_AC := [.inr (11, [.ref 26, .ref 31, .ref 38, .ref 42, .ref 44, .ref 46, .ref 49, .ref 51, .ref 56, .ref 54, .ref 2, .ref 14, .int (-1)]),
  .inl (3, 4096, .inr (.inl (fun _ => 0))),
  .inr (7, [.ref 3, .int 0, .int 0, .ref 4, .ref 5, .ref 6, .int 0, .int 0, .int 0, .ref 7, .ref 8, .ref 9, .ref 10, .ref 11, .ref 12, .ref 13]),
  .inl (1, 400, .inl (fun _ => 0)),
  .inl (0, 100, .inl (fun _ => 0)),
  .inl (0, 100, .inl (fun _ => 0)),
  .inl (0, 100, .inl (fun _ => 0)),
  .inl (0, 10, .inl (fun _ => 0)),
  .inl (0, 10, .inl (fun _ => 0)),
  .inl (0, 10, .inl (fun _ => 0)),
  .inl (0, 10, .inl (fun _ => 0)),
  .inl (0, 10, .inl (fun _ => 0)),
  .inl (0, 10, .inl (fun _ => 0)),
  .inl (0, 10, .inl (fun _ => 0)),
  .inr (7, [.ref 15, .int 0, .int 0, .ref 16, .ref 17, .ref 18, .int 0, .int 0, .int 0, .ref 19, .ref 20, .ref 21, .ref 22, .ref 23, .ref 24, .ref 25]),
  .inl (1, 400, .inl (fun _ => 0)),
  .inl (0, 100, .inl (fun _ => 0)),
  .inl (0, 100, .inl (fun _ => 0)),
  .inl (0, 100, .inl (fun _ => 0)),
  .inl (0, 10, .inl (fun _ => 0)),
  .inl (0, 10, .inl (fun _ => 0)),
  .inl (0, 10, .inl (fun _ => 0)),
  .inl (0, 10, .inl (fun _ => 0)),
  .inl (0, 10, .inl (fun _ => 0)),
  .inl (0, 10, .inl (fun _ => 0)),
  .inl (0, 10, .inl (fun _ => 0)),
  .inr (5, [.ref 27, .int 0, .int (-1), .ref 14, .int 0, .ref 28, .int 0, .int 0, .int 0, .int 0, .ref 29, .ref 30]),
  .inl (1, 400, .inl (fun _ => 0)),
  .inl (0, 8, .inl (fun _ => 0)),
  .inl (0, 10, .inl (fun _ => 0)),
  .inl (0, 10, .inl (fun _ => 0)),
  .inr (3, [.ref 2, .ref 32, .ref 33, .ref 34, .ref 35, .ref 36, .ref 37, .int 0, .int 0, .int (-1)]),
  .inl (0, 10, .inl (fun _ => 0)),
  .inl (0, 4, .inl (fun _ => 0)),
  .inl (0, 10, .inl (fun _ => 0)),
  .inl (0, 10, .inl (fun _ => 0)),
  .inl (0, 10, .inl (fun _ => 0)),
  .inl (0, 1024, .inl (fun _ => 0)),
  .inr (9, [.ref 39, .ref 2]),
  .inr (8, [.int 1024, .ref 40, .ref 41]),
  .inl (3, 5120, .inr (.inl (fun _ => 0))),
  .inl (0, 1024, .inl (fun _ => 0)),
  .inr (0, [.ref 43, .int 0]),
  .inl (3, 200, .inr (.inl (fun _ => 0))),
  .inr (4, [.ref 31, .ref 38, .ref 42, .ref 1, .ref 45, .int (-1)]),
  .inl (3, 1024, .inr (.inl (fun _ => 0))),
  .inr (6, [.ref 31, .ref 38, .ref 42, .ref 1, .ref 47, .ref 48, .int 0, .int (-1)]),
  .inl (0, 10, .inl (fun _ => 0)),
  .inl (3, 4, .inr (.inl (fun _ => 0))),
  .inr (10, [.ref 31, .ref 38, .ref 1, .ref 50, .int 0, .int (-1)]),
  .inl (0, 1024, .inl (fun _ => 0)),
  .inr (8, [.int 5, .ref 52, .ref 53]),
  .inl (3, 25, .inr (.inl (fun _ => 0))),
  .inl (0, 5, .inl (fun _ => 0)),
  .inr (2, [.ref 55]),
  .inl (3, 100, .inr (.inl (fun _ => 0))),
  .inr (1, [.ref 31, .ref 38, .ref 51, .ref 54, .ref 1, .int 0]),
  .inr (12, [.int 0, .ref 58, .ref 59, .ref 60, .ref 61, .int 0, .int 0, .ref 62, .ref 63, .ref 64, .ref 65, .ref 66, .ref 67, .ref 68, .ref 69, .ref 70, .int 0, .int (-1), .int 0, .int 0, .int 0, .int 0, .ref 71, .ref 72, .ref 73, .ref 74, .ref 75, .int 0, .int 0, .int 0, .int 0, .int 0, .ref 76, .int 0, .int 0, .ref 77, .int 0, .int 0, .ref 78, .ref 79, .ref 80, .ref 81, .ref 82, .ref 83, .int 0, .ref 84, .ref 85, .ref 86, .ref 87, .ref 88, .ref 89, .ref 90, .int 0, .ref 91, .int 0, .ref 92, .ref 93, .ref 94, .ref 95, .int 0, .ref 96, .ref 97]),
  .inl (0, 400, .inl (fun _ => 0)),
  .inl (0, 400, .inl (fun _ => 0)),
  .inl (0, 400, .inl (fun _ => 0)),
  .inl (0, 400, .inl (fun _ => 0)),
  .inl (0, 10, .inl (fun _ => 0)),
  .inl (0, 10, .inl (fun _ => 0)),
  .inl (0, 10, .inl (fun _ => 0)),
  .inl (0, 10, .inl (fun _ => 0)),
  .inl (0, 10, .inl (fun _ => 0)),
  .inl (0, 10, .inl (fun _ => 0)),
  .inl (0, 10, .inl (fun _ => 0)),
  .inl (2, 16, .inl (fun _ => 0)),
  .inl (0, 400, .inl (fun _ => 0)),
  .inl (0, 400, .inl (fun _ => 0)),
  .inl (0, 400, .inl (fun _ => 0)),
  .inl (0, 400, .inl (fun _ => 0)),
  .inl (0, 400, .inl (fun _ => 0)),
  .inl (0, 400, .inl (fun _ => 0)),
  .inl (0, 8, .inl (fun _ => 0)),
  .inl (0, 1600, .inl (fun _ => 0)),
  .inl (2, 1024, .inl (fun _ => 0)),
  .inl (0, 1024, .inl (fun _ => 0)),
  .inl (3, 1024, .inr (.inl (fun _ => 0))),
  .inl (3, 1024, .inr (.inl (fun _ => 0))),
  .inl (0, 4096, .inl (fun _ => 0)),
  .inl (0, 4096, .inl (fun _ => 0)),
  .inl (0, 1024, .inl (fun _ => 0)),
  .inl (0, 40960, .inl (fun _ => 0)),
  .inl (3, 1024, .inr (.inl (fun _ => 0))),
  .inl (0, 1024, .inl (fun _ => 0)),
  .inl (0, 40, .inl (fun _ => 0)),
  .inl (0, 40, .inl (fun _ => 0)),
  .inl (0, 41, .inl (fun _ => 0)),
  .inl (0, 40, .inl (fun _ => 0)),
  .inl (0, 4, .inl (fun _ => 0)),
  .inl (0, 160, .inl (fun _ => 0)),
  .inl (3, 4096, .inr (.inl (fun _ => 0))),
  .inl (3, 4096, .inr (.inl (fun _ => 0))),
  .inl (2, 10000, .inl (fun _ => 0)),
  .inl (3, 1024, .inr (.inl (fun _ => 0)))]
def zq_s00 : zq_S := (fun a b => if a = 0 ∧ b = 12 then (-1) else if a = 26 ∧ b = 2 then (-1) else if a = 31 ∧ b = 9 then (-1) else if a = 39 ∧ b = 0 then 1024 else if a = 44 ∧ b = 5 then (-1) else if a = 46 ∧ b = 7 then (-1) else if a = 49 ∧ b = 5 then (-1) else if a = 51 ∧ b = 0 then 5 else if a = 57 ∧ b = 17 then (-1) else 0, fun i => ([false, true, true, false, false] : List Bool).getD i false, fun _ _ => 0, fun _ _ => 0)
def zq_s0 : zq_S := zpf zq_s00 57 37 0
set_option maxRecDepth 40000 in
theorem zq_w00 : zw_fin = zq_en zq_s00 := rfl
theorem zq_must0 : mX12_findMust 1 zq_s00 = some (1, zq_s0) := by
  rfl
set_option maxRecDepth 40000 in
set_option maxHeartbeats 4000000 in
theorem zct_43 : zq_MC yX12_init cX12_init 1 none ⟨2, 40, 81555, 43⟩ 40 81555 [.ref 57] zw_42 (none, (zq_en zq_s0)) := by
  refine zq_MC_of (own := RX12) [.ref 57] (by decide +kernel) rfl rfl (by decide) ?_
  refine zq_aload_n (pc' := 1) rfl rfl dX12_init_0 rfl ?_
  refine zq_oinit (pc' := 4) zoi_X12_1 dX12_init_1 (by decide) (by decide) rfl ?_
  refine zq_aload_n (pc' := 5) rfl rfl dX12_init_4 rfl ?_
  refine zq_sipush (pc' := 8) (v := 400) dX12_init_5 rfl rfl ?_
  refine zq_newa (pc' := 10) (atype := .int) (kd := 0) (N := 400) (a0 := (400, .inl (fun _ => 0))) zar_0 (fun _ => rfl) (fun _ _ h => h) (fun _ => rfl) (by decide) (by decide) (by decide) (by decide) rfl (by decide) (by decide) (by decide) dX12_init_8 rfl ?_
  refine zq_putF (pc' := 13) zpf_X12_7 rfl (fun _ => ⟨rfl, rfl⟩) rfl (by decide) dX12_init_10 rfl ?_
  refine zq_aload_n (pc' := 14) rfl rfl dX12_init_13 rfl ?_
  refine zq_sipush (pc' := 17) (v := 400) dX12_init_14 rfl rfl ?_
  refine zq_newa (pc' := 19) (atype := .int) (kd := 0) (N := 400) (a0 := (400, .inl (fun _ => 0))) zar_0 (fun _ => rfl) (fun _ _ h => h) (fun _ => rfl) (by decide) (by decide) (by decide) (by decide) rfl (by decide) (by decide) (by decide) dX12_init_17 rfl ?_
  refine zq_putF (pc' := 22) zpf_X12_13 rfl (fun _ => ⟨rfl, rfl⟩) rfl (by decide) dX12_init_19 rfl ?_
  refine zq_aload_n (pc' := 23) rfl rfl dX12_init_22 rfl ?_
  refine zq_sipush (pc' := 26) (v := 400) dX12_init_23 rfl rfl ?_
  refine zq_newa (pc' := 28) (atype := .int) (kd := 0) (N := 400) (a0 := (400, .inl (fun _ => 0))) zar_0 (fun _ => rfl) (fun _ _ h => h) (fun _ => rfl) (by decide) (by decide) (by decide) (by decide) rfl (by decide) (by decide) (by decide) dX12_init_26 rfl ?_
  refine zq_putF (pc' := 31) zpf_X12_16 rfl (fun _ => ⟨rfl, rfl⟩) rfl (by decide) dX12_init_28 rfl ?_
  refine zq_aload_n (pc' := 32) rfl rfl dX12_init_31 rfl ?_
  refine zq_sipush (pc' := 35) (v := 400) dX12_init_32 rfl rfl ?_
  refine zq_newa (pc' := 37) (atype := .int) (kd := 0) (N := 400) (a0 := (400, .inl (fun _ => 0))) zar_0 (fun _ => rfl) (fun _ _ h => h) (fun _ => rfl) (by decide) (by decide) (by decide) (by decide) rfl (by decide) (by decide) (by decide) dX12_init_35 rfl ?_
  refine zq_putF (pc' := 40) zpf_X12_19 rfl (fun _ => ⟨rfl, rfl⟩) rfl (by decide) dX12_init_37 rfl ?_
  refine zq_aload_n (pc' := 41) rfl rfl dX12_init_40 rfl ?_
  refine zq_bipush (pc' := 43) (v := 10) dX12_init_41 rfl rfl ?_
  refine zq_newa (pc' := 45) (atype := .int) (kd := 0) (N := 10) (a0 := (10, .inl (fun _ => 0))) zar_0 (fun _ => rfl) (fun _ _ h => h) (fun _ => rfl) (by decide) (by decide) (by decide) (by decide) rfl (by decide) (by decide) (by decide) dX12_init_43 rfl ?_
  refine zq_putF (pc' := 48) zpf_X12_22 rfl (fun _ => ⟨rfl, rfl⟩) rfl (by decide) dX12_init_45 rfl ?_
  refine zq_aload_n (pc' := 49) rfl rfl dX12_init_48 rfl ?_
  refine zq_bipush (pc' := 51) (v := 10) dX12_init_49 rfl rfl ?_
  refine zq_newa (pc' := 53) (atype := .int) (kd := 0) (N := 10) (a0 := (10, .inl (fun _ => 0))) zar_0 (fun _ => rfl) (fun _ _ h => h) (fun _ => rfl) (by decide) (by decide) (by decide) (by decide) rfl (by decide) (by decide) (by decide) dX12_init_51 rfl ?_
  refine zq_putF (pc' := 56) zpf_X12_25 rfl (fun _ => ⟨rfl, rfl⟩) rfl (by decide) dX12_init_53 rfl ?_
  refine zq_aload_n (pc' := 57) rfl rfl dX12_init_56 rfl ?_
  refine zq_bipush (pc' := 59) (v := 10) dX12_init_57 rfl rfl ?_
  refine zq_newa (pc' := 61) (atype := .int) (kd := 0) (N := 10) (a0 := (10, .inl (fun _ => 0))) zar_0 (fun _ => rfl) (fun _ _ h => h) (fun _ => rfl) (by decide) (by decide) (by decide) (by decide) rfl (by decide) (by decide) (by decide) dX12_init_59 rfl ?_
  refine zq_putF (pc' := 64) zpf_X12_28 rfl (fun _ => ⟨rfl, rfl⟩) rfl (by decide) dX12_init_61 rfl ?_
  refine zq_aload_n (pc' := 65) rfl rfl dX12_init_64 rfl ?_
  refine zq_bipush (pc' := 67) (v := 10) dX12_init_65 rfl rfl ?_
  refine zq_newa (pc' := 69) (atype := .int) (kd := 0) (N := 10) (a0 := (10, .inl (fun _ => 0))) zar_0 (fun _ => rfl) (fun _ _ h => h) (fun _ => rfl) (by decide) (by decide) (by decide) (by decide) rfl (by decide) (by decide) (by decide) dX12_init_67 rfl ?_
  refine zq_putF (pc' := 72) zpf_X12_31 rfl (fun _ => ⟨rfl, rfl⟩) rfl (by decide) dX12_init_69 rfl ?_
  refine zq_aload_n (pc' := 73) rfl rfl dX12_init_72 rfl ?_
  refine zq_bipush (pc' := 75) (v := 10) dX12_init_73 rfl rfl ?_
  refine zq_newa (pc' := 77) (atype := .int) (kd := 0) (N := 10) (a0 := (10, .inl (fun _ => 0))) zar_0 (fun _ => rfl) (fun _ _ h => h) (fun _ => rfl) (by decide) (by decide) (by decide) (by decide) rfl (by decide) (by decide) (by decide) dX12_init_75 rfl ?_
  refine zq_putF (pc' := 80) zpf_X12_34 rfl (fun _ => ⟨rfl, rfl⟩) rfl (by decide) dX12_init_77 rfl ?_
  refine zq_aload_n (pc' := 81) rfl rfl dX12_init_80 rfl ?_
  refine zq_bipush (pc' := 83) (v := 10) dX12_init_81 rfl rfl ?_
  refine zq_newa (pc' := 85) (atype := .int) (kd := 0) (N := 10) (a0 := (10, .inl (fun _ => 0))) zar_0 (fun _ => rfl) (fun _ _ h => h) (fun _ => rfl) (by decide) (by decide) (by decide) (by decide) rfl (by decide) (by decide) (by decide) dX12_init_83 rfl ?_
  refine zq_putF (pc' := 88) zpf_X12_37 rfl (fun _ => ⟨rfl, rfl⟩) rfl (by decide) dX12_init_85 rfl ?_
  refine zq_aload_n (pc' := 89) rfl rfl dX12_init_88 rfl ?_
  refine zq_bipush (pc' := 91) (v := 10) dX12_init_89 rfl rfl ?_
  refine zq_newa (pc' := 93) (atype := .int) (kd := 0) (N := 10) (a0 := (10, .inl (fun _ => 0))) zar_0 (fun _ => rfl) (fun _ _ h => h) (fun _ => rfl) (by decide) (by decide) (by decide) (by decide) rfl (by decide) (by decide) (by decide) dX12_init_91 rfl ?_
  refine zq_putF (pc' := 96) zpf_X12_40 rfl (fun _ => ⟨rfl, rfl⟩) rfl (by decide) dX12_init_93 rfl ?_
  refine zq_aload_n (pc' := 97) rfl rfl dX12_init_96 rfl ?_
  refine zq_bipush (pc' := 99) (v := 16) dX12_init_97 rfl rfl ?_
  refine zq_newa (pc' := 101) (atype := .boolean) (kd := 2) (N := 16) (a0 := (16, .inl (fun _ => 0))) zar_2 (fun _ => rfl) (fun _ _ h => h) (fun _ => rfl) (by decide) (by decide) (by decide) (by decide) rfl (by decide) (by decide) (by decide) dX12_init_99 rfl ?_
  refine zq_putF (pc' := 104) zpf_X12_43 rfl (fun _ => ⟨rfl, rfl⟩) rfl (by decide) dX12_init_101 rfl ?_
  refine zq_aload_n (pc' := 105) rfl rfl dX12_init_104 rfl ?_
  refine zq_sipush (pc' := 108) (v := 400) dX12_init_105 rfl rfl ?_
  refine zq_newa (pc' := 110) (atype := .int) (kd := 0) (N := 400) (a0 := (400, .inl (fun _ => 0))) zar_0 (fun _ => rfl) (fun _ _ h => h) (fun _ => rfl) (by decide) (by decide) (by decide) (by decide) rfl (by decide) (by decide) (by decide) dX12_init_108 rfl ?_
  refine zq_putF (pc' := 113) zpf_X12_47 rfl (fun _ => ⟨rfl, rfl⟩) rfl (by decide) dX12_init_110 rfl ?_
  refine zq_aload_n (pc' := 114) rfl rfl dX12_init_113 rfl ?_
  refine zq_iconst (pc' := 115) (v := (-1)) dX12_init_114 rfl rfl ?_
  refine zq_put (pc' := 118) zpn_X12_50 (fun _ => ⟨rfl, rfl⟩) rfl (by decide) dX12_init_115 rfl ?_
  refine zq_aload_n (pc' := 119) rfl rfl dX12_init_118 rfl ?_
  refine zq_sipush (pc' := 122) (v := 400) dX12_init_119 rfl rfl ?_
  refine zq_newa (pc' := 124) (atype := .int) (kd := 0) (N := 400) (a0 := (400, .inl (fun _ => 0))) zar_0 (fun _ => rfl) (fun _ _ h => h) (fun _ => rfl) (by decide) (by decide) (by decide) (by decide) rfl (by decide) (by decide) (by decide) dX12_init_122 rfl ?_
  refine zq_putF (pc' := 127) zpf_X12_54 rfl (fun _ => ⟨rfl, rfl⟩) rfl (by decide) dX12_init_124 rfl ?_
  refine zq_aload_n (pc' := 128) rfl rfl dX12_init_127 rfl ?_
  refine zq_sipush (pc' := 131) (v := 400) dX12_init_128 rfl rfl ?_
  refine zq_newa (pc' := 133) (atype := .int) (kd := 0) (N := 400) (a0 := (400, .inl (fun _ => 0))) zar_0 (fun _ => rfl) (fun _ _ h => h) (fun _ => rfl) (by decide) (by decide) (by decide) (by decide) rfl (by decide) (by decide) (by decide) dX12_init_131 rfl ?_
  refine zq_putF (pc' := 136) zpf_X12_57 rfl (fun _ => ⟨rfl, rfl⟩) rfl (by decide) dX12_init_133 rfl ?_
  refine zq_aload_n (pc' := 137) rfl rfl dX12_init_136 rfl ?_
  refine zq_sipush (pc' := 140) (v := 400) dX12_init_137 rfl rfl ?_
  refine zq_newa (pc' := 142) (atype := .int) (kd := 0) (N := 400) (a0 := (400, .inl (fun _ => 0))) zar_0 (fun _ => rfl) (fun _ _ h => h) (fun _ => rfl) (by decide) (by decide) (by decide) (by decide) rfl (by decide) (by decide) (by decide) dX12_init_140 rfl ?_
  refine zq_putF (pc' := 145) zpf_X12_60 rfl (fun _ => ⟨rfl, rfl⟩) rfl (by decide) dX12_init_142 rfl ?_
  refine zq_aload_n (pc' := 146) rfl rfl dX12_init_145 rfl ?_
  refine zq_sipush (pc' := 149) (v := 400) dX12_init_146 rfl rfl ?_
  refine zq_newa (pc' := 151) (atype := .int) (kd := 0) (N := 400) (a0 := (400, .inl (fun _ => 0))) zar_0 (fun _ => rfl) (fun _ _ h => h) (fun _ => rfl) (by decide) (by decide) (by decide) (by decide) rfl (by decide) (by decide) (by decide) dX12_init_149 rfl ?_
  refine zq_putF (pc' := 154) zpf_X12_63 rfl (fun _ => ⟨rfl, rfl⟩) rfl (by decide) dX12_init_151 rfl ?_
  refine zq_aload_n (pc' := 155) rfl rfl dX12_init_154 rfl ?_
  refine zq_sipush (pc' := 158) (v := 400) dX12_init_155 rfl rfl ?_
  refine zq_newa (pc' := 160) (atype := .int) (kd := 0) (N := 400) (a0 := (400, .inl (fun _ => 0))) zar_0 (fun _ => rfl) (fun _ _ h => h) (fun _ => rfl) (by decide) (by decide) (by decide) (by decide) rfl (by decide) (by decide) (by decide) dX12_init_158 rfl ?_
  refine zq_putF (pc' := 163) zpf_X12_66 rfl (fun _ => ⟨rfl, rfl⟩) rfl (by decide) dX12_init_160 rfl ?_
  refine zq_aload_n (pc' := 164) rfl rfl dX12_init_163 rfl ?_
  refine zq_bipush (pc' := 166) (v := 8) dX12_init_164 rfl rfl ?_
  refine zq_newa (pc' := 168) (atype := .int) (kd := 0) (N := 8) (a0 := (8, .inl (fun _ => 0))) zar_0 (fun _ => rfl) (fun _ _ h => h) (fun _ => rfl) (by decide) (by decide) (by decide) (by decide) rfl (by decide) (by decide) (by decide) dX12_init_166 rfl ?_
  refine zq_putF (pc' := 171) zpf_X12_69 rfl (fun _ => ⟨rfl, rfl⟩) rfl (by decide) dX12_init_168 rfl ?_
  refine zq_aload_n (pc' := 172) rfl rfl dX12_init_171 rfl ?_
  refine zq_sipush (pc' := 175) (v := 1600) dX12_init_172 rfl rfl ?_
  refine zq_newa (pc' := 177) (atype := .int) (kd := 0) (N := 1600) (a0 := (1600, .inl (fun _ => 0))) zar_0 (fun _ => rfl) (fun _ _ h => h) (fun _ => rfl) (by decide) (by decide) (by decide) (by decide) rfl (by decide) (by decide) (by decide) dX12_init_175 rfl ?_
  refine zq_putF (pc' := 180) zpf_X12_72 rfl (fun _ => ⟨rfl, rfl⟩) rfl (by decide) dX12_init_177 rfl ?_
  refine zq_aload_n (pc' := 181) rfl rfl dX12_init_180 rfl ?_
  refine zq_sipush (pc' := 184) (v := 1024) dX12_init_181 rfl rfl ?_
  refine zq_newa (pc' := 186) (atype := .boolean) (kd := 2) (N := 1024) (a0 := (1024, .inl (fun _ => 0))) zar_2 (fun _ => rfl) (fun _ _ h => h) (fun _ => rfl) (by decide) (by decide) (by decide) (by decide) rfl (by decide) (by decide) (by decide) dX12_init_184 rfl ?_
  refine zq_putF (pc' := 189) zpf_X12_75 rfl (fun _ => ⟨rfl, rfl⟩) rfl (by decide) dX12_init_186 rfl ?_
  refine zq_aload_n (pc' := 190) rfl rfl dX12_init_189 rfl ?_
  refine zq_sipush (pc' := 193) (v := 1024) dX12_init_190 rfl rfl ?_
  refine zq_newa (pc' := 195) (atype := .int) (kd := 0) (N := 1024) (a0 := (1024, .inl (fun _ => 0))) zar_0 (fun _ => rfl) (fun _ _ h => h) (fun _ => rfl) (by decide) (by decide) (by decide) (by decide) rfl (by decide) (by decide) (by decide) dX12_init_193 rfl ?_
  refine zq_putF (pc' := 198) zpf_X12_78 rfl (fun _ => ⟨rfl, rfl⟩) rfl (by decide) dX12_init_195 rfl ?_
  refine zq_aload_n (pc' := 199) rfl rfl dX12_init_198 rfl ?_
  refine zq_sipush (pc' := 202) (v := 1024) dX12_init_199 rfl rfl ?_
  refine zq_newa (pc' := 204) (atype := .long) (kd := 3) (N := 1024) (a0 := (1024, .inr (.inl (fun _ => 0)))) zar_3 (fun _ => rfl) (fun _ _ h => h) (fun _ => rfl) (by decide) (by decide) (by decide) (by decide) rfl (by decide) (by decide) (by decide) dX12_init_202 rfl ?_
  refine zq_putF (pc' := 207) zpf_X12_81 rfl (fun _ => ⟨rfl, rfl⟩) rfl (by decide) dX12_init_204 rfl ?_
  refine zq_aload_n (pc' := 208) rfl rfl dX12_init_207 rfl ?_
  refine zq_sipush (pc' := 211) (v := 1024) dX12_init_208 rfl rfl ?_
  refine zq_newa (pc' := 213) (atype := .long) (kd := 3) (N := 1024) (a0 := (1024, .inr (.inl (fun _ => 0)))) zar_3 (fun _ => rfl) (fun _ _ h => h) (fun _ => rfl) (by decide) (by decide) (by decide) (by decide) rfl (by decide) (by decide) (by decide) dX12_init_211 rfl ?_
  refine zq_putF (pc' := 216) zpf_X12_85 rfl (fun _ => ⟨rfl, rfl⟩) rfl (by decide) dX12_init_213 rfl ?_
  refine zq_aload_n (pc' := 217) rfl rfl dX12_init_216 rfl ?_
  refine zq_sipush (pc' := 220) (v := 4096) dX12_init_217 rfl rfl ?_
  refine zq_newa (pc' := 222) (atype := .int) (kd := 0) (N := 4096) (a0 := (4096, .inl (fun _ => 0))) zar_0 (fun _ => rfl) (fun _ _ h => h) (fun _ => rfl) (by decide) (by decide) (by decide) (by decide) rfl (by decide) (by decide) (by decide) dX12_init_220 rfl ?_
  refine zq_putF (pc' := 225) zpf_X12_88 rfl (fun _ => ⟨rfl, rfl⟩) rfl (by decide) dX12_init_222 rfl ?_
  refine zq_aload_n (pc' := 226) rfl rfl dX12_init_225 rfl ?_
  refine zq_sipush (pc' := 229) (v := 4096) dX12_init_226 rfl rfl ?_
  refine zq_newa (pc' := 231) (atype := .int) (kd := 0) (N := 4096) (a0 := (4096, .inl (fun _ => 0))) zar_0 (fun _ => rfl) (fun _ _ h => h) (fun _ => rfl) (by decide) (by decide) (by decide) (by decide) rfl (by decide) (by decide) (by decide) dX12_init_229 rfl ?_
  refine zq_putF (pc' := 234) zpf_X12_91 rfl (fun _ => ⟨rfl, rfl⟩) rfl (by decide) dX12_init_231 rfl ?_
  refine zq_aload_n (pc' := 235) rfl rfl dX12_init_234 rfl ?_
  refine zq_sipush (pc' := 238) (v := 1024) dX12_init_235 rfl rfl ?_
  refine zq_newa (pc' := 240) (atype := .int) (kd := 0) (N := 1024) (a0 := (1024, .inl (fun _ => 0))) zar_0 (fun _ => rfl) (fun _ _ h => h) (fun _ => rfl) (by decide) (by decide) (by decide) (by decide) rfl (by decide) (by decide) (by decide) dX12_init_238 rfl ?_
  refine zq_putF (pc' := 243) zpf_X12_94 rfl (fun _ => ⟨rfl, rfl⟩) rfl (by decide) dX12_init_240 rfl ?_
  refine zq_aload_n (pc' := 244) rfl rfl dX12_init_243 rfl ?_
  refine zq_ldc (pc' := 246) zkc_X12_97 dX12_init_244 rfl ?_
  refine zq_newa (pc' := 248) (atype := .int) (kd := 0) (N := 40960) (a0 := (40960, .inl (fun _ => 0))) zar_0 (fun _ => rfl) (fun _ _ h => h) (fun _ => rfl) (by decide) (by decide) (by decide) (by decide) rfl (by decide) (by decide) (by decide) dX12_init_246 rfl ?_
  refine zq_putF (pc' := 251) zpf_X12_98 rfl (fun _ => ⟨rfl, rfl⟩) rfl (by decide) dX12_init_248 rfl ?_
  refine zq_aload_n (pc' := 252) rfl rfl dX12_init_251 rfl ?_
  refine zq_sipush (pc' := 255) (v := 1024) dX12_init_252 rfl rfl ?_
  refine zq_newa (pc' := 257) (atype := .long) (kd := 3) (N := 1024) (a0 := (1024, .inr (.inl (fun _ => 0)))) zar_3 (fun _ => rfl) (fun _ _ h => h) (fun _ => rfl) (by decide) (by decide) (by decide) (by decide) rfl (by decide) (by decide) (by decide) dX12_init_255 rfl ?_
  refine zq_putF (pc' := 260) zpf_X12_101 rfl (fun _ => ⟨rfl, rfl⟩) rfl (by decide) dX12_init_257 rfl ?_
  refine zq_aload_n (pc' := 261) rfl rfl dX12_init_260 rfl ?_
  refine zq_sipush (pc' := 264) (v := 1024) dX12_init_261 rfl rfl ?_
  refine zq_newa (pc' := 266) (atype := .int) (kd := 0) (N := 1024) (a0 := (1024, .inl (fun _ => 0))) zar_0 (fun _ => rfl) (fun _ _ h => h) (fun _ => rfl) (by decide) (by decide) (by decide) (by decide) rfl (by decide) (by decide) (by decide) dX12_init_264 rfl ?_
  refine zq_putF (pc' := 269) zpf_X12_104 rfl (fun _ => ⟨rfl, rfl⟩) rfl (by decide) dX12_init_266 rfl ?_
  refine zq_aload_n (pc' := 270) rfl rfl dX12_init_269 rfl ?_
  refine zq_bipush (pc' := 272) (v := 40) dX12_init_270 rfl rfl ?_
  refine zq_newa (pc' := 274) (atype := .int) (kd := 0) (N := 40) (a0 := (40, .inl (fun _ => 0))) zar_0 (fun _ => rfl) (fun _ _ h => h) (fun _ => rfl) (by decide) (by decide) (by decide) (by decide) rfl (by decide) (by decide) (by decide) dX12_init_272 rfl ?_
  refine zq_putF (pc' := 277) zpf_X12_107 rfl (fun _ => ⟨rfl, rfl⟩) rfl (by decide) dX12_init_274 rfl ?_
  refine zq_aload_n (pc' := 278) rfl rfl dX12_init_277 rfl ?_
  refine zq_bipush (pc' := 280) (v := 40) dX12_init_278 rfl rfl ?_
  refine zq_newa (pc' := 282) (atype := .int) (kd := 0) (N := 40) (a0 := (40, .inl (fun _ => 0))) zar_0 (fun _ => rfl) (fun _ _ h => h) (fun _ => rfl) (by decide) (by decide) (by decide) (by decide) rfl (by decide) (by decide) (by decide) dX12_init_280 rfl ?_
  refine zq_putF (pc' := 285) zpf_X12_110 rfl (fun _ => ⟨rfl, rfl⟩) rfl (by decide) dX12_init_282 rfl ?_
  refine zq_aload_n (pc' := 286) rfl rfl dX12_init_285 rfl ?_
  refine zq_bipush (pc' := 288) (v := 41) dX12_init_286 rfl rfl ?_
  refine zq_newa (pc' := 290) (atype := .int) (kd := 0) (N := 41) (a0 := (41, .inl (fun _ => 0))) zar_0 (fun _ => rfl) (fun _ _ h => h) (fun _ => rfl) (by decide) (by decide) (by decide) (by decide) rfl (by decide) (by decide) (by decide) dX12_init_288 rfl ?_
  refine zq_putF (pc' := 293) zpf_X12_113 rfl (fun _ => ⟨rfl, rfl⟩) rfl (by decide) dX12_init_290 rfl ?_
  refine zq_aload_n (pc' := 294) rfl rfl dX12_init_293 rfl ?_
  refine zq_bipush (pc' := 296) (v := 40) dX12_init_294 rfl rfl ?_
  refine zq_newa (pc' := 298) (atype := .int) (kd := 0) (N := 40) (a0 := (40, .inl (fun _ => 0))) zar_0 (fun _ => rfl) (fun _ _ h => h) (fun _ => rfl) (by decide) (by decide) (by decide) (by decide) rfl (by decide) (by decide) (by decide) dX12_init_296 rfl ?_
  refine zq_putF (pc' := 301) zpf_X12_116 rfl (fun _ => ⟨rfl, rfl⟩) rfl (by decide) dX12_init_298 rfl ?_
  refine zq_aload_n (pc' := 302) rfl rfl dX12_init_301 rfl ?_
  refine zq_iconst (pc' := 303) (v := 4) dX12_init_302 rfl rfl ?_
  refine zq_newa (pc' := 305) (atype := .int) (kd := 0) (N := 4) (a0 := (4, .inl (fun _ => 0))) zar_0 (fun _ => rfl) (fun _ _ h => h) (fun _ => rfl) (by decide) (by decide) (by decide) (by decide) rfl (by decide) (by decide) (by decide) dX12_init_303 rfl ?_
  refine zq_putF (pc' := 308) zpf_X12_119 rfl (fun _ => ⟨rfl, rfl⟩) rfl (by decide) dX12_init_305 rfl ?_
  refine zq_aload_n (pc' := 309) rfl rfl dX12_init_308 rfl ?_
  refine zq_sipush (pc' := 312) (v := 160) dX12_init_309 rfl rfl ?_
  refine zq_newa (pc' := 314) (atype := .int) (kd := 0) (N := 160) (a0 := (160, .inl (fun _ => 0))) zar_0 (fun _ => rfl) (fun _ _ h => h) (fun _ => rfl) (by decide) (by decide) (by decide) (by decide) rfl (by decide) (by decide) (by decide) dX12_init_312 rfl ?_
  refine zq_putF (pc' := 317) zpf_X12_122 rfl (fun _ => ⟨rfl, rfl⟩) rfl (by decide) dX12_init_314 rfl ?_
  refine zq_aload_n (pc' := 318) rfl rfl dX12_init_317 rfl ?_
  refine zq_sipush (pc' := 321) (v := 4096) dX12_init_318 rfl rfl ?_
  refine zq_newa (pc' := 323) (atype := .long) (kd := 3) (N := 4096) (a0 := (4096, .inr (.inl (fun _ => 0)))) zar_3 (fun _ => rfl) (fun _ _ h => h) (fun _ => rfl) (by decide) (by decide) (by decide) (by decide) rfl (by decide) (by decide) (by decide) dX12_init_321 rfl ?_
  refine zq_putF (pc' := 326) zpf_X12_125 rfl (fun _ => ⟨rfl, rfl⟩) rfl (by decide) dX12_init_323 rfl ?_
  refine zq_aload_n (pc' := 327) rfl rfl dX12_init_326 rfl ?_
  refine zq_sipush (pc' := 330) (v := 4096) dX12_init_327 rfl rfl ?_
  refine zq_newa (pc' := 332) (atype := .long) (kd := 3) (N := 4096) (a0 := (4096, .inr (.inl (fun _ => 0)))) zar_3 (fun _ => rfl) (fun _ _ h => h) (fun _ => rfl) (by decide) (by decide) (by decide) (by decide) rfl (by decide) (by decide) (by decide) dX12_init_330 rfl ?_
  refine zq_putF (pc' := 335) zpf_X12_128 rfl (fun _ => ⟨rfl, rfl⟩) rfl (by decide) dX12_init_332 rfl ?_
  refine zq_aload_n (pc' := 336) rfl rfl dX12_init_335 rfl ?_
  refine zq_sipush (pc' := 339) (v := 10000) dX12_init_336 rfl rfl ?_
  refine zq_newa (pc' := 341) (atype := .boolean) (kd := 2) (N := 10000) (a0 := (10000, .inl (fun _ => 0))) zar_2 (fun _ => rfl) (fun _ _ h => h) (fun _ => rfl) (by decide) (by decide) (by decide) (by decide) rfl (by decide) (by decide) (by decide) dX12_init_339 rfl ?_
  refine zq_putF (pc' := 344) zpf_X12_131 rfl (fun _ => ⟨rfl, rfl⟩) rfl (by decide) dX12_init_341 rfl ?_
  refine zq_aload_n (pc' := 345) rfl rfl dX12_init_344 rfl ?_
  refine zq_sipush (pc' := 348) (v := 1024) dX12_init_345 rfl rfl ?_
  refine zq_newa (pc' := 350) (atype := .long) (kd := 3) (N := 1024) (a0 := (1024, .inr (.inl (fun _ => 0)))) zar_3 (fun _ => rfl) (fun _ _ h => h) (fun _ => rfl) (by decide) (by decide) (by decide) (by decide) rfl (by decide) (by decide) (by decide) dX12_init_348 rfl ?_
  refine zq_putF (pc' := 353) zpf_X12_134 rfl (fun _ => ⟨rfl, rfl⟩) rfl (by decide) dX12_init_350 rfl ?_
  refine zq_aload_n (pc' := 354) rfl rfl dX12_init_353 rfl ?_
  show zq_R _ _ _ _ _ _ _ _ _ _ _ _ _ _ zw_fin _ _
  rw [zq_w00]
  refine zq_callV (pc' := 357) (As := []) (rest := []) (k := 57) zcv_X12_137 (cX12_findMust_mc 1 zq_s00 (1, zq_s0) zq_must0) (zq_en_get zob_57.choose_spec) rfl (by decide) ⟨by decide, by decide⟩ (by decide) dX12_init_354 rfl rfl ?_
  refine zq_pop (pc' := 358) rfl dX12_init_357 rfl ?_
  exact zq_vret rfl rfl rfl rfl dX12_init_358
