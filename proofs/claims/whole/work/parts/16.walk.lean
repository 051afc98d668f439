section X_LR_hollow
variable {p : Program} {l : Launch} {e : Env} {s : State} {m : MethodId} {args : Array Value} {below : List Frame} {meth : Method} {c : Code} {Q : State → Prop}
variable {D : va_G} {adr : Nat → Nat} {cA : Nat → ClassId} {μ ν : Mem}
theorem d_LR_hollow_0 : decode prog_1_method_8_code 0 = .ok (.aload_n 0, 1) := by decide +kernel
theorem d_LR_hollow_1 : decode prog_1_method_8_code 1 = .ok (.getfield 32, 3) := by decide +kernel
theorem d_LR_hollow_4 : decode prog_1_method_8_code 4 = .ok (.ifCond .ne 6, 3) := by decide +kernel
theorem d_LR_hollow_7 : decode prog_1_method_8_code 7 = .ok (.bipush (-2), 2) := by decide +kernel
theorem d_LR_hollow_9 : decode prog_1_method_8_code 9 = .ok (.ireturn, 1) := by decide +kernel
theorem d_LR_hollow_10 : decode prog_1_method_8_code 10 = .ok (.iload_n 1, 1) := by decide +kernel
theorem d_LR_hollow_11 : decode prog_1_method_8_code 11 = .ok (.ifCond .ge 5, 3) := by decide +kernel
theorem d_LR_hollow_14 : decode prog_1_method_8_code 14 = .ok (.iconst (-1), 1) := by decide +kernel
theorem d_LR_hollow_15 : decode prog_1_method_8_code 15 = .ok (.ireturn, 1) := by decide +kernel
theorem d_LR_hollow_16 : decode prog_1_method_8_code 16 = .ok (.aload_n 0, 1) := by decide +kernel
theorem d_LR_hollow_17 : decode prog_1_method_8_code 17 = .ok (.getfield 19, 3) := by decide +kernel
theorem d_LR_hollow_20 : decode prog_1_method_8_code 20 = .ok (.iload_n 1, 1) := by decide +kernel
theorem d_LR_hollow_21 : decode prog_1_method_8_code 21 = .ok (.invokevirtual 113, 3) := by decide +kernel
theorem d_LR_hollow_24 : decode prog_1_method_8_code 24 = .ok (.ireturn, 1) := by decide +kernel
set_option maxHeartbeats 4000000 in
set_option maxRecDepth 100000 in
theorem w_LR_hollow (x1 : Int32)  (C : Cx prog_1_method_8_code 2 "LakeRelief" (Option.some Jvm.ClassFile.FieldType.int) p s m args meth c) (hG : Geo D adr cA s) {res : Int32} (hf : f_LR_hollow μ x1 = some res) (hq : ∀ (pc : Nat) (ls : Array Slot) (H : Heap) (locs : List Loc), decode prog_1_method_8_code pc = .ok (.ireturn, 1) → va_P D cls (wld adr cA μ ν) H → va_S (AA adr) s.heap H locs → W p l e rm_LR_hollow s m args below meth c H locs 0 0 Q (F0 m pc ls [.int res])) {H : Heap} {locs : List Loc} {ls : Array Slot} (hP : va_P D cls (wld adr cA μ ν) H) (hS : va_S (AA adr) s.heap H locs) (hl : lv_has ls 2 [(0, .ref (adr 0)), (1, .int x1)]) : W p l e rm_LR_hollow s m args below meth c H locs 0 0 Q (F0 m 0 ls []) := by
  obtain ⟨hx, hb, hml, hown, hts, hr, hlocks⟩ := id C
  unfold f_LR_hollow at hf
  refine lv_aload_n hx hb d_LR_hollow_0 rfl (lv_at hl 0 rfl) ?_
  refine g_LR_isLaid hx hb hts hown hG hP (hts _ in_178) d_LR_hollow_1 ?_
  refine lv_if_ne (tgt := 10) hx hb d_LR_hollow_4 (by decide) (fun hc => ?_) (fun hc => ?_)
  · replace hf := if_n hc hf
    refine lv_iload_n hx hb d_LR_hollow_10 rfl (lv_at hl 1 rfl) ?_
    refine lv_if_ge (tgt := 16) hx hb d_LR_hollow_11 (by decide) (fun hc => ?_) (fun hc => ?_)
    · replace hf := if_p hc hf
      refine lv_aload_n hx hb d_LR_hollow_16 rfl (lv_at hl 0 rfl) ?_
      refine g_LR_relief hx hb hts hown hG hP (hts _ in_176) d_LR_hollow_17 ?_
      refine lv_iload_n hx hb d_LR_hollow_20 rfl (lv_at hl 1 rfl) ?_
      replace hf := B_some hf
      obtain ⟨v1, hv1, hf⟩ := hf
      refine ki (kv (As := [.int x1]) (rest := []) ⟨hx, hb, hml, hown, hts⟩ (cw_LR_113 hts ⟨Nat.le_of_ble_eq_true rfl, Nat.le_of_ble_eq_true rfl⟩) (c_RE_hollowAt l D adr cA μ ν x1 hv1) hG hP (rc_o (q := 18) (ci := 2) hG hP (by decide) (wc_C (by decide) rfl) rfl) rfl hl.1 (Nat.le_of_ble_eq_true rfl) d_LR_hollow_21) hS (fun H locs hP hS => ?_)
      obtain rfl := Option.some.inj hf
      exact hq _ _ _ _ d_LR_hollow_24 hP hS
    · replace hf := if_n hc hf
      refine lv_iconst (v := (-1)) hx hb d_LR_hollow_14 (by decide) ?_
      obtain rfl := Option.some.inj hf
      exact hq _ _ _ _ d_LR_hollow_15 hP hS
  · replace hf := if_p hc hf
    refine lv_bipush (v := (-2)) hx hb d_LR_hollow_7 (by decide) ?_
    obtain rfl := Option.some.inj hf
    exact hq _ _ _ _ d_LR_hollow_9 hP hS
theorem c_LR_hollow (l : Launch) (D : va_G) (adr : Nat → Nat) (cA : Nat → ClassId) (μ ν : Mem) (x1 : Int32)  {res : Int32} (hf : f_LR_hollow μ x1 = some res) : Met l y_LR_hollow (Cond.code y_LR_hollow prog_1_method_8_code 2 (Option.some Jvm.ClassFile.FieldType.int) :: lw_ok) rm_LR_hollow (va_Pc [.ref (adr 0), .int x1] (Wd D adr cA μ ν)) (QI D adr cA res μ ν) 0 0 (AA adr) :=
  met_of (own := "LakeRelief") rfl rfl (Nat.le_of_ble_eq_true rfl) (fun p e s m below meth c C hG hP hS ls hl => w_LR_hollow x1  C hG hf (fun pc ls H locs hd hP hS => ret_i C.1 C.2.1 C.2.2.2.2.2.1 C.2.2.2.2.2.2 hG hd hP hS) hP hS hl)
end X_LR_hollow
section X_JL_bitCount
variable {p : Program} {l : Launch} {e : Env} {s : State} {m : MethodId} {args : Array Value} {below : List Frame} {meth : Method} {c : Code} {Q : State → Prop}
variable {D : va_G} {adr : Nat → Nat} {cA : Nat → ClassId} {μ ν : Mem}
theorem d_JL_bitCount_0 : decode prog_8_method_50_code 0 = .ok (.lload_n 0, 1) := by decide +kernel
theorem d_JL_bitCount_1 : decode prog_8_method_50_code 1 = .ok (.lload_n 0, 1) := by decide +kernel
theorem d_JL_bitCount_2 : decode prog_8_method_50_code 2 = .ok (.iconst 1, 1) := by decide +kernel
theorem d_JL_bitCount_3 : decode prog_8_method_50_code 3 = .ok (.lushr, 1) := by decide +kernel
theorem d_JL_bitCount_4 : decode prog_8_method_50_code 4 = .ok (.ldc2_w 314, 3) := by decide +kernel
theorem d_JL_bitCount_7 : decode prog_8_method_50_code 7 = .ok (.land, 1) := by decide +kernel
theorem d_JL_bitCount_8 : decode prog_8_method_50_code 8 = .ok (.lsub, 1) := by decide +kernel
theorem d_JL_bitCount_9 : decode prog_8_method_50_code 9 = .ok (.lstore_n 0, 1) := by decide +kernel
theorem d_JL_bitCount_10 : decode prog_8_method_50_code 10 = .ok (.lload_n 0, 1) := by decide +kernel
theorem d_JL_bitCount_11 : decode prog_8_method_50_code 11 = .ok (.ldc2_w 316, 3) := by decide +kernel
theorem d_JL_bitCount_14 : decode prog_8_method_50_code 14 = .ok (.land, 1) := by decide +kernel
theorem d_JL_bitCount_15 : decode prog_8_method_50_code 15 = .ok (.lload_n 0, 1) := by decide +kernel
theorem d_JL_bitCount_16 : decode prog_8_method_50_code 16 = .ok (.iconst 2, 1) := by decide +kernel
theorem d_JL_bitCount_17 : decode prog_8_method_50_code 17 = .ok (.lushr, 1) := by decide +kernel
theorem d_JL_bitCount_18 : decode prog_8_method_50_code 18 = .ok (.ldc2_w 316, 3) := by decide +kernel
theorem d_JL_bitCount_21 : decode prog_8_method_50_code 21 = .ok (.land, 1) := by decide +kernel
theorem d_JL_bitCount_22 : decode prog_8_method_50_code 22 = .ok (.ladd, 1) := by decide +kernel
theorem d_JL_bitCount_23 : decode prog_8_method_50_code 23 = .ok (.lstore_n 0, 1) := by decide +kernel
theorem d_JL_bitCount_24 : decode prog_8_method_50_code 24 = .ok (.lload_n 0, 1) := by decide +kernel
theorem d_JL_bitCount_25 : decode prog_8_method_50_code 25 = .ok (.lload_n 0, 1) := by decide +kernel
theorem d_JL_bitCount_26 : decode prog_8_method_50_code 26 = .ok (.iconst 4, 1) := by decide +kernel
theorem d_JL_bitCount_27 : decode prog_8_method_50_code 27 = .ok (.lushr, 1) := by decide +kernel
theorem d_JL_bitCount_28 : decode prog_8_method_50_code 28 = .ok (.ladd, 1) := by decide +kernel
theorem d_JL_bitCount_29 : decode prog_8_method_50_code 29 = .ok (.ldc2_w 318, 3) := by decide +kernel
theorem d_JL_bitCount_32 : decode prog_8_method_50_code 32 = .ok (.land, 1) := by decide +kernel
theorem d_JL_bitCount_33 : decode prog_8_method_50_code 33 = .ok (.lstore_n 0, 1) := by decide +kernel
theorem d_JL_bitCount_34 : decode prog_8_method_50_code 34 = .ok (.lload_n 0, 1) := by decide +kernel
theorem d_JL_bitCount_35 : decode prog_8_method_50_code 35 = .ok (.lload_n 0, 1) := by decide +kernel
theorem d_JL_bitCount_36 : decode prog_8_method_50_code 36 = .ok (.bipush 8, 2) := by decide +kernel
theorem d_JL_bitCount_38 : decode prog_8_method_50_code 38 = .ok (.lushr, 1) := by decide +kernel
theorem d_JL_bitCount_39 : decode prog_8_method_50_code 39 = .ok (.ladd, 1) := by decide +kernel
theorem d_JL_bitCount_40 : decode prog_8_method_50_code 40 = .ok (.lstore_n 0, 1) := by decide +kernel
theorem d_JL_bitCount_41 : decode prog_8_method_50_code 41 = .ok (.lload_n 0, 1) := by decide +kernel
theorem d_JL_bitCount_42 : decode prog_8_method_50_code 42 = .ok (.lload_n 0, 1) := by decide +kernel
theorem d_JL_bitCount_43 : decode prog_8_method_50_code 43 = .ok (.bipush 16, 2) := by decide +kernel
theorem d_JL_bitCount_45 : decode prog_8_method_50_code 45 = .ok (.lushr, 1) := by decide +kernel
theorem d_JL_bitCount_46 : decode prog_8_method_50_code 46 = .ok (.ladd, 1) := by decide +kernel
theorem d_JL_bitCount_47 : decode prog_8_method_50_code 47 = .ok (.lstore_n 0, 1) := by decide +kernel
theorem d_JL_bitCount_48 : decode prog_8_method_50_code 48 = .ok (.lload_n 0, 1) := by decide +kernel
theorem d_JL_bitCount_49 : decode prog_8_method_50_code 49 = .ok (.lload_n 0, 1) := by decide +kernel
theorem d_JL_bitCount_50 : decode prog_8_method_50_code 50 = .ok (.bipush 32, 2) := by decide +kernel
theorem d_JL_bitCount_52 : decode prog_8_method_50_code 52 = .ok (.lushr, 1) := by decide +kernel
theorem d_JL_bitCount_53 : decode prog_8_method_50_code 53 = .ok (.ladd, 1) := by decide +kernel
theorem d_JL_bitCount_54 : decode prog_8_method_50_code 54 = .ok (.lstore_n 0, 1) := by decide +kernel
theorem d_JL_bitCount_55 : decode prog_8_method_50_code 55 = .ok (.lload_n 0, 1) := by decide +kernel
theorem d_JL_bitCount_56 : decode prog_8_method_50_code 56 = .ok (.l2i, 1) := by decide +kernel
theorem d_JL_bitCount_57 : decode prog_8_method_50_code 57 = .ok (.bipush 127, 2) := by decide +kernel
theorem d_JL_bitCount_59 : decode prog_8_method_50_code 59 = .ok (.iand, 1) := by decide +kernel
theorem d_JL_bitCount_60 : decode prog_8_method_50_code 60 = .ok (.ireturn, 1) := by decide +kernel
set_option maxHeartbeats 4000000 in
set_option maxRecDepth 100000 in
theorem w_JL_bitCount (x0 : Int64)  (C : Cx prog_8_method_50_code 2 "java/lang/Long" (Option.some Jvm.ClassFile.FieldType.int) p s m args meth c) (hG : Geo D adr cA s) {res : Int32} (hf : f_JL_bitCount x0 = res) (hq : ∀ (pc : Nat) (ls : Array Slot) (H : Heap) (locs : List Loc), decode prog_8_method_50_code pc = .ok (.ireturn, 1) → va_P D cls (wld adr cA μ ν) H → va_S (AA adr) s.heap H locs → W p l e rm_JL_bitCount s m args below meth c H locs 0 0 Q (F0 m pc ls [.int res])) {H : Heap} {locs : List Loc} {ls : Array Slot} (hP : va_P D cls (wld adr cA μ ν) H) (hS : va_S (AA adr) s.heap H locs) (hl : lv_has ls 2 [(0, .long x0)]) : W p l e rm_JL_bitCount s m args below meth c H locs 0 0 Q (F0 m 0 ls []) := by
  obtain ⟨hx, hb, hml, hown, hts, hr, hlocks⟩ := id C
  unfold f_JL_bitCount at hf
  refine lv_lload_n hx hb d_JL_bitCount_0 rfl (lv_at hl 0 rfl) ?_
  refine lv_lload_n hx hb d_JL_bitCount_1 rfl (lv_at hl 0 rfl) ?_
  refine lv_iconst (v := 1) hx hb d_JL_bitCount_2 (by decide) ?_
  refine lv_lushr hx hb d_JL_bitCount_3 rfl ?_
  refine lv_ldc2 (v := 6148914691236517205) hx hb hown (hts _ in_434) d_JL_bitCount_4 ?_
  refine lv_land hx hb d_JL_bitCount_7 ?_
  refine lv_lsub hx hb d_JL_bitCount_8 ?_
  refine lv_lstore_n (lv' := [(0, .long (x0 - ((x0.toUInt64 >>> ((1 : Int32).toInt64.toUInt64 &&& Int64.toUInt64 63)).toInt64 &&& 6148914691236517205)))]) hx hb d_JL_bitCount_9 rfl hl (by decide) rfl (fun ls hl => ?_)
  refine lv_lload_n hx hb d_JL_bitCount_10 rfl (lv_at hl 0 rfl) ?_
  refine lv_ldc2 (v := 3689348814741910323) hx hb hown (hts _ in_435) d_JL_bitCount_11 ?_
  refine lv_land hx hb d_JL_bitCount_14 ?_
  refine lv_lload_n hx hb d_JL_bitCount_15 rfl (lv_at hl 0 rfl) ?_
  refine lv_iconst (v := 2) hx hb d_JL_bitCount_16 (by decide) ?_
  refine lv_lushr hx hb d_JL_bitCount_17 rfl ?_
  refine lv_ldc2 (v := 3689348814741910323) hx hb hown (hts _ in_435) d_JL_bitCount_18 ?_
  refine lv_land hx hb d_JL_bitCount_21 ?_
  refine lv_ladd hx hb d_JL_bitCount_22 ?_
  refine lv_lstore_n (lv' := [(0, .long (((x0 - ((x0.toUInt64 >>> ((1 : Int32).toInt64.toUInt64 &&& Int64.toUInt64 63)).toInt64 &&& 6148914691236517205)) &&& 3689348814741910323) + (((x0 - ((x0.toUInt64 >>> ((1 : Int32).toInt64.toUInt64 &&& Int64.toUInt64 63)).toInt64 &&& 6148914691236517205)).toUInt64 >>> ((2 : Int32).toInt64.toUInt64 &&& Int64.toUInt64 63)).toInt64 &&& 3689348814741910323)))]) hx hb d_JL_bitCount_23 rfl hl (by decide) rfl (fun ls hl => ?_)
  refine lv_lload_n hx hb d_JL_bitCount_24 rfl (lv_at hl 0 rfl) ?_
  refine lv_lload_n hx hb d_JL_bitCount_25 rfl (lv_at hl 0 rfl) ?_
  refine lv_iconst (v := 4) hx hb d_JL_bitCount_26 (by decide) ?_
  refine lv_lushr hx hb d_JL_bitCount_27 rfl ?_
  refine lv_ladd hx hb d_JL_bitCount_28 ?_
  refine lv_ldc2 (v := 1085102592571150095) hx hb hown (hts _ in_436) d_JL_bitCount_29 ?_
  refine lv_land hx hb d_JL_bitCount_32 ?_
  refine lv_lstore_n (lv' := [(0, .long (((((x0 - ((x0.toUInt64 >>> ((1 : Int32).toInt64.toUInt64 &&& Int64.toUInt64 63)).toInt64 &&& 6148914691236517205)) &&& 3689348814741910323) + (((x0 - ((x0.toUInt64 >>> ((1 : Int32).toInt64.toUInt64 &&& Int64.toUInt64 63)).toInt64 &&& 6148914691236517205)).toUInt64 >>> ((2 : Int32).toInt64.toUInt64 &&& Int64.toUInt64 63)).toInt64 &&& 3689348814741910323)) + ((((x0 - ((x0.toUInt64 >>> ((1 : Int32).toInt64.toUInt64 &&& Int64.toUInt64 63)).toInt64 &&& 6148914691236517205)) &&& 3689348814741910323) + (((x0 - ((x0.toUInt64 >>> ((1 : Int32).toInt64.toUInt64 &&& Int64.toUInt64 63)).toInt64 &&& 6148914691236517205)).toUInt64 >>> ((2 : Int32).toInt64.toUInt64 &&& Int64.toUInt64 63)).toInt64 &&& 3689348814741910323)).toUInt64 >>> ((4 : Int32).toInt64.toUInt64 &&& Int64.toUInt64 63)).toInt64) &&& 1085102592571150095))]) hx hb d_JL_bitCount_33 rfl hl (by decide) rfl (fun ls hl => ?_)
  refine lv_lload_n hx hb d_JL_bitCount_34 rfl (lv_at hl 0 rfl) ?_
  refine lv_lload_n hx hb d_JL_bitCount_35 rfl (lv_at hl 0 rfl) ?_
  refine lv_bipush (v := 8) hx hb d_JL_bitCount_36 (by decide) ?_
  refine lv_lushr hx hb d_JL_bitCount_38 rfl ?_
  refine lv_ladd hx hb d_JL_bitCount_39 ?_
  refine lv_lstore_n (lv' := [(0, .long ((((((x0 - ((x0.toUInt64 >>> ((1 : Int32).toInt64.toUInt64 &&& Int64.toUInt64 63)).toInt64 &&& 6148914691236517205)) &&& 3689348814741910323) + (((x0 - ((x0.toUInt64 >>> ((1 : Int32).toInt64.toUInt64 &&& Int64.toUInt64 63)).toInt64 &&& 6148914691236517205)).toUInt64 >>> ((2 : Int32).toInt64.toUInt64 &&& Int64.toUInt64 63)).toInt64 &&& 3689348814741910323)) + ((((x0 - ((x0.toUInt64 >>> ((1 : Int32).toInt64.toUInt64 &&& Int64.toUInt64 63)).toInt64 &&& 6148914691236517205)) &&& 3689348814741910323) + (((x0 - ((x0.toUInt64 >>> ((1 : Int32).toInt64.toUInt64 &&& Int64.toUInt64 63)).toInt64 &&& 6148914691236517205)).toUInt64 >>> ((2 : Int32).toInt64.toUInt64 &&& Int64.toUInt64 63)).toInt64 &&& 3689348814741910323)).toUInt64 >>> ((4 : Int32).toInt64.toUInt64 &&& Int64.toUInt64 63)).toInt64) &&& 1085102592571150095) + ((((((x0 - ((x0.toUInt64 >>> ((1 : Int32).toInt64.toUInt64 &&& Int64.toUInt64 63)).toInt64 &&& 6148914691236517205)) &&& 3689348814741910323) + (((x0 - ((x0.toUInt64 >>> ((1 : Int32).toInt64.toUInt64 &&& Int64.toUInt64 63)).toInt64 &&& 6148914691236517205)).toUInt64 >>> ((2 : Int32).toInt64.toUInt64 &&& Int64.toUInt64 63)).toInt64 &&& 3689348814741910323)) + ((((x0 - ((x0.toUInt64 >>> ((1 : Int32).toInt64.toUInt64 &&& Int64.toUInt64 63)).toInt64 &&& 6148914691236517205)) &&& 3689348814741910323) + (((x0 - ((x0.toUInt64 >>> ((1 : Int32).toInt64.toUInt64 &&& Int64.toUInt64 63)).toInt64 &&& 6148914691236517205)).toUInt64 >>> ((2 : Int32).toInt64.toUInt64 &&& Int64.toUInt64 63)).toInt64 &&& 3689348814741910323)).toUInt64 >>> ((4 : Int32).toInt64.toUInt64 &&& Int64.toUInt64 63)).toInt64) &&& 1085102592571150095).toUInt64 >>> ((8 : Int32).toInt64.toUInt64 &&& Int64.toUInt64 63)).toInt64))]) hx hb d_JL_bitCount_40 rfl hl (by decide) rfl (fun ls hl => ?_)
  refine lv_lload_n hx hb d_JL_bitCount_41 rfl (lv_at hl 0 rfl) ?_
  refine lv_lload_n hx hb d_JL_bitCount_42 rfl (lv_at hl 0 rfl) ?_
  refine lv_bipush (v := 16) hx hb d_JL_bitCount_43 (by decide) ?_
  refine lv_lushr hx hb d_JL_bitCount_45 rfl ?_
  refine lv_ladd hx hb d_JL_bitCount_46 ?_
  refine lv_lstore_n (lv' := [(0, .long (((((((x0 - ((x0.toUInt64 >>> ((1 : Int32).toInt64.toUInt64 &&& Int64.toUInt64 63)).toInt64 &&& 6148914691236517205)) &&& 3689348814741910323) + (((x0 - ((x0.toUInt64 >>> ((1 : Int32).toInt64.toUInt64 &&& Int64.toUInt64 63)).toInt64 &&& 6148914691236517205)).toUInt64 >>> ((2 : Int32).toInt64.toUInt64 &&& Int64.toUInt64 63)).toInt64 &&& 3689348814741910323)) + ((((x0 - ((x0.toUInt64 >>> ((1 : Int32).toInt64.toUInt64 &&& Int64.toUInt64 63)).toInt64 &&& 6148914691236517205)) &&& 3689348814741910323) + (((x0 - ((x0.toUInt64 >>> ((1 : Int32).toInt64.toUInt64 &&& Int64.toUInt64 63)).toInt64 &&& 6148914691236517205)).toUInt64 >>> ((2 : Int32).toInt64.toUInt64 &&& Int64.toUInt64 63)).toInt64 &&& 3689348814741910323)).toUInt64 >>> ((4 : Int32).toInt64.toUInt64 &&& Int64.toUInt64 63)).toInt64) &&& 1085102592571150095) + ((((((x0 - ((x0.toUInt64 >>> ((1 : Int32).toInt64.toUInt64 &&& Int64.toUInt64 63)).toInt64 &&& 6148914691236517205)) &&& 3689348814741910323) + (((x0 - ((x0.toUInt64 >>> ((1 : Int32).toInt64.toUInt64 &&& Int64.toUInt64 63)).toInt64 &&& 6148914691236517205)).toUInt64 >>> ((2 : Int32).toInt64.toUInt64 &&& Int64.toUInt64 63)).toInt64 &&& 3689348814741910323)) + ((((x0 - ((x0.toUInt64 >>> ((1 : Int32).toInt64.toUInt64 &&& Int64.toUInt64 63)).toInt64 &&& 6148914691236517205)) &&& 3689348814741910323) + (((x0 - ((x0.toUInt64 >>> ((1 : Int32).toInt64.toUInt64 &&& Int64.toUInt64 63)).toInt64 &&& 6148914691236517205)).toUInt64 >>> ((2 : Int32).toInt64.toUInt64 &&& Int64.toUInt64 63)).toInt64 &&& 3689348814741910323)).toUInt64 >>> ((4 : Int32).toInt64.toUInt64 &&& Int64.toUInt64 63)).toInt64) &&& 1085102592571150095).toUInt64 >>> ((8 : Int32).toInt64.toUInt64 &&& Int64.toUInt64 63)).toInt64) + (((((((x0 - ((x0.toUInt64 >>> ((1 : Int32).toInt64.toUInt64 &&& Int64.toUInt64 63)).toInt64 &&& 6148914691236517205)) &&& 3689348814741910323) + (((x0 - ((x0.toUInt64 >>> ((1 : Int32).toInt64.toUInt64 &&& Int64.toUInt64 63)).toInt64 &&& 6148914691236517205)).toUInt64 >>> ((2 : Int32).toInt64.toUInt64 &&& Int64.toUInt64 63)).toInt64 &&& 3689348814741910323)) + ((((x0 - ((x0.toUInt64 >>> ((1 : Int32).toInt64.toUInt64 &&& Int64.toUInt64 63)).toInt64 &&& 6148914691236517205)) &&& 3689348814741910323) + (((x0 - ((x0.toUInt64 >>> ((1 : Int32).toInt64.toUInt64 &&& Int64.toUInt64 63)).toInt64 &&& 6148914691236517205)).toUInt64 >>> ((2 : Int32).toInt64.toUInt64 &&& Int64.toUInt64 63)).toInt64 &&& 3689348814741910323)).toUInt64 >>> ((4 : Int32).toInt64.toUInt64 &&& Int64.toUInt64 63)).toInt64) &&& 1085102592571150095) + ((((((x0 - ((x0.toUInt64 >>> ((1 : Int32).toInt64.toUInt64 &&& Int64.toUInt64 63)).toInt64 &&& 6148914691236517205)) &&& 3689348814741910323) + (((x0 - ((x0.toUInt64 >>> ((1 : Int32).toInt64.toUInt64 &&& Int64.toUInt64 63)).toInt64 &&& 6148914691236517205)).toUInt64 >>> ((2 : Int32).toInt64.toUInt64 &&& Int64.toUInt64 63)).toInt64 &&& 3689348814741910323)) + ((((x0 - ((x0.toUInt64 >>> ((1 : Int32).toInt64.toUInt64 &&& Int64.toUInt64 63)).toInt64 &&& 6148914691236517205)) &&& 3689348814741910323) + (((x0 - ((x0.toUInt64 >>> ((1 : Int32).toInt64.toUInt64 &&& Int64.toUInt64 63)).toInt64 &&& 6148914691236517205)).toUInt64 >>> ((2 : Int32).toInt64.toUInt64 &&& Int64.toUInt64 63)).toInt64 &&& 3689348814741910323)).toUInt64 >>> ((4 : Int32).toInt64.toUInt64 &&& Int64.toUInt64 63)).toInt64) &&& 1085102592571150095).toUInt64 >>> ((8 : Int32).toInt64.toUInt64 &&& Int64.toUInt64 63)).toInt64).toUInt64 >>> ((16 : Int32).toInt64.toUInt64 &&& Int64.toUInt64 63)).toInt64))]) hx hb d_JL_bitCount_47 rfl hl (by decide) rfl (fun ls hl => ?_)
  refine lv_lload_n hx hb d_JL_bitCount_48 rfl (lv_at hl 0 rfl) ?_
  refine lv_lload_n hx hb d_JL_bitCount_49 rfl (lv_at hl 0 rfl) ?_
  refine lv_bipush (v := 32) hx hb d_JL_bitCount_50 (by decide) ?_
  refine lv_lushr hx hb d_JL_bitCount_52 rfl ?_
  refine lv_ladd hx hb d_JL_bitCount_53 ?_
  refine lv_lstore_n (lv' := [(0, .long ((((((((x0 - ((x0.toUInt64 >>> ((1 : Int32).toInt64.toUInt64 &&& Int64.toUInt64 63)).toInt64 &&& 6148914691236517205)) &&& 3689348814741910323) + (((x0 - ((x0.toUInt64 >>> ((1 : Int32).toInt64.toUInt64 &&& Int64.toUInt64 63)).toInt64 &&& 6148914691236517205)).toUInt64 >>> ((2 : Int32).toInt64.toUInt64 &&& Int64.toUInt64 63)).toInt64 &&& 3689348814741910323)) + ((((x0 - ((x0.toUInt64 >>> ((1 : Int32).toInt64.toUInt64 &&& Int64.toUInt64 63)).toInt64 &&& 6148914691236517205)) &&& 3689348814741910323) + (((x0 - ((x0.toUInt64 >>> ((1 : Int32).toInt64.toUInt64 &&& Int64.toUInt64 63)).toInt64 &&& 6148914691236517205)).toUInt64 >>> ((2 : Int32).toInt64.toUInt64 &&& Int64.toUInt64 63)).toInt64 &&& 3689348814741910323)).toUInt64 >>> ((4 : Int32).toInt64.toUInt64 &&& Int64.toUInt64 63)).toInt64) &&& 1085102592571150095) + ((((((x0 - ((x0.toUInt64 >>> ((1 : Int32).toInt64.toUInt64 &&& Int64.toUInt64 63)).toInt64 &&& 6148914691236517205)) &&& 3689348814741910323) + (((x0 - ((x0.toUInt64 >>> ((1 : Int32).toInt64.toUInt64 &&& Int64.toUInt64 63)).toInt64 &&& 6148914691236517205)).toUInt64 >>> ((2 : Int32).toInt64.toUInt64 &&& Int64.toUInt64 63)).toInt64 &&& 3689348814741910323)) + ((((x0 - ((x0.toUInt64 >>> ((1 : Int32).toInt64.toUInt64 &&& Int64.toUInt64 63)).toInt64 &&& 6148914691236517205)) &&& 3689348814741910323) + (((x0 - ((x0.toUInt64 >>> ((1 : Int32).toInt64.toUInt64 &&& Int64.toUInt64 63)).toInt64 &&& 6148914691236517205)).toUInt64 >>> ((2 : Int32).toInt64.toUInt64 &&& Int64.toUInt64 63)).toInt64 &&& 3689348814741910323)).toUInt64 >>> ((4 : Int32).toInt64.toUInt64 &&& Int64.toUInt64 63)).toInt64) &&& 1085102592571150095).toUInt64 >>> ((8 : Int32).toInt64.toUInt64 &&& Int64.toUInt64 63)).toInt64) + (((((((x0 - ((x0.toUInt64 >>> ((1 : Int32).toInt64.toUInt64 &&& Int64.toUInt64 63)).toInt64 &&& 6148914691236517205)) &&& 3689348814741910323) + (((x0 - ((x0.toUInt64 >>> ((1 : Int32).toInt64.toUInt64 &&& Int64.toUInt64 63)).toInt64 &&& 6148914691236517205)).toUInt64 >>> ((2 : Int32).toInt64.toUInt64 &&& Int64.toUInt64 63)).toInt64 &&& 3689348814741910323)) + ((((x0 - ((x0.toUInt64 >>> ((1 : Int32).toInt64.toUInt64 &&& Int64.toUInt64 63)).toInt64 &&& 6148914691236517205)) &&& 3689348814741910323) + (((x0 - ((x0.toUInt64 >>> ((1 : Int32).toInt64.toUInt64 &&& Int64.toUInt64 63)).toInt64 &&& 6148914691236517205)).toUInt64 >>> ((2 : Int32).toInt64.toUInt64 &&& Int64.toUInt64 63)).toInt64 &&& 3689348814741910323)).toUInt64 >>> ((4 : Int32).toInt64.toUInt64 &&& Int64.toUInt64 63)).toInt64) &&& 1085102592571150095) + ((((((x0 - ((x0.toUInt64 >>> ((1 : Int32).toInt64.toUInt64 &&& Int64.toUInt64 63)).toInt64 &&& 6148914691236517205)) &&& 3689348814741910323) + (((x0 - ((x0.toUInt64 >>> ((1 : Int32).toInt64.toUInt64 &&& Int64.toUInt64 63)).toInt64 &&& 6148914691236517205)).toUInt64 >>> ((2 : Int32).toInt64.toUInt64 &&& Int64.toUInt64 63)).toInt64 &&& 3689348814741910323)) + ((((x0 - ((x0.toUInt64 >>> ((1 : Int32).toInt64.toUInt64 &&& Int64.toUInt64 63)).toInt64 &&& 6148914691236517205)) &&& 3689348814741910323) + (((x0 - ((x0.toUInt64 >>> ((1 : Int32).toInt64.toUInt64 &&& Int64.toUInt64 63)).toInt64 &&& 6148914691236517205)).toUInt64 >>> ((2 : Int32).toInt64.toUInt64 &&& Int64.toUInt64 63)).toInt64 &&& 3689348814741910323)).toUInt64 >>> ((4 : Int32).toInt64.toUInt64 &&& Int64.toUInt64 63)).toInt64) &&& 1085102592571150095).toUInt64 >>> ((8 : Int32).toInt64.toUInt64 &&& Int64.toUInt64 63)).toInt64).toUInt64 >>> ((16 : Int32).toInt64.toUInt64 &&& Int64.toUInt64 63)).toInt64) + ((((((((x0 - ((x0.toUInt64 >>> ((1 : Int32).toInt64.toUInt64 &&& Int64.toUInt64 63)).toInt64 &&& 6148914691236517205)) &&& 3689348814741910323) + (((x0 - ((x0.toUInt64 >>> ((1 : Int32).toInt64.toUInt64 &&& Int64.toUInt64 63)).toInt64 &&& 6148914691236517205)).toUInt64 >>> ((2 : Int32).toInt64.toUInt64 &&& Int64.toUInt64 63)).toInt64 &&& 3689348814741910323)) + ((((x0 - ((x0.toUInt64 >>> ((1 : Int32).toInt64.toUInt64 &&& Int64.toUInt64 63)).toInt64 &&& 6148914691236517205)) &&& 3689348814741910323) + (((x0 - ((x0.toUInt64 >>> ((1 : Int32).toInt64.toUInt64 &&& Int64.toUInt64 63)).toInt64 &&& 6148914691236517205)).toUInt64 >>> ((2 : Int32).toInt64.toUInt64 &&& Int64.toUInt64 63)).toInt64 &&& 3689348814741910323)).toUInt64 >>> ((4 : Int32).toInt64.toUInt64 &&& Int64.toUInt64 63)).toInt64) &&& 1085102592571150095) + ((((((x0 - ((x0.toUInt64 >>> ((1 : Int32).toInt64.toUInt64 &&& Int64.toUInt64 63)).toInt64 &&& 6148914691236517205)) &&& 3689348814741910323) + (((x0 - ((x0.toUInt64 >>> ((1 : Int32).toInt64.toUInt64 &&& Int64.toUInt64 63)).toInt64 &&& 6148914691236517205)).toUInt64 >>> ((2 : Int32).toInt64.toUInt64 &&& Int64.toUInt64 63)).toInt64 &&& 3689348814741910323)) + ((((x0 - ((x0.toUInt64 >>> ((1 : Int32).toInt64.toUInt64 &&& Int64.toUInt64 63)).toInt64 &&& 6148914691236517205)) &&& 3689348814741910323) + (((x0 - ((x0.toUInt64 >>> ((1 : Int32).toInt64.toUInt64 &&& Int64.toUInt64 63)).toInt64 &&& 6148914691236517205)).toUInt64 >>> ((2 : Int32).toInt64.toUInt64 &&& Int64.toUInt64 63)).toInt64 &&& 3689348814741910323)).toUInt64 >>> ((4 : Int32).toInt64.toUInt64 &&& Int64.toUInt64 63)).toInt64) &&& 1085102592571150095).toUInt64 >>> ((8 : Int32).toInt64.toUInt64 &&& Int64.toUInt64 63)).toInt64) + (((((((x0 - ((x0.toUInt64 >>> ((1 : Int32).toInt64.toUInt64 &&& Int64.toUInt64 63)).toInt64 &&& 6148914691236517205)) &&& 3689348814741910323) + (((x0 - ((x0.toUInt64 >>> ((1 : Int32).toInt64.toUInt64 &&& Int64.toUInt64 63)).toInt64 &&& 6148914691236517205)).toUInt64 >>> ((2 : Int32).toInt64.toUInt64 &&& Int64.toUInt64 63)).toInt64 &&& 3689348814741910323)) + ((((x0 - ((x0.toUInt64 >>> ((1 : Int32).toInt64.toUInt64 &&& Int64.toUInt64 63)).toInt64 &&& 6148914691236517205)) &&& 3689348814741910323) + (((x0 - ((x0.toUInt64 >>> ((1 : Int32).toInt64.toUInt64 &&& Int64.toUInt64 63)).toInt64 &&& 6148914691236517205)).toUInt64 >>> ((2 : Int32).toInt64.toUInt64 &&& Int64.toUInt64 63)).toInt64 &&& 3689348814741910323)).toUInt64 >>> ((4 : Int32).toInt64.toUInt64 &&& Int64.toUInt64 63)).toInt64) &&& 1085102592571150095) + ((((((x0 - ((x0.toUInt64 >>> ((1 : Int32).toInt64.toUInt64 &&& Int64.toUInt64 63)).toInt64 &&& 6148914691236517205)) &&& 3689348814741910323) + (((x0 - ((x0.toUInt64 >>> ((1 : Int32).toInt64.toUInt64 &&& Int64.toUInt64 63)).toInt64 &&& 6148914691236517205)).toUInt64 >>> ((2 : Int32).toInt64.toUInt64 &&& Int64.toUInt64 63)).toInt64 &&& 3689348814741910323)) + ((((x0 - ((x0.toUInt64 >>> ((1 : Int32).toInt64.toUInt64 &&& Int64.toUInt64 63)).toInt64 &&& 6148914691236517205)) &&& 3689348814741910323) + (((x0 - ((x0.toUInt64 >>> ((1 : Int32).toInt64.toUInt64 &&& Int64.toUInt64 63)).toInt64 &&& 6148914691236517205)).toUInt64 >>> ((2 : Int32).toInt64.toUInt64 &&& Int64.toUInt64 63)).toInt64 &&& 3689348814741910323)).toUInt64 >>> ((4 : Int32).toInt64.toUInt64 &&& Int64.toUInt64 63)).toInt64) &&& 1085102592571150095).toUInt64 >>> ((8 : Int32).toInt64.toUInt64 &&& Int64.toUInt64 63)).toInt64).toUInt64 >>> ((16 : Int32).toInt64.toUInt64 &&& Int64.toUInt64 63)).toInt64).toUInt64 >>> ((32 : Int32).toInt64.toUInt64 &&& Int64.toUInt64 63)).toInt64))]) hx hb d_JL_bitCount_54 rfl hl (by decide) rfl (fun ls hl => ?_)
  refine lv_lload_n hx hb d_JL_bitCount_55 rfl (lv_at hl 0 rfl) ?_
  refine lv_l2i hx hb d_JL_bitCount_56 rfl ?_
  refine lv_bipush (v := 127) hx hb d_JL_bitCount_57 (by decide) ?_
  refine lv_iand hx hb d_JL_bitCount_59 ?_
  subst hf
  exact hq _ _ _ _ d_JL_bitCount_60 hP hS
theorem c_JL_bitCount (l : Launch) (D : va_G) (adr : Nat → Nat) (cA : Nat → ClassId) (μ ν : Mem) (x0 : Int64)  : Met l y_JL_bitCount (Cond.code y_JL_bitCount prog_8_method_50_code 2 (Option.some Jvm.ClassFile.FieldType.int) :: lw_ok) rm_JL_bitCount (va_Pc [.long x0] (Wd D adr cA μ ν)) (QI D adr cA (f_JL_bitCount x0) μ ν) 0 0 (AA adr) :=
  met_of (own := "java/lang/Long") rfl rfl (Nat.le_of_ble_eq_true rfl) (fun p e s m below meth c C hG hP hS ls hl => w_JL_bitCount x0  C hG rfl (fun pc ls H locs hd hP hS => ret_i C.1 C.2.1 C.2.2.2.2.2.1 C.2.2.2.2.2.2 hG hd hP hS) hP hS hl)
end X_JL_bitCount
section X_LR_lake
variable {p : Program} {l : Launch} {e : Env} {s : State} {m : MethodId} {args : Array Value} {below : List Frame} {meth : Method} {c : Code} {Q : State → Prop}
variable {D : va_G} {adr : Nat → Nat} {cA : Nat → ClassId} {μ ν : Mem}
theorem d_LR_lake_0 : decode prog_1_method_9_code 0 = .ok (.aload_n 0, 1) := by decide +kernel
theorem d_LR_lake_1 : decode prog_1_method_9_code 1 = .ok (.getfield 32, 3) := by decide +kernel
theorem d_LR_lake_4 : decode prog_1_method_9_code 4 = .ok (.ifCond .ne 6, 3) := by decide +kernel
theorem d_LR_lake_7 : decode prog_1_method_9_code 7 = .ok (.ldc 89, 2) := by decide +kernel
theorem d_LR_lake_9 : decode prog_1_method_9_code 9 = .ok (.ireturn, 1) := by decide +kernel
theorem d_LR_lake_10 : decode prog_1_method_9_code 10 = .ok (.aload_n 0, 1) := by decide +kernel
theorem d_LR_lake_11 : decode prog_1_method_9_code 11 = .ok (.getfield 28, 3) := by decide +kernel
theorem d_LR_lake_14 : decode prog_1_method_9_code 14 = .ok (.iload_n 1, 1) := by decide +kernel
theorem d_LR_lake_15 : decode prog_1_method_9_code 15 = .ok (.invokevirtual 116, 3) := by decide +kernel
theorem d_LR_lake_18 : decode prog_1_method_9_code 18 = .ok (.ifCond .eq 13, 3) := by decide +kernel
theorem d_LR_lake_21 : decode prog_1_method_9_code 21 = .ok (.iload_n 2, 1) := by decide +kernel
theorem d_LR_lake_22 : decode prog_1_method_9_code 22 = .ok (.ifCond .lt 9, 3) := by decide +kernel
theorem d_LR_lake_25 : decode prog_1_method_9_code 25 = .ok (.iload_n 2, 1) := by decide +kernel
theorem d_LR_lake_26 : decode prog_1_method_9_code 26 = .ok (.bipush 9, 2) := by decide +kernel
theorem d_LR_lake_28 : decode prog_1_method_9_code 28 = .ok (.if_icmp .le 6, 3) := by decide +kernel
theorem d_LR_lake_31 : decode prog_1_method_9_code 31 = .ok (.ldc 93, 2) := by decide +kernel
theorem d_LR_lake_33 : decode prog_1_method_9_code 33 = .ok (.ireturn, 1) := by decide +kernel
theorem d_LR_lake_34 : decode prog_1_method_9_code 34 = .ok (.aload_n 0, 1) := by decide +kernel
theorem d_LR_lake_35 : decode prog_1_method_9_code 35 = .ok (.getfield 28, 3) := by decide +kernel
theorem d_LR_lake_38 : decode prog_1_method_9_code 38 = .ok (.getfield 119, 3) := by decide +kernel
theorem d_LR_lake_41 : decode prog_1_method_9_code 41 = .ok (.iload_n 1, 1) := by decide +kernel
theorem d_LR_lake_42 : decode prog_1_method_9_code 42 = .ok (.aaload, 1) := by decide +kernel
theorem d_LR_lake_43 : decode prog_1_method_9_code 43 = .ok (.astore_n 3, 1) := by decide +kernel
theorem d_LR_lake_44 : decode prog_1_method_9_code 44 = .ok (.iload_n 2, 1) := by decide +kernel
theorem d_LR_lake_45 : decode prog_1_method_9_code 45 = .ok (.tableswitch 122 0 8 #[51, 64, 76, 81, 86, 91, 96, 104, 109], 51) := by decide +kernel
theorem d_LR_lake_96 : decode prog_1_method_9_code 96 = .ok (.aload_n 3, 1) := by decide +kernel
theorem d_LR_lake_97 : decode prog_1_method_9_code 97 = .ok (.invokevirtual 123, 3) := by decide +kernel
theorem d_LR_lake_100 : decode prog_1_method_9_code 100 = .ok (.ifCond .eq 7, 3) := by decide +kernel
theorem d_LR_lake_103 : decode prog_1_method_9_code 103 = .ok (.iconst 1, 1) := by decide +kernel
theorem d_LR_lake_104 : decode prog_1_method_9_code 104 = .ok (.goto 4, 3) := by decide +kernel
theorem d_LR_lake_107 : decode prog_1_method_9_code 107 = .ok (.iconst 0, 1) := by decide +kernel
theorem d_LR_lake_108 : decode prog_1_method_9_code 108 = .ok (.ireturn, 1) := by decide +kernel
theorem d_LR_lake_109 : decode prog_1_method_9_code 109 = .ok (.aload_n 0, 1) := by decide +kernel
theorem d_LR_lake_110 : decode prog_1_method_9_code 110 = .ok (.getfield 19, 3) := by decide +kernel
theorem d_LR_lake_113 : decode prog_1_method_9_code 113 = .ok (.aload_n 3, 1) := by decide +kernel
theorem d_LR_lake_114 : decode prog_1_method_9_code 114 = .ok (.getfield 129, 3) := by decide +kernel
theorem d_LR_lake_117 : decode prog_1_method_9_code 117 = .ok (.invokevirtual 133, 3) := by decide +kernel
theorem d_LR_lake_120 : decode prog_1_method_9_code 120 = .ok (.ireturn, 1) := by decide +kernel
theorem d_LR_lake_121 : decode prog_1_method_9_code 121 = .ok (.aload_n 3, 1) := by decide +kernel
theorem d_LR_lake_122 : decode prog_1_method_9_code 122 = .ok (.getfield 137, 3) := by decide +kernel
theorem d_LR_lake_125 : decode prog_1_method_9_code 125 = .ok (.ireturn, 1) := by decide +kernel
theorem d_LR_lake_126 : decode prog_1_method_9_code 126 = .ok (.aload_n 3, 1) := by decide +kernel
theorem d_LR_lake_127 : decode prog_1_method_9_code 127 = .ok (.getfield 140, 3) := by decide +kernel
theorem d_LR_lake_130 : decode prog_1_method_9_code 130 = .ok (.ireturn, 1) := by decide +kernel
theorem d_LR_lake_131 : decode prog_1_method_9_code 131 = .ok (.aload_n 3, 1) := by decide +kernel
theorem d_LR_lake_132 : decode prog_1_method_9_code 132 = .ok (.getfield 143, 3) := by decide +kernel
theorem d_LR_lake_135 : decode prog_1_method_9_code 135 = .ok (.ireturn, 1) := by decide +kernel
theorem d_LR_lake_136 : decode prog_1_method_9_code 136 = .ok (.aload_n 3, 1) := by decide +kernel
theorem d_LR_lake_137 : decode prog_1_method_9_code 137 = .ok (.getfield 146, 3) := by decide +kernel
theorem d_LR_lake_140 : decode prog_1_method_9_code 140 = .ok (.ireturn, 1) := by decide +kernel
theorem d_LR_lake_141 : decode prog_1_method_9_code 141 = .ok (.aload_n 3, 1) := by decide +kernel
theorem d_LR_lake_142 : decode prog_1_method_9_code 142 = .ok (.getfield 129, 3) := by decide +kernel
theorem d_LR_lake_145 : decode prog_1_method_9_code 145 = .ok (.invokestatic 149, 3) := by decide +kernel
theorem d_LR_lake_148 : decode prog_1_method_9_code 148 = .ok (.ireturn, 1) := by decide +kernel
theorem d_LR_lake_149 : decode prog_1_method_9_code 149 = .ok (.aload_n 3, 1) := by decide +kernel
theorem d_LR_lake_150 : decode prog_1_method_9_code 150 = .ok (.getfield 154, 3) := by decide +kernel
theorem d_LR_lake_153 : decode prog_1_method_9_code 153 = .ok (.ireturn, 1) := by decide +kernel
theorem d_LR_lake_154 : decode prog_1_method_9_code 154 = .ok (.aload_n 3, 1) := by decide +kernel
theorem d_LR_lake_155 : decode prog_1_method_9_code 155 = .ok (.getfield 157, 3) := by decide +kernel
theorem d_LR_lake_158 : decode prog_1_method_9_code 158 = .ok (.ifCond .eq 7, 3) := by decide +kernel
theorem d_LR_lake_161 : decode prog_1_method_9_code 161 = .ok (.iconst 1, 1) := by decide +kernel
theorem d_LR_lake_162 : decode prog_1_method_9_code 162 = .ok (.goto 4, 3) := by decide +kernel
theorem d_LR_lake_165 : decode prog_1_method_9_code 165 = .ok (.iconst 0, 1) := by decide +kernel
theorem d_LR_lake_166 : decode prog_1_method_9_code 166 = .ok (.ireturn, 1) := by decide +kernel
theorem d_LR_lake_167 : decode prog_1_method_9_code 167 = .ok (.aload_n 3, 1) := by decide +kernel
theorem d_LR_lake_168 : decode prog_1_method_9_code 168 = .ok (.getfield 157, 3) := by decide +kernel
theorem d_LR_lake_171 : decode prog_1_method_9_code 171 = .ok (.ifCond .eq 10, 3) := by decide +kernel
theorem d_LR_lake_174 : decode prog_1_method_9_code 174 = .ok (.aload_n 3, 1) := by decide +kernel
theorem d_LR_lake_175 : decode prog_1_method_9_code 175 = .ok (.getfield 160, 3) := by decide +kernel
theorem d_LR_lake_178 : decode prog_1_method_9_code 178 = .ok (.goto 4, 3) := by decide +kernel
theorem d_LR_lake_181 : decode prog_1_method_9_code 181 = .ok (.iconst 0, 1) := by decide +kernel
theorem d_LR_lake_182 : decode prog_1_method_9_code 182 = .ok (.ireturn, 1) := by decide +kernel
set_option maxHeartbeats 4000000 in
set_option maxRecDepth 100000 in
theorem w_LR_lake (x1 : Int32) (x2 : Int32)  (C : Cx prog_1_method_9_code 4 "LakeRelief" (Option.some Jvm.ClassFile.FieldType.int) p s m args meth c) (hG : Geo D adr cA s) {res : Int32} (hf : f_LR_lake μ x1 x2 = some res) (hq : ∀ (pc : Nat) (ls : Array Slot) (H : Heap) (locs : List Loc), decode prog_1_method_9_code pc = .ok (.ireturn, 1) → va_P D cls (wld adr cA μ ν) H → va_S (AA adr) s.heap H locs → W p l e rm_LR_lake s m args below meth c H locs 0 0 Q (F0 m pc ls [.int res])) {H : Heap} {locs : List Loc} {ls : Array Slot} (hP : va_P D cls (wld adr cA μ ν) H) (hS : va_S (AA adr) s.heap H locs) (hl : lv_has ls 4 [(0, .ref (adr 0)), (1, .int x1), (2, .int x2)]) : W p l e rm_LR_lake s m args below meth c H locs 0 0 Q (F0 m 0 ls []) := by
  obtain ⟨hx, hb, hml, hown, hts, hr, hlocks⟩ := id C
  unfold f_LR_lake at hf
  refine lv_aload_n hx hb d_LR_lake_0 rfl (lv_at hl 0 rfl) ?_
  refine g_LR_isLaid hx hb hts hown hG hP (hts _ in_178) d_LR_lake_1 ?_
  refine lv_if_ne (tgt := 10) hx hb d_LR_lake_4 (by decide) (fun hc => ?_) (fun hc => ?_)
  · replace hf := if_n hc hf
    refine lv_aload_n hx hb d_LR_lake_10 rfl (lv_at hl 0 rfl) ?_
    refine g_LR_lakes hx hb hts hown hG hP (hts _ in_177) d_LR_lake_11 ?_
    refine lv_iload_n hx hb d_LR_lake_14 rfl (lv_at hl 1 rfl) ?_
    refine ki (kv (As := [.int x1]) (rest := []) ⟨hx, hb, hml, hown, hts⟩ (cw_LR_116 hts ⟨Nat.le_of_ble_eq_true rfl, Nat.le_of_ble_eq_true rfl⟩) (c_LK_isLake l D adr cA μ ν x1) hG hP (rc_o (q := 26) (ci := 1) hG hP (by decide) (wc_C (by decide) rfl) rfl) rfl hl.1 (Nat.le_of_ble_eq_true rfl) d_LR_lake_15) hS (fun H locs hP hS => ?_)
    refine lv_if_eq (tgt := 31) hx hb d_LR_lake_18 (by decide) (fun hc => ?_) (fun hc => ?_)
    · replace hf := if_p hc hf
      refine lv_ldc (v := (-2000001)) hx hb hown (hts _ in_403) d_LR_lake_31 ?_
      obtain rfl := Option.some.inj hf
      exact hq _ _ _ _ d_LR_lake_33 hP hS
    · replace hf := if_n hc hf
      refine lv_iload_n hx hb d_LR_lake_21 rfl (lv_at hl 2 rfl) ?_
      refine lv_if_lt (tgt := 31) hx hb d_LR_lake_22 (by decide) (fun hc => ?_) (fun hc => ?_)
      · replace hf := if_p hc hf
        refine lv_ldc (v := (-2000001)) hx hb hown (hts _ in_403) d_LR_lake_31 ?_
        obtain rfl := Option.some.inj hf
        exact hq _ _ _ _ d_LR_lake_33 hP hS
      · replace hf := if_n hc hf
        refine lv_iload_n hx hb d_LR_lake_25 rfl (lv_at hl 2 rfl) ?_
        refine lv_bipush (v := 9) hx hb d_LR_lake_26 (by decide) ?_
        refine lv_icmp_le (tgt := 34) hx hb d_LR_lake_28 (by decide) (fun hc => ?_) (fun hc => ?_)
        · replace hf := if_p hc hf
          refine lv_aload_n hx hb d_LR_lake_34 rfl (lv_at hl 0 rfl) ?_
          refine g_LR_lakes hx hb hts hown hG hP (hts _ in_177) d_LR_lake_35 ?_
          refine g_LK_all hx hb hts hown hG hP (hts _ in_153) d_LR_lake_38 ?_
          refine lv_iload_n hx hb d_LR_lake_41 rfl (lv_at hl 1 rfl) ?_
          replace hf := G_some hf
          obtain ⟨hi1, hf⟩ := hf
          refine r_aLA hx hb hG hP hi1 d_LR_lake_42 ?_
          refine lv_astore_n (lv' := [(3, .ref (adr (28 + x1.toNatClampNeg))), (0, .ref (adr 0)), (1, .int x1), (2, .int x2)]) hx hb d_LR_lake_43 rfl hl (by decide) rfl (fun ls hl => ?_)
          refine lv_iload_n hx hb d_LR_lake_44 rfl (lv_at hl 3 rfl) ?_
          by_cases hc0 : x2 = 0
          · replace hf := if_p hc0 hf
            refine lv_tableIn (tgt := 96) (off := 51) hx hb d_LR_lake_45 (by rw [hc0]; decide) (by rw [hc0]; decide) (by rw [hc0]; rfl) (by decide) ?_
            refine lv_aload_n hx hb d_LR_lake_96 rfl (lv_at hl 0 rfl) ?_
            refine ki (kv (As := []) (rest := []) ⟨hx, hb, hml, hown, hts⟩ (cw_LR_123 hts ⟨Nat.le_of_ble_eq_true rfl, Nat.le_of_ble_eq_true rfl⟩) (c_LA_isDouble l D adr cA μ ν x1.toNatClampNeg (vin_lt hi1)) hG hP (rc_o (q := (28 + x1.toNatClampNeg)) (ci := 0) hG hP (by have := (vin_lt hi1); omega) (wc_C (by have := (vin_lt hi1); omega) (sh_LA)) rfl) rfl hl.1 (Nat.le_of_ble_eq_true rfl) d_LR_lake_97) hS (fun H locs hP hS => ?_)
            refine lv_if_eq (tgt := 107) hx hb d_LR_lake_100 (by decide) (fun hc => ?_) (fun hc => ?_)
            · replace hf := if_p hc hf
              refine lv_iconst (v := 0) hx hb d_LR_lake_107 (by decide) ?_
              obtain rfl := Option.some.inj hf
              exact hq _ _ _ _ d_LR_lake_108 hP hS
            · replace hf := if_n hc hf
              refine lv_iconst (v := 1) hx hb d_LR_lake_103 (by decide) ?_
              refine lv_goto (tgt := 108) hx hb d_LR_lake_104 (by decide) ?_
              obtain rfl := Option.some.inj hf
              exact hq _ _ _ _ d_LR_lake_108 hP hS
          replace hf := if_n hc0 hf
          by_cases hc1 : x2 = 1
          · replace hf := if_p hc1 hf
            refine lv_tableIn (tgt := 109) (off := 64) hx hb d_LR_lake_45 (by rw [hc1]; decide) (by rw [hc1]; decide) (by rw [hc1]; rfl) (by decide) ?_
            refine lv_aload_n hx hb d_LR_lake_109 rfl (lv_at hl 1 rfl) ?_
            refine g_LR_relief hx hb hts hown hG hP (hts _ in_176) d_LR_lake_110 ?_
            refine lv_aload_n hx hb d_LR_lake_113 rfl (lv_at hl 0 rfl) ?_
            refine g_LA_fields hx hb hts hown hG hP (vin_lt hi1) (hts _ in_113) d_LR_lake_114 ?_
            replace hf := B_some hf
            obtain ⟨v2, hv2, hf⟩ := hf
            refine ki (kv (As := [.long (μ.2 (28 + x1.toNatClampNeg) 0)]) (rest := []) ⟨hx, hb, hml, hown, hts⟩ (cw_LR_133 hts ⟨Nat.le_of_ble_eq_true rfl, Nat.le_of_ble_eq_true rfl⟩) (c_RE_lowestOf l D adr cA μ ν (μ.2 (28 + x1.toNatClampNeg) 0) hv2) hG hP (rc_o (q := 18) (ci := 2) hG hP (by decide) (wc_C (by decide) rfl) rfl) rfl hl.1 (Nat.le_of_ble_eq_true rfl) d_LR_lake_117) hS (fun H locs hP hS => ?_)
            obtain rfl := Option.some.inj hf
            exact hq _ _ _ _ d_LR_lake_120 hP hS
          replace hf := if_n hc1 hf
          by_cases hc2 : x2 = 2
          · replace hf := if_p hc2 hf
            refine lv_tableIn (tgt := 121) (off := 76) hx hb d_LR_lake_45 (by rw [hc2]; decide) (by rw [hc2]; decide) (by rw [hc2]; rfl) (by decide) ?_
            refine lv_aload_n hx hb d_LR_lake_121 rfl (lv_at hl 0 rfl) ?_
            refine g_LA_rim hx hb hts hown hG hP (vin_lt hi1) (hts _ in_116) d_LR_lake_122 ?_
            obtain rfl := Option.some.inj hf
            exact hq _ _ _ _ d_LR_lake_125 hP hS
          replace hf := if_n hc2 hf
          by_cases hc3 : x2 = 3
          · replace hf := if_p hc3 hf
            refine lv_tableIn (tgt := 126) (off := 81) hx hb d_LR_lake_45 (by rw [hc3]; decide) (by rw [hc3]; decide) (by rw [hc3]; rfl) (by decide) ?_
            refine lv_aload_n hx hb d_LR_lake_126 rfl (lv_at hl 0 rfl) ?_
            refine g_LA_whole hx hb hts hown hG hP (vin_lt hi1) (hts _ in_119) d_LR_lake_127 ?_
            obtain rfl := Option.some.inj hf
            exact hq _ _ _ _ d_LR_lake_130 hP hS
          replace hf := if_n hc3 hf
          by_cases hc4 : x2 = 4
          · replace hf := if_p hc4 hf
            refine lv_tableIn (tgt := 131) (off := 86) hx hb d_LR_lake_45 (by rw [hc4]; decide) (by rw [hc4]; decide) (by rw [hc4]; rfl) (by decide) ?_
            refine lv_aload_n hx hb d_LR_lake_131 rfl (lv_at hl 0 rfl) ?_
            refine g_LA_lesserPart hx hb hts hown hG hP (vin_lt hi1) (hts _ in_121) d_LR_lake_132 ?_
            obtain rfl := Option.some.inj hf
            exact hq _ _ _ _ d_LR_lake_135 hP hS
          replace hf := if_n hc4 hf
          by_cases hc5 : x2 = 5
          · replace hf := if_p hc5 hf
            refine lv_tableIn (tgt := 136) (off := 91) hx hb d_LR_lake_45 (by rw [hc5]; decide) (by rw [hc5]; decide) (by rw [hc5]; rfl) (by decide) ?_
            refine lv_aload_n hx hb d_LR_lake_136 rfl (lv_at hl 0 rfl) ?_
            refine g_LA_greaterPart hx hb hts hown hG hP (vin_lt hi1) (hts _ in_124) d_LR_lake_137 ?_
            obtain rfl := Option.some.inj hf
            exact hq _ _ _ _ d_LR_lake_140 hP hS
          replace hf := if_n hc5 hf
          by_cases hc6 : x2 = 6
          · replace hf := if_p hc6 hf
            refine lv_tableIn (tgt := 141) (off := 96) hx hb d_LR_lake_45 (by rw [hc6]; decide) (by rw [hc6]; decide) (by rw [hc6]; rfl) (by decide) ?_
            refine lv_aload_n hx hb d_LR_lake_141 rfl (lv_at hl 0 rfl) ?_
            refine g_LA_fields hx hb hts hown hG hP (vin_lt hi1) (hts _ in_113) d_LR_lake_142 ?_
            refine ki (ks (As := [.long (μ.2 (28 + x1.toNatClampNeg) 0)]) (rest := []) ⟨hx, hb, hml, hown, hts⟩ (cw_LR_149 hts ⟨Nat.le_of_ble_eq_true rfl, Nat.le_of_ble_eq_true rfl⟩) (c_JL_bitCount l D adr cA μ ν (μ.2 (28 + x1.toNatClampNeg) 0)) hG hP rfl hl.1 (Nat.le_of_ble_eq_true rfl) d_LR_lake_145) hS (fun H locs hP hS => ?_)
            obtain rfl := Option.some.inj hf
            exact hq _ _ _ _ d_LR_lake_148 hP hS
          replace hf := if_n hc6 hf
          by_cases hc7 : x2 = 7
          · replace hf := if_p hc7 hf
            refine lv_tableIn (tgt := 149) (off := 104) hx hb d_LR_lake_45 (by rw [hc7]; decide) (by rw [hc7]; decide) (by rw [hc7]; rfl) (by decide) ?_
            refine lv_aload_n hx hb d_LR_lake_149 rfl (lv_at hl 0 rfl) ?_
            refine g_LA_most hx hb hts hown hG hP (vin_lt hi1) (hts _ in_128) d_LR_lake_150 ?_
            obtain rfl := Option.some.inj hf
            exact hq _ _ _ _ d_LR_lake_153 hP hS
          replace hf := if_n hc7 hf
          by_cases hc8 : x2 = 8
          · replace hf := if_p hc8 hf
            refine lv_tableIn (tgt := 154) (off := 109) hx hb d_LR_lake_45 (by rw [hc8]; decide) (by rw [hc8]; decide) (by rw [hc8]; rfl) (by decide) ?_
            refine lv_aload_n hx hb d_LR_lake_154 rfl (lv_at hl 0 rfl) ?_
            refine g_LA_isThere hx hb hts hown hG hP (vin_lt hi1) (hts _ in_130) d_LR_lake_155 ?_
            refine lv_if_eq (tgt := 165) hx hb d_LR_lake_158 (by decide) (fun hc => ?_) (fun hc => ?_)
            · replace hf := if_p hc hf
              refine lv_iconst (v := 0) hx hb d_LR_lake_165 (by decide) ?_
              obtain rfl := Option.some.inj hf
              exact hq _ _ _ _ d_LR_lake_166 hP hS
            · replace hf := if_n hc hf
              refine lv_iconst (v := 1) hx hb d_LR_lake_161 (by decide) ?_
              refine lv_goto (tgt := 166) hx hb d_LR_lake_162 (by decide) ?_
              obtain rfl := Option.some.inj hf
              exact hq _ _ _ _ d_LR_lake_166 hP hS
          replace hf := if_n hc8 hf
          refine lv_tableOut (tgt := 167) hx hb d_LR_lake_45 (by have hn0 := sw_ne (k := 0) hc0 (by decide) (by decide); have hn1 := sw_ne (k := 1) hc1 (by decide) (by decide); have hn2 := sw_ne (k := 2) hc2 (by decide) (by decide); have hn3 := sw_ne (k := 3) hc3 (by decide) (by decide); have hn4 := sw_ne (k := 4) hc4 (by decide) (by decide); have hn5 := sw_ne (k := 5) hc5 (by decide) (by decide); have hn6 := sw_ne (k := 6) hc6 (by decide) (by decide); have hn7 := sw_ne (k := 7) hc7 (by decide) (by decide); have hn8 := sw_ne (k := 8) hc8 (by decide) (by decide); omega) (by decide) ?_
          refine lv_aload_n hx hb d_LR_lake_167 rfl (lv_at hl 0 rfl) ?_
          refine g_LA_isThere hx hb hts hown hG hP (vin_lt hi1) (hts _ in_130) d_LR_lake_168 ?_
          refine lv_if_eq (tgt := 181) hx hb d_LR_lake_171 (by decide) (fun hc => ?_) (fun hc => ?_)
          · replace hf := if_p hc hf
            refine lv_iconst (v := 0) hx hb d_LR_lake_181 (by decide) ?_
            obtain rfl := Option.some.inj hf
            exact hq _ _ _ _ d_LR_lake_182 hP hS
          · replace hf := if_n hc hf
            refine lv_aload_n hx hb d_LR_lake_174 rfl (lv_at hl 0 rfl) ?_
            refine g_LA_water hx hb hts hown hG hP (vin_lt hi1) (hts _ in_133) d_LR_lake_175 ?_
            refine lv_goto (tgt := 182) hx hb d_LR_lake_178 (by decide) ?_
            obtain rfl := Option.some.inj hf
            exact hq _ _ _ _ d_LR_lake_182 hP hS
        · replace hf := if_n hc hf
          refine lv_ldc (v := (-2000001)) hx hb hown (hts _ in_403) d_LR_lake_31 ?_
          obtain rfl := Option.some.inj hf
          exact hq _ _ _ _ d_LR_lake_33 hP hS
  · replace hf := if_p hc hf
    refine lv_ldc (v := (-2000002)) hx hb hown (hts _ in_401) d_LR_lake_7 ?_
    obtain rfl := Option.some.inj hf
    exact hq _ _ _ _ d_LR_lake_9 hP hS
theorem c_LR_lake (l : Launch) (D : va_G) (adr : Nat → Nat) (cA : Nat → ClassId) (μ ν : Mem) (x1 : Int32) (x2 : Int32)  {res : Int32} (hf : f_LR_lake μ x1 x2 = some res) : Met l y_LR_lake (Cond.code y_LR_lake prog_1_method_9_code 4 (Option.some Jvm.ClassFile.FieldType.int) :: lw_ok) rm_LR_lake (va_Pc [.ref (adr 0), .int x1, .int x2] (Wd D adr cA μ ν)) (QI D adr cA res μ ν) 0 0 (AA adr) :=
  met_of (own := "LakeRelief") rfl rfl (Nat.le_of_ble_eq_true rfl) (fun p e s m below meth c C hG hP hS ls hl => w_LR_lake x1 x2  C hG hf (fun pc ls H locs hd hP hS => ret_i C.1 C.2.1 C.2.2.2.2.2.1 C.2.2.2.2.2.2 hG hd hP hS) hP hS hl)
end X_LR_lake
section X_LR_ground
variable {p : Program} {l : Launch} {e : Env} {s : State} {m : MethodId} {args : Array Value} {below : List Frame} {meth : Method} {c : Code} {Q : State → Prop}
variable {D : va_G} {adr : Nat → Nat} {cA : Nat → ClassId} {μ ν : Mem}
theorem d_LR_ground_0 : decode prog_1_method_10_code 0 = .ok (.aload_n 0, 1) := by decide +kernel
theorem d_LR_ground_1 : decode prog_1_method_10_code 1 = .ok (.getfield 32, 3) := by decide +kernel
theorem d_LR_ground_4 : decode prog_1_method_10_code 4 = .ok (.ifCond .ne 6, 3) := by decide +kernel
theorem d_LR_ground_7 : decode prog_1_method_10_code 7 = .ok (.bipush (-2), 2) := by decide +kernel
theorem d_LR_ground_9 : decode prog_1_method_10_code 9 = .ok (.ireturn, 1) := by decide +kernel
theorem d_LR_ground_10 : decode prog_1_method_10_code 10 = .ok (.aload_n 0, 1) := by decide +kernel
theorem d_LR_ground_11 : decode prog_1_method_10_code 11 = .ok (.getfield 28, 3) := by decide +kernel
theorem d_LR_ground_14 : decode prog_1_method_10_code 14 = .ok (.iload_n 1, 1) := by decide +kernel
theorem d_LR_ground_15 : decode prog_1_method_10_code 15 = .ok (.invokevirtual 116, 3) := by decide +kernel
theorem d_LR_ground_18 : decode prog_1_method_10_code 18 = .ok (.ifCond .eq 14, 3) := by decide +kernel
theorem d_LR_ground_21 : decode prog_1_method_10_code 21 = .ok (.aload_n 0, 1) := by decide +kernel
theorem d_LR_ground_22 : decode prog_1_method_10_code 22 = .ok (.getfield 19, 3) := by decide +kernel
theorem d_LR_ground_25 : decode prog_1_method_10_code 25 = .ok (.iload_n 2, 1) := by decide +kernel
theorem d_LR_ground_26 : decode prog_1_method_10_code 26 = .ok (.invokevirtual 90, 3) := by decide +kernel
theorem d_LR_ground_29 : decode prog_1_method_10_code 29 = .ok (.ifCond .ne 5, 3) := by decide +kernel
theorem d_LR_ground_32 : decode prog_1_method_10_code 32 = .ok (.iconst (-1), 1) := by decide +kernel
theorem d_LR_ground_33 : decode prog_1_method_10_code 33 = .ok (.ireturn, 1) := by decide +kernel
theorem d_LR_ground_34 : decode prog_1_method_10_code 34 = .ok (.aload_n 0, 1) := by decide +kernel
theorem d_LR_ground_35 : decode prog_1_method_10_code 35 = .ok (.getfield 28, 3) := by decide +kernel
theorem d_LR_ground_38 : decode prog_1_method_10_code 38 = .ok (.getfield 119, 3) := by decide +kernel
theorem d_LR_ground_41 : decode prog_1_method_10_code 41 = .ok (.iload_n 1, 1) := by decide +kernel
theorem d_LR_ground_42 : decode prog_1_method_10_code 42 = .ok (.aaload, 1) := by decide +kernel
theorem d_LR_ground_43 : decode prog_1_method_10_code 43 = .ok (.getfield 129, 3) := by decide +kernel
theorem d_LR_ground_46 : decode prog_1_method_10_code 46 = .ok (.iload_n 2, 1) := by decide +kernel
theorem d_LR_ground_47 : decode prog_1_method_10_code 47 = .ok (.invokestatic 163, 3) := by decide +kernel
theorem d_LR_ground_50 : decode prog_1_method_10_code 50 = .ok (.ifCond .eq 7, 3) := by decide +kernel
theorem d_LR_ground_53 : decode prog_1_method_10_code 53 = .ok (.iconst 1, 1) := by decide +kernel
theorem d_LR_ground_54 : decode prog_1_method_10_code 54 = .ok (.goto 4, 3) := by decide +kernel
theorem d_LR_ground_57 : decode prog_1_method_10_code 57 = .ok (.iconst 0, 1) := by decide +kernel
theorem d_LR_ground_58 : decode prog_1_method_10_code 58 = .ok (.ireturn, 1) := by decide +kernel
set_option maxHeartbeats 4000000 in
set_option maxRecDepth 100000 in
theorem w_LR_ground (x1 : Int32) (x2 : Int32)  (C : Cx prog_1_method_10_code 3 "LakeRelief" (Option.some Jvm.ClassFile.FieldType.int) p s m args meth c) (hG : Geo D adr cA s) {res : Int32} (hf : f_LR_ground μ x1 x2 = some res) (hq : ∀ (pc : Nat) (ls : Array Slot) (H : Heap) (locs : List Loc), decode prog_1_method_10_code pc = .ok (.ireturn, 1) → va_P D cls (wld adr cA μ ν) H → va_S (AA adr) s.heap H locs → W p l e rm_LR_ground s m args below meth c H locs 0 0 Q (F0 m pc ls [.int res])) {H : Heap} {locs : List Loc} {ls : Array Slot} (hP : va_P D cls (wld adr cA μ ν) H) (hS : va_S (AA adr) s.heap H locs) (hl : lv_has ls 3 [(0, .ref (adr 0)), (1, .int x1), (2, .int x2)]) : W p l e rm_LR_ground s m args below meth c H locs 0 0 Q (F0 m 0 ls []) := by
  obtain ⟨hx, hb, hml, hown, hts, hr, hlocks⟩ := id C
  unfold f_LR_ground at hf
  refine lv_aload_n hx hb d_LR_ground_0 rfl (lv_at hl 0 rfl) ?_
  refine g_LR_isLaid hx hb hts hown hG hP (hts _ in_178) d_LR_ground_1 ?_
  refine lv_if_ne (tgt := 10) hx hb d_LR_ground_4 (by decide) (fun hc => ?_) (fun hc => ?_)
  · replace hf := if_n hc hf
    refine lv_aload_n hx hb d_LR_ground_10 rfl (lv_at hl 0 rfl) ?_
    refine g_LR_lakes hx hb hts hown hG hP (hts _ in_177) d_LR_ground_11 ?_
    refine lv_iload_n hx hb d_LR_ground_14 rfl (lv_at hl 1 rfl) ?_
    refine ki (kv (As := [.int x1]) (rest := []) ⟨hx, hb, hml, hown, hts⟩ (cw_LR_116 hts ⟨Nat.le_of_ble_eq_true rfl, Nat.le_of_ble_eq_true rfl⟩) (c_LK_isLake l D adr cA μ ν x1) hG hP (rc_o (q := 26) (ci := 1) hG hP (by decide) (wc_C (by decide) rfl) rfl) rfl hl.1 (Nat.le_of_ble_eq_true rfl) d_LR_ground_15) hS (fun H locs hP hS => ?_)
    refine lv_if_eq (tgt := 32) hx hb d_LR_ground_18 (by decide) (fun hc => ?_) (fun hc => ?_)
    · replace hf := if_p hc hf
      refine lv_iconst (v := (-1)) hx hb d_LR_ground_32 (by decide) ?_
      obtain rfl := Option.some.inj hf
      exact hq _ _ _ _ d_LR_ground_33 hP hS
    · replace hf := if_n hc hf
      refine lv_aload_n hx hb d_LR_ground_21 rfl (lv_at hl 0 rfl) ?_
      refine g_LR_relief hx hb hts hown hG hP (hts _ in_176) d_LR_ground_22 ?_
      refine lv_iload_n hx hb d_LR_ground_25 rfl (lv_at hl 2 rfl) ?_
      refine ki (kv (As := [.int x2]) (rest := []) ⟨hx, hb, hml, hown, hts⟩ (cw_LR_90 hts ⟨Nat.le_of_ble_eq_true rfl, Nat.le_of_ble_eq_true rfl⟩) (c_RE_isField l D adr cA μ ν x2) hG hP (rc_o (q := 18) (ci := 2) hG hP (by decide) (wc_C (by decide) rfl) rfl) rfl hl.1 (Nat.le_of_ble_eq_true rfl) d_LR_ground_26) hS (fun H locs hP hS => ?_)
      refine lv_if_ne (tgt := 34) hx hb d_LR_ground_29 (by decide) (fun hc => ?_) (fun hc => ?_)
      · replace hf := if_n hc hf
        refine lv_aload_n hx hb d_LR_ground_34 rfl (lv_at hl 0 rfl) ?_
        refine g_LR_lakes hx hb hts hown hG hP (hts _ in_177) d_LR_ground_35 ?_
        refine g_LK_all hx hb hts hown hG hP (hts _ in_153) d_LR_ground_38 ?_
        refine lv_iload_n hx hb d_LR_ground_41 rfl (lv_at hl 1 rfl) ?_
        replace hf := G_some hf
        obtain ⟨hi1, hf⟩ := hf
        refine r_aLA hx hb hG hP hi1 d_LR_ground_42 ?_
        refine g_LA_fields hx hb hts hown hG hP (vin_lt hi1) (hts _ in_113) d_LR_ground_43 ?_
        refine lv_iload_n hx hb d_LR_ground_46 rfl (lv_at hl 2 rfl) ?_
        refine ki (ks (As := [.long (μ.2 (28 + x1.toNatClampNeg) 0), .int x2]) (rest := []) ⟨hx, hb, hml, hown, hts⟩ (cw_LR_163 hts ⟨Nat.le_of_ble_eq_true rfl, Nat.le_of_ble_eq_true rfl⟩) (c_LR_isIn l D adr cA μ ν (μ.2 (28 + x1.toNatClampNeg) 0) x2) hG hP rfl hl.1 (Nat.le_of_ble_eq_true rfl) d_LR_ground_47) hS (fun H locs hP hS => ?_)
        refine lv_if_eq (tgt := 57) hx hb d_LR_ground_50 (by decide) (fun hc => ?_) (fun hc => ?_)
        · replace hf := if_p hc hf
          refine lv_iconst (v := 0) hx hb d_LR_ground_57 (by decide) ?_
          obtain rfl := Option.some.inj hf
          exact hq _ _ _ _ d_LR_ground_58 hP hS
        · replace hf := if_n hc hf
          refine lv_iconst (v := 1) hx hb d_LR_ground_53 (by decide) ?_
          refine lv_goto (tgt := 58) hx hb d_LR_ground_54 (by decide) ?_
          obtain rfl := Option.some.inj hf
          exact hq _ _ _ _ d_LR_ground_58 hP hS
      · replace hf := if_p hc hf
        refine lv_iconst (v := (-1)) hx hb d_LR_ground_32 (by decide) ?_
        obtain rfl := Option.some.inj hf
        exact hq _ _ _ _ d_LR_ground_33 hP hS
  · replace hf := if_p hc hf
    refine lv_bipush (v := (-2)) hx hb d_LR_ground_7 (by decide) ?_
    obtain rfl := Option.some.inj hf
    exact hq _ _ _ _ d_LR_ground_9 hP hS
theorem c_LR_ground (l : Launch) (D : va_G) (adr : Nat → Nat) (cA : Nat → ClassId) (μ ν : Mem) (x1 : Int32) (x2 : Int32)  {res : Int32} (hf : f_LR_ground μ x1 x2 = some res) : Met l y_LR_ground (Cond.code y_LR_ground prog_1_method_10_code 3 (Option.some Jvm.ClassFile.FieldType.int) :: lw_ok) rm_LR_ground (va_Pc [.ref (adr 0), .int x1, .int x2] (Wd D adr cA μ ν)) (QI D adr cA res μ ν) 0 0 (AA adr) :=
  met_of (own := "LakeRelief") rfl rfl (Nat.le_of_ble_eq_true rfl) (fun p e s m below meth c C hG hP hS ls hl => w_LR_ground x1 x2  C hG hf (fun pc ls H locs hd hP hS => ret_i C.1 C.2.1 C.2.2.2.2.2.1 C.2.2.2.2.2.2 hG hd hP hS) hP hS hl)
end X_LR_ground
section X_LR_holds
variable {p : Program} {l : Launch} {e : Env} {s : State} {m : MethodId} {args : Array Value} {below : List Frame} {meth : Method} {c : Code} {Q : State → Prop}
variable {D : va_G} {adr : Nat → Nat} {cA : Nat → ClassId} {μ ν : Mem}
theorem d_LR_holds_0 : decode prog_1_method_11_code 0 = .ok (.aload_n 0, 1) := by decide +kernel
theorem d_LR_holds_1 : decode prog_1_method_11_code 1 = .ok (.getfield 32, 3) := by decide +kernel
theorem d_LR_holds_4 : decode prog_1_method_11_code 4 = .ok (.ifCond .ne 6, 3) := by decide +kernel
theorem d_LR_holds_7 : decode prog_1_method_11_code 7 = .ok (.bipush (-2), 2) := by decide +kernel
theorem d_LR_holds_9 : decode prog_1_method_11_code 9 = .ok (.ireturn, 1) := by decide +kernel
theorem d_LR_holds_10 : decode prog_1_method_11_code 10 = .ok (.aload_n 0, 1) := by decide +kernel
theorem d_LR_holds_11 : decode prog_1_method_11_code 11 = .ok (.getfield 28, 3) := by decide +kernel
theorem d_LR_holds_14 : decode prog_1_method_11_code 14 = .ok (.iload_n 1, 1) := by decide +kernel
theorem d_LR_holds_15 : decode prog_1_method_11_code 15 = .ok (.iload_n 2, 1) := by decide +kernel
theorem d_LR_holds_16 : decode prog_1_method_11_code 16 = .ok (.invokevirtual 167, 3) := by decide +kernel
theorem d_LR_holds_19 : decode prog_1_method_11_code 19 = .ok (.ifCond .ne 5, 3) := by decide +kernel
theorem d_LR_holds_22 : decode prog_1_method_11_code 22 = .ok (.iconst (-1), 1) := by decide +kernel
theorem d_LR_holds_23 : decode prog_1_method_11_code 23 = .ok (.ireturn, 1) := by decide +kernel
theorem d_LR_holds_24 : decode prog_1_method_11_code 24 = .ok (.aload_n 0, 1) := by decide +kernel
theorem d_LR_holds_25 : decode prog_1_method_11_code 25 = .ok (.getfield 19, 3) := by decide +kernel
theorem d_LR_holds_28 : decode prog_1_method_11_code 28 = .ok (.aload_n 0, 1) := by decide +kernel
theorem d_LR_holds_29 : decode prog_1_method_11_code 29 = .ok (.getfield 28, 3) := by decide +kernel
theorem d_LR_holds_32 : decode prog_1_method_11_code 32 = .ok (.getfield 119, 3) := by decide +kernel
theorem d_LR_holds_35 : decode prog_1_method_11_code 35 = .ok (.iload_n 1, 1) := by decide +kernel
theorem d_LR_holds_36 : decode prog_1_method_11_code 36 = .ok (.aaload, 1) := by decide +kernel
theorem d_LR_holds_37 : decode prog_1_method_11_code 37 = .ok (.getfield 129, 3) := by decide +kernel
theorem d_LR_holds_40 : decode prog_1_method_11_code 40 = .ok (.iload_n 2, 1) := by decide +kernel
theorem d_LR_holds_41 : decode prog_1_method_11_code 41 = .ok (.invokevirtual 170, 3) := by decide +kernel
theorem d_LR_holds_44 : decode prog_1_method_11_code 44 = .ok (.ireturn, 1) := by decide +kernel
set_option maxHeartbeats 4000000 in
set_option maxRecDepth 100000 in
theorem w_LR_holds (x1 : Int32) (x2 : Int32)  (C : Cx prog_1_method_11_code 3 "LakeRelief" (Option.some Jvm.ClassFile.FieldType.int) p s m args meth c) (hG : Geo D adr cA s) {res : Int32} (hf : f_LR_holds μ x1 x2 = some res) (hq : ∀ (pc : Nat) (ls : Array Slot) (H : Heap) (locs : List Loc), decode prog_1_method_11_code pc = .ok (.ireturn, 1) → va_P D cls (wld adr cA μ ν) H → va_S (AA adr) s.heap H locs → W p l e rm_LR_holds s m args below meth c H locs 0 0 Q (F0 m pc ls [.int res])) {H : Heap} {locs : List Loc} {ls : Array Slot} (hP : va_P D cls (wld adr cA μ ν) H) (hS : va_S (AA adr) s.heap H locs) (hl : lv_has ls 3 [(0, .ref (adr 0)), (1, .int x1), (2, .int x2)]) : W p l e rm_LR_holds s m args below meth c H locs 0 0 Q (F0 m 0 ls []) := by
  obtain ⟨hx, hb, hml, hown, hts, hr, hlocks⟩ := id C
  unfold f_LR_holds at hf
  refine lv_aload_n hx hb d_LR_holds_0 rfl (lv_at hl 0 rfl) ?_
  refine g_LR_isLaid hx hb hts hown hG hP (hts _ in_178) d_LR_holds_1 ?_
  refine lv_if_ne (tgt := 10) hx hb d_LR_holds_4 (by decide) (fun hc => ?_) (fun hc => ?_)
  · replace hf := if_n hc hf
    refine lv_aload_n hx hb d_LR_holds_10 rfl (lv_at hl 0 rfl) ?_
    refine g_LR_lakes hx hb hts hown hG hP (hts _ in_177) d_LR_holds_11 ?_
    refine lv_iload_n hx hb d_LR_holds_14 rfl (lv_at hl 1 rfl) ?_
    refine lv_iload_n hx hb d_LR_holds_15 rfl (lv_at hl 2 rfl) ?_
    replace hf := B_some hf
    obtain ⟨v1, hv1, hf⟩ := hf
    refine ki (kv (As := [.int x1, .int x2]) (rest := []) ⟨hx, hb, hml, hown, hts⟩ (cw_LR_167 hts ⟨Nat.le_of_ble_eq_true rfl, Nat.le_of_ble_eq_true rfl⟩) (c_LK_isLevelOf l D adr cA μ ν x1 x2 hv1) hG hP (rc_o (q := 26) (ci := 1) hG hP (by decide) (wc_C (by decide) rfl) rfl) rfl hl.1 (Nat.le_of_ble_eq_true rfl) d_LR_holds_16) hS (fun H locs hP hS => ?_)
    refine lv_if_ne (tgt := 24) hx hb d_LR_holds_19 (by decide) (fun hc => ?_) (fun hc => ?_)
    · replace hf := if_n hc hf
      refine lv_aload_n hx hb d_LR_holds_24 rfl (lv_at hl 0 rfl) ?_
      refine g_LR_relief hx hb hts hown hG hP (hts _ in_176) d_LR_holds_25 ?_
      refine lv_aload_n hx hb d_LR_holds_28 rfl (lv_at hl 0 rfl) ?_
      refine g_LR_lakes hx hb hts hown hG hP (hts _ in_177) d_LR_holds_29 ?_
      refine g_LK_all hx hb hts hown hG hP (hts _ in_153) d_LR_holds_32 ?_
      refine lv_iload_n hx hb d_LR_holds_35 rfl (lv_at hl 1 rfl) ?_
      replace hf := G_some hf
      obtain ⟨hi2, hf⟩ := hf
      refine r_aLA hx hb hG hP hi2 d_LR_holds_36 ?_
      refine g_LA_fields hx hb hts hown hG hP (vin_lt hi2) (hts _ in_113) d_LR_holds_37 ?_
      refine lv_iload_n hx hb d_LR_holds_40 rfl (lv_at hl 2 rfl) ?_
      replace hf := B_some hf
      obtain ⟨v3, hv3, hf⟩ := hf
      refine ki (kv (As := [.long (μ.2 (28 + x1.toNatClampNeg) 0), .int x2]) (rest := []) ⟨hx, hb, hml, hown, hts⟩ (cw_LR_170 hts ⟨Nat.le_of_ble_eq_true rfl, Nat.le_of_ble_eq_true rfl⟩) (c_RE_roomBelow l D adr cA μ ν (μ.2 (28 + x1.toNatClampNeg) 0) x2 hv3) hG hP (rc_o (q := 18) (ci := 2) hG hP (by decide) (wc_C (by decide) rfl) rfl) rfl hl.1 (Nat.le_of_ble_eq_true rfl) d_LR_holds_41) hS (fun H locs hP hS => ?_)
      obtain rfl := Option.some.inj hf
      exact hq _ _ _ _ d_LR_holds_44 hP hS
    · replace hf := if_p hc hf
      refine lv_iconst (v := (-1)) hx hb d_LR_holds_22 (by decide) ?_
      obtain rfl := Option.some.inj hf
      exact hq _ _ _ _ d_LR_holds_23 hP hS
  · replace hf := if_p hc hf
    refine lv_bipush (v := (-2)) hx hb d_LR_holds_7 (by decide) ?_
    obtain rfl := Option.some.inj hf
    exact hq _ _ _ _ d_LR_holds_9 hP hS
theorem c_LR_holds (l : Launch) (D : va_G) (adr : Nat → Nat) (cA : Nat → ClassId) (μ ν : Mem) (x1 : Int32) (x2 : Int32)  {res : Int32} (hf : f_LR_holds μ x1 x2 = some res) : Met l y_LR_holds (Cond.code y_LR_holds prog_1_method_11_code 3 (Option.some Jvm.ClassFile.FieldType.int) :: lw_ok) rm_LR_holds (va_Pc [.ref (adr 0), .int x1, .int x2] (Wd D adr cA μ ν)) (QI D adr cA res μ ν) 0 0 (AA adr) :=
  met_of (own := "LakeRelief") rfl rfl (Nat.le_of_ble_eq_true rfl) (fun p e s m below meth c C hG hP hS ls hl => w_LR_holds x1 x2  C hG hf (fun pc ls H locs hd hP hS => ret_i C.1 C.2.1 C.2.2.2.2.2.1 C.2.2.2.2.2.2 hG hd hP hS) hP hS hl)
end X_LR_holds
section X_LR_area
variable {p : Program} {l : Launch} {e : Env} {s : State} {m : MethodId} {args : Array Value} {below : List Frame} {meth : Method} {c : Code} {Q : State → Prop}
variable {D : va_G} {adr : Nat → Nat} {cA : Nat → ClassId} {μ ν : Mem}
theorem d_LR_area_0 : decode prog_1_method_12_code 0 = .ok (.aload_n 0, 1) := by decide +kernel
theorem d_LR_area_1 : decode prog_1_method_12_code 1 = .ok (.getfield 32, 3) := by decide +kernel
theorem d_LR_area_4 : decode prog_1_method_12_code 4 = .ok (.ifCond .ne 6, 3) := by decide +kernel
theorem d_LR_area_7 : decode prog_1_method_12_code 7 = .ok (.bipush (-2), 2) := by decide +kernel
theorem d_LR_area_9 : decode prog_1_method_12_code 9 = .ok (.ireturn, 1) := by decide +kernel
theorem d_LR_area_10 : decode prog_1_method_12_code 10 = .ok (.aload_n 0, 1) := by decide +kernel
theorem d_LR_area_11 : decode prog_1_method_12_code 11 = .ok (.getfield 28, 3) := by decide +kernel
theorem d_LR_area_14 : decode prog_1_method_12_code 14 = .ok (.iload_n 1, 1) := by decide +kernel
theorem d_LR_area_15 : decode prog_1_method_12_code 15 = .ok (.iload_n 2, 1) := by decide +kernel
theorem d_LR_area_16 : decode prog_1_method_12_code 16 = .ok (.invokevirtual 167, 3) := by decide +kernel
theorem d_LR_area_19 : decode prog_1_method_12_code 19 = .ok (.ifCond .ne 5, 3) := by decide +kernel
theorem d_LR_area_22 : decode prog_1_method_12_code 22 = .ok (.iconst (-1), 1) := by decide +kernel
theorem d_LR_area_23 : decode prog_1_method_12_code 23 = .ok (.ireturn, 1) := by decide +kernel
theorem d_LR_area_24 : decode prog_1_method_12_code 24 = .ok (.aload_n 0, 1) := by decide +kernel
theorem d_LR_area_25 : decode prog_1_method_12_code 25 = .ok (.getfield 19, 3) := by decide +kernel
theorem d_LR_area_28 : decode prog_1_method_12_code 28 = .ok (.aload_n 0, 1) := by decide +kernel
theorem d_LR_area_29 : decode prog_1_method_12_code 29 = .ok (.getfield 28, 3) := by decide +kernel
theorem d_LR_area_32 : decode prog_1_method_12_code 32 = .ok (.getfield 119, 3) := by decide +kernel
theorem d_LR_area_35 : decode prog_1_method_12_code 35 = .ok (.iload_n 1, 1) := by decide +kernel
theorem d_LR_area_36 : decode prog_1_method_12_code 36 = .ok (.aaload, 1) := by decide +kernel
theorem d_LR_area_37 : decode prog_1_method_12_code 37 = .ok (.getfield 129, 3) := by decide +kernel
theorem d_LR_area_40 : decode prog_1_method_12_code 40 = .ok (.iload_n 2, 1) := by decide +kernel
theorem d_LR_area_41 : decode prog_1_method_12_code 41 = .ok (.invokevirtual 174, 3) := by decide +kernel
theorem d_LR_area_44 : decode prog_1_method_12_code 44 = .ok (.ireturn, 1) := by decide +kernel
set_option maxHeartbeats 4000000 in
set_option maxRecDepth 100000 in
theorem w_LR_area (x1 : Int32) (x2 : Int32)  (C : Cx prog_1_method_12_code 3 "LakeRelief" (Option.some Jvm.ClassFile.FieldType.int) p s m args meth c) (hG : Geo D adr cA s) {res : Int32} (hf : f_LR_area μ x1 x2 = some res) (hq : ∀ (pc : Nat) (ls : Array Slot) (H : Heap) (locs : List Loc), decode prog_1_method_12_code pc = .ok (.ireturn, 1) → va_P D cls (wld adr cA μ ν) H → va_S (AA adr) s.heap H locs → W p l e rm_LR_area s m args below meth c H locs 0 0 Q (F0 m pc ls [.int res])) {H : Heap} {locs : List Loc} {ls : Array Slot} (hP : va_P D cls (wld adr cA μ ν) H) (hS : va_S (AA adr) s.heap H locs) (hl : lv_has ls 3 [(0, .ref (adr 0)), (1, .int x1), (2, .int x2)]) : W p l e rm_LR_area s m args below meth c H locs 0 0 Q (F0 m 0 ls []) := by
  obtain ⟨hx, hb, hml, hown, hts, hr, hlocks⟩ := id C
  unfold f_LR_area at hf
  refine lv_aload_n hx hb d_LR_area_0 rfl (lv_at hl 0 rfl) ?_
  refine g_LR_isLaid hx hb hts hown hG hP (hts _ in_178) d_LR_area_1 ?_
  refine lv_if_ne (tgt := 10) hx hb d_LR_area_4 (by decide) (fun hc => ?_) (fun hc => ?_)
  · replace hf := if_n hc hf
    refine lv_aload_n hx hb d_LR_area_10 rfl (lv_at hl 0 rfl) ?_
    refine g_LR_lakes hx hb hts hown hG hP (hts _ in_177) d_LR_area_11 ?_
    refine lv_iload_n hx hb d_LR_area_14 rfl (lv_at hl 1 rfl) ?_
    refine lv_iload_n hx hb d_LR_area_15 rfl (lv_at hl 2 rfl) ?_
    replace hf := B_some hf
    obtain ⟨v1, hv1, hf⟩ := hf
    refine ki (kv (As := [.int x1, .int x2]) (rest := []) ⟨hx, hb, hml, hown, hts⟩ (cw_LR_167 hts ⟨Nat.le_of_ble_eq_true rfl, Nat.le_of_ble_eq_true rfl⟩) (c_LK_isLevelOf l D adr cA μ ν x1 x2 hv1) hG hP (rc_o (q := 26) (ci := 1) hG hP (by decide) (wc_C (by decide) rfl) rfl) rfl hl.1 (Nat.le_of_ble_eq_true rfl) d_LR_area_16) hS (fun H locs hP hS => ?_)
    refine lv_if_ne (tgt := 24) hx hb d_LR_area_19 (by decide) (fun hc => ?_) (fun hc => ?_)
    · replace hf := if_n hc hf
      refine lv_aload_n hx hb d_LR_area_24 rfl (lv_at hl 0 rfl) ?_
      refine g_LR_relief hx hb hts hown hG hP (hts _ in_176) d_LR_area_25 ?_
      refine lv_aload_n hx hb d_LR_area_28 rfl (lv_at hl 0 rfl) ?_
      refine g_LR_lakes hx hb hts hown hG hP (hts _ in_177) d_LR_area_29 ?_
      refine g_LK_all hx hb hts hown hG hP (hts _ in_153) d_LR_area_32 ?_
      refine lv_iload_n hx hb d_LR_area_35 rfl (lv_at hl 1 rfl) ?_
      replace hf := G_some hf
      obtain ⟨hi2, hf⟩ := hf
      refine r_aLA hx hb hG hP hi2 d_LR_area_36 ?_
      refine g_LA_fields hx hb hts hown hG hP (vin_lt hi2) (hts _ in_113) d_LR_area_37 ?_
      refine lv_iload_n hx hb d_LR_area_40 rfl (lv_at hl 2 rfl) ?_
      replace hf := B_some hf
      obtain ⟨v3, hv3, hf⟩ := hf
      refine ki (kv (As := [.long (μ.2 (28 + x1.toNatClampNeg) 0), .int x2]) (rest := []) ⟨hx, hb, hml, hown, hts⟩ (cw_LR_174 hts ⟨Nat.le_of_ble_eq_true rfl, Nat.le_of_ble_eq_true rfl⟩) (c_RE_countBelow l D adr cA μ ν (μ.2 (28 + x1.toNatClampNeg) 0) x2 hv3) hG hP (rc_o (q := 18) (ci := 2) hG hP (by decide) (wc_C (by decide) rfl) rfl) rfl hl.1 (Nat.le_of_ble_eq_true rfl) d_LR_area_41) hS (fun H locs hP hS => ?_)
      obtain rfl := Option.some.inj hf
      exact hq _ _ _ _ d_LR_area_44 hP hS
    · replace hf := if_p hc hf
      refine lv_iconst (v := (-1)) hx hb d_LR_area_22 (by decide) ?_
      obtain rfl := Option.some.inj hf
      exact hq _ _ _ _ d_LR_area_23 hP hS
  · replace hf := if_p hc hf
    refine lv_bipush (v := (-2)) hx hb d_LR_area_7 (by decide) ?_
    obtain rfl := Option.some.inj hf
    exact hq _ _ _ _ d_LR_area_9 hP hS
theorem c_LR_area (l : Launch) (D : va_G) (adr : Nat → Nat) (cA : Nat → ClassId) (μ ν : Mem) (x1 : Int32) (x2 : Int32)  {res : Int32} (hf : f_LR_area μ x1 x2 = some res) : Met l y_LR_area (Cond.code y_LR_area prog_1_method_12_code 3 (Option.some Jvm.ClassFile.FieldType.int) :: lw_ok) rm_LR_area (va_Pc [.ref (adr 0), .int x1, .int x2] (Wd D adr cA μ ν)) (QI D adr cA res μ ν) 0 0 (AA adr) :=
  met_of (own := "LakeRelief") rfl rfl (Nat.le_of_ble_eq_true rfl) (fun p e s m below meth c C hG hP hS ls hl => w_LR_area x1 x2  C hG hf (fun pc ls H locs hd hP hS => ret_i C.1 C.2.1 C.2.2.2.2.2.1 C.2.2.2.2.2.2 hG hd hP hS) hP hS hl)
end X_LR_area
section X_LR_pour
variable {p : Program} {l : Launch} {e : Env} {s : State} {m : MethodId} {args : Array Value} {below : List Frame} {meth : Method} {c : Code} {Q : State → Prop}
variable {D : va_G} {adr : Nat → Nat} {cA : Nat → ClassId} {μ ν : Mem}
theorem d_LR_pour_0 : decode prog_1_method_13_code 0 = .ok (.aload_n 0, 1) := by decide +kernel
theorem d_LR_pour_1 : decode prog_1_method_13_code 1 = .ok (.getfield 32, 3) := by decide +kernel
theorem d_LR_pour_4 : decode prog_1_method_13_code 4 = .ok (.ifCond .ne 6, 3) := by decide +kernel
theorem d_LR_pour_7 : decode prog_1_method_13_code 7 = .ok (.bipush (-2), 2) := by decide +kernel
theorem d_LR_pour_9 : decode prog_1_method_13_code 9 = .ok (.ireturn, 1) := by decide +kernel
theorem d_LR_pour_10 : decode prog_1_method_13_code 10 = .ok (.aload_n 0, 1) := by decide +kernel
theorem d_LR_pour_11 : decode prog_1_method_13_code 11 = .ok (.getfield 19, 3) := by decide +kernel
theorem d_LR_pour_14 : decode prog_1_method_13_code 14 = .ok (.iload_n 1, 1) := by decide +kernel
theorem d_LR_pour_15 : decode prog_1_method_13_code 15 = .ok (.invokevirtual 90, 3) := by decide +kernel
theorem d_LR_pour_18 : decode prog_1_method_13_code 18 = .ok (.ifCond .eq 13, 3) := by decide +kernel
theorem d_LR_pour_21 : decode prog_1_method_13_code 21 = .ok (.iload_n 2, 1) := by decide +kernel
theorem d_LR_pour_22 : decode prog_1_method_13_code 22 = .ok (.ifCond .lt 9, 3) := by decide +kernel
theorem d_LR_pour_25 : decode prog_1_method_13_code 25 = .ok (.iload_n 2, 1) := by decide +kernel
theorem d_LR_pour_26 : decode prog_1_method_13_code 26 = .ok (.ldc 177, 2) := by decide +kernel
theorem d_LR_pour_28 : decode prog_1_method_13_code 28 = .ok (.if_icmp .le 5, 3) := by decide +kernel
theorem d_LR_pour_31 : decode prog_1_method_13_code 31 = .ok (.iconst (-1), 1) := by decide +kernel
theorem d_LR_pour_32 : decode prog_1_method_13_code 32 = .ok (.ireturn, 1) := by decide +kernel
theorem d_LR_pour_33 : decode prog_1_method_13_code 33 = .ok (.aload_n 0, 1) := by decide +kernel
theorem d_LR_pour_34 : decode prog_1_method_13_code 34 = .ok (.getfield 28, 3) := by decide +kernel
theorem d_LR_pour_37 : decode prog_1_method_13_code 37 = .ok (.iload_n 1, 1) := by decide +kernel
theorem d_LR_pour_38 : decode prog_1_method_13_code 38 = .ok (.iload_n 2, 1) := by decide +kernel
theorem d_LR_pour_39 : decode prog_1_method_13_code 39 = .ok (.invokevirtual 178, 3) := by decide +kernel
theorem d_LR_pour_42 : decode prog_1_method_13_code 42 = .ok (.ireturn, 1) := by decide +kernel
set_option maxHeartbeats 4000000 in
set_option maxRecDepth 100000 in
theorem w_LR_pour (x1 : Int32) (x2 : Int32)  (C : Cx prog_1_method_13_code 3 "LakeRelief" (Option.some Jvm.ClassFile.FieldType.int) p s m args meth c) (hG : Geo D adr cA s) {res : Int32 × Mem} (hf : f_LR_pour μ x1 x2 = some res) (hq : ∀ (pc : Nat) (ls : Array Slot) (H : Heap) (locs : List Loc), decode prog_1_method_13_code pc = .ok (.ireturn, 1) → va_P D cls (wld adr cA res.2 ν) H → va_S (AA adr) s.heap H locs → W p l e rm_LR_pour s m args below meth c H locs 0 0 Q (F0 m pc ls [.int res.1])) {H : Heap} {locs : List Loc} {ls : Array Slot} (hP : va_P D cls (wld adr cA μ ν) H) (hS : va_S (AA adr) s.heap H locs) (hl : lv_has ls 3 [(0, .ref (adr 0)), (1, .int x1), (2, .int x2)]) : W p l e rm_LR_pour s m args below meth c H locs 0 0 Q (F0 m 0 ls []) := by
  obtain ⟨hx, hb, hml, hown, hts, hr, hlocks⟩ := id C
  unfold f_LR_pour at hf
  refine lv_aload_n hx hb d_LR_pour_0 rfl (lv_at hl 0 rfl) ?_
  refine g_LR_isLaid hx hb hts hown hG hP (hts _ in_178) d_LR_pour_1 ?_
  refine lv_if_ne (tgt := 10) hx hb d_LR_pour_4 (by decide) (fun hc => ?_) (fun hc => ?_)
  · replace hf := if_n hc hf
    refine lv_aload_n hx hb d_LR_pour_10 rfl (lv_at hl 0 rfl) ?_
    refine g_LR_relief hx hb hts hown hG hP (hts _ in_176) d_LR_pour_11 ?_
    refine lv_iload_n hx hb d_LR_pour_14 rfl (lv_at hl 1 rfl) ?_
    refine ki (kv (As := [.int x1]) (rest := []) ⟨hx, hb, hml, hown, hts⟩ (cw_LR_90 hts ⟨Nat.le_of_ble_eq_true rfl, Nat.le_of_ble_eq_true rfl⟩) (c_RE_isField l D adr cA μ ν x1) hG hP (rc_o (q := 18) (ci := 2) hG hP (by decide) (wc_C (by decide) rfl) rfl) rfl hl.1 (Nat.le_of_ble_eq_true rfl) d_LR_pour_15) hS (fun H locs hP hS => ?_)
    refine lv_if_eq (tgt := 31) hx hb d_LR_pour_18 (by decide) (fun hc => ?_) (fun hc => ?_)
    · replace hf := if_p hc hf
      refine lv_iconst (v := (-1)) hx hb d_LR_pour_31 (by decide) ?_
      obtain rfl := Option.some.inj hf
      exact hq _ _ _ _ d_LR_pour_32 hP hS
    · replace hf := if_n hc hf
      refine lv_iload_n hx hb d_LR_pour_21 rfl (lv_at hl 2 rfl) ?_
      refine lv_if_lt (tgt := 31) hx hb d_LR_pour_22 (by decide) (fun hc => ?_) (fun hc => ?_)
      · replace hf := if_p hc hf
        refine lv_iconst (v := (-1)) hx hb d_LR_pour_31 (by decide) ?_
        obtain rfl := Option.some.inj hf
        exact hq _ _ _ _ d_LR_pour_32 hP hS
      · replace hf := if_n hc hf
        refine lv_iload_n hx hb d_LR_pour_25 rfl (lv_at hl 2 rfl) ?_
        refine lv_ldc (v := 1000000) hx hb hown (hts _ in_243) d_LR_pour_26 ?_
        refine lv_icmp_le (tgt := 33) hx hb d_LR_pour_28 (by decide) (fun hc => ?_) (fun hc => ?_)
        · replace hf := if_p hc hf
          refine lv_aload_n hx hb d_LR_pour_33 rfl (lv_at hl 0 rfl) ?_
          refine g_LR_lakes hx hb hts hown hG hP (hts _ in_177) d_LR_pour_34 ?_
          refine lv_iload_n hx hb d_LR_pour_37 rfl (lv_at hl 1 rfl) ?_
          refine lv_iload_n hx hb d_LR_pour_38 rfl (lv_at hl 2 rfl) ?_
          replace hf := B_some hf
          obtain ⟨v1, hv1, hf⟩ := hf
          refine ki (kv (As := [.int x1, .int x2]) (rest := []) ⟨hx, hb, hml, hown, hts⟩ (cw_LR_178 hts ⟨Nat.le_of_ble_eq_true rfl, Nat.le_of_ble_eq_true rfl⟩) (c_LK_takeGrains l D adr cA μ ν x1 x2 hv1) hG hP (rc_o (q := 26) (ci := 1) hG hP (by decide) (wc_C (by decide) rfl) rfl) rfl hl.1 (Nat.le_of_ble_eq_true rfl) d_LR_pour_39) hS (fun H locs hP hS => ?_)
          obtain rfl := Option.some.inj hf
          exact hq _ _ _ _ d_LR_pour_42 hP hS
        · replace hf := if_n hc hf
          refine lv_iconst (v := (-1)) hx hb d_LR_pour_31 (by decide) ?_
          obtain rfl := Option.some.inj hf
          exact hq _ _ _ _ d_LR_pour_32 hP hS
  · replace hf := if_p hc hf
    refine lv_bipush (v := (-2)) hx hb d_LR_pour_7 (by decide) ?_
    obtain rfl := Option.some.inj hf
    exact hq _ _ _ _ d_LR_pour_9 hP hS
theorem c_LR_pour (l : Launch) (D : va_G) (adr : Nat → Nat) (cA : Nat → ClassId) (μ ν : Mem) (x1 : Int32) (x2 : Int32)  {res : Int32 × Mem} (hf : f_LR_pour μ x1 x2 = some res) : Met l y_LR_pour (Cond.code y_LR_pour prog_1_method_13_code 3 (Option.some Jvm.ClassFile.FieldType.int) :: lw_ok) rm_LR_pour (va_Pc [.ref (adr 0), .int x1, .int x2] (Wd D adr cA μ ν)) (QI D adr cA res.1 res.2 ν) 0 0 (AA adr) :=
  met_of (own := "LakeRelief") rfl rfl (Nat.le_of_ble_eq_true rfl) (fun p e s m below meth c C hG hP hS ls hl => w_LR_pour x1 x2  C hG hf (fun pc ls H locs hd hP hS => ret_i C.1 C.2.1 C.2.2.2.2.2.1 C.2.2.2.2.2.2 hG hd hP hS) hP hS hl)
end X_LR_pour
section X_LR_level
variable {p : Program} {l : Launch} {e : Env} {s : State} {m : MethodId} {args : Array Value} {below : List Frame} {meth : Method} {c : Code} {Q : State → Prop}
variable {D : va_G} {adr : Nat → Nat} {cA : Nat → ClassId} {μ ν : Mem}
theorem d_LR_level_0 : decode prog_1_method_14_code 0 = .ok (.aload_n 0, 1) := by decide +kernel
theorem d_LR_level_1 : decode prog_1_method_14_code 1 = .ok (.getfield 32, 3) := by decide +kernel
theorem d_LR_level_4 : decode prog_1_method_14_code 4 = .ok (.ifCond .ne 6, 3) := by decide +kernel
theorem d_LR_level_7 : decode prog_1_method_14_code 7 = .ok (.ldc 89, 2) := by decide +kernel
theorem d_LR_level_9 : decode prog_1_method_14_code 9 = .ok (.ireturn, 1) := by decide +kernel
theorem d_LR_level_10 : decode prog_1_method_14_code 10 = .ok (.aload_n 0, 1) := by decide +kernel
theorem d_LR_level_11 : decode prog_1_method_14_code 11 = .ok (.getfield 28, 3) := by decide +kernel
theorem d_LR_level_14 : decode prog_1_method_14_code 14 = .ok (.iload_n 1, 1) := by decide +kernel
theorem d_LR_level_15 : decode prog_1_method_14_code 15 = .ok (.invokevirtual 116, 3) := by decide +kernel
theorem d_LR_level_18 : decode prog_1_method_14_code 18 = .ok (.ifCond .eq 27, 3) := by decide +kernel
theorem d_LR_level_21 : decode prog_1_method_14_code 21 = .ok (.aload_n 0, 1) := by decide +kernel
theorem d_LR_level_22 : decode prog_1_method_14_code 22 = .ok (.getfield 28, 3) := by decide +kernel
theorem d_LR_level_25 : decode prog_1_method_14_code 25 = .ok (.getfield 119, 3) := by decide +kernel
theorem d_LR_level_28 : decode prog_1_method_14_code 28 = .ok (.iload_n 1, 1) := by decide +kernel
theorem d_LR_level_29 : decode prog_1_method_14_code 29 = .ok (.aaload, 1) := by decide +kernel
theorem d_LR_level_30 : decode prog_1_method_14_code 30 = .ok (.getfield 157, 3) := by decide +kernel
theorem d_LR_level_33 : decode prog_1_method_14_code 33 = .ok (.ifCond .eq 12, 3) := by decide +kernel
theorem d_LR_level_36 : decode prog_1_method_14_code 36 = .ok (.iload_n 2, 1) := by decide +kernel
theorem d_LR_level_37 : decode prog_1_method_14_code 37 = .ok (.ifCond .lt 8, 3) := by decide +kernel
theorem d_LR_level_40 : decode prog_1_method_14_code 40 = .ok (.iload_n 2, 1) := by decide +kernel
theorem d_LR_level_41 : decode prog_1_method_14_code 41 = .ok (.iconst 1, 1) := by decide +kernel
theorem d_LR_level_42 : decode prog_1_method_14_code 42 = .ok (.if_icmp .le 6, 3) := by decide +kernel
theorem d_LR_level_45 : decode prog_1_method_14_code 45 = .ok (.ldc 93, 2) := by decide +kernel
theorem d_LR_level_47 : decode prog_1_method_14_code 47 = .ok (.ireturn, 1) := by decide +kernel
theorem d_LR_level_48 : decode prog_1_method_14_code 48 = .ok (.aload_n 0, 1) := by decide +kernel
theorem d_LR_level_49 : decode prog_1_method_14_code 49 = .ok (.getfield 19, 3) := by decide +kernel
theorem d_LR_level_52 : decode prog_1_method_14_code 52 = .ok (.aload_n 0, 1) := by decide +kernel
theorem d_LR_level_53 : decode prog_1_method_14_code 53 = .ok (.getfield 28, 3) := by decide +kernel
theorem d_LR_level_56 : decode prog_1_method_14_code 56 = .ok (.getfield 119, 3) := by decide +kernel
theorem d_LR_level_59 : decode prog_1_method_14_code 59 = .ok (.iload_n 1, 1) := by decide +kernel
theorem d_LR_level_60 : decode prog_1_method_14_code 60 = .ok (.aaload, 1) := by decide +kernel
theorem d_LR_level_61 : decode prog_1_method_14_code 61 = .ok (.getfield 129, 3) := by decide +kernel
theorem d_LR_level_64 : decode prog_1_method_14_code 64 = .ok (.aload_n 0, 1) := by decide +kernel
theorem d_LR_level_65 : decode prog_1_method_14_code 65 = .ok (.getfield 28, 3) := by decide +kernel
theorem d_LR_level_68 : decode prog_1_method_14_code 68 = .ok (.getfield 119, 3) := by decide +kernel
theorem d_LR_level_71 : decode prog_1_method_14_code 71 = .ok (.iload_n 1, 1) := by decide +kernel
theorem d_LR_level_72 : decode prog_1_method_14_code 72 = .ok (.aaload, 1) := by decide +kernel
theorem d_LR_level_73 : decode prog_1_method_14_code 73 = .ok (.getfield 160, 3) := by decide +kernel
theorem d_LR_level_76 : decode prog_1_method_14_code 76 = .ok (.iload_n 2, 1) := by decide +kernel
theorem d_LR_level_77 : decode prog_1_method_14_code 77 = .ok (.ifCond .ne 7, 3) := by decide +kernel
theorem d_LR_level_80 : decode prog_1_method_14_code 80 = .ok (.iconst 1, 1) := by decide +kernel
theorem d_LR_level_81 : decode prog_1_method_14_code 81 = .ok (.goto 4, 3) := by decide +kernel
theorem d_LR_level_84 : decode prog_1_method_14_code 84 = .ok (.iconst 0, 1) := by decide +kernel
theorem d_LR_level_85 : decode prog_1_method_14_code 85 = .ok (.invokevirtual 181, 3) := by decide +kernel
theorem d_LR_level_88 : decode prog_1_method_14_code 88 = .ok (.ireturn, 1) := by decide +kernel
set_option maxHeartbeats 4000000 in
set_option maxRecDepth 100000 in
theorem w_LR_level (x1 : Int32) (x2 : Int32)  (C : Cx prog_1_method_14_code 3 "LakeRelief" (Option.some Jvm.ClassFile.FieldType.int) p s m args meth c) (hG : Geo D adr cA s) {res : Int32} (hf : f_LR_level μ x1 x2 = some res) (hq : ∀ (pc : Nat) (ls : Array Slot) (H : Heap) (locs : List Loc), decode prog_1_method_14_code pc = .ok (.ireturn, 1) → va_P D cls (wld adr cA μ ν) H → va_S (AA adr) s.heap H locs → W p l e rm_LR_level s m args below meth c H locs 0 0 Q (F0 m pc ls [.int res])) {H : Heap} {locs : List Loc} {ls : Array Slot} (hP : va_P D cls (wld adr cA μ ν) H) (hS : va_S (AA adr) s.heap H locs) (hl : lv_has ls 3 [(0, .ref (adr 0)), (1, .int x1), (2, .int x2)]) : W p l e rm_LR_level s m args below meth c H locs 0 0 Q (F0 m 0 ls []) := by
  obtain ⟨hx, hb, hml, hown, hts, hr, hlocks⟩ := id C
  unfold f_LR_level at hf
  refine lv_aload_n hx hb d_LR_level_0 rfl (lv_at hl 0 rfl) ?_
  refine g_LR_isLaid hx hb hts hown hG hP (hts _ in_178) d_LR_level_1 ?_
  refine lv_if_ne (tgt := 10) hx hb d_LR_level_4 (by decide) (fun hc => ?_) (fun hc => ?_)
  · replace hf := if_n hc hf
    refine lv_aload_n hx hb d_LR_level_10 rfl (lv_at hl 0 rfl) ?_
    refine g_LR_lakes hx hb hts hown hG hP (hts _ in_177) d_LR_level_11 ?_
    refine lv_iload_n hx hb d_LR_level_14 rfl (lv_at hl 1 rfl) ?_
    refine ki (kv (As := [.int x1]) (rest := []) ⟨hx, hb, hml, hown, hts⟩ (cw_LR_116 hts ⟨Nat.le_of_ble_eq_true rfl, Nat.le_of_ble_eq_true rfl⟩) (c_LK_isLake l D adr cA μ ν x1) hG hP (rc_o (q := 26) (ci := 1) hG hP (by decide) (wc_C (by decide) rfl) rfl) rfl hl.1 (Nat.le_of_ble_eq_true rfl) d_LR_level_15) hS (fun H locs hP hS => ?_)
    refine lv_if_eq (tgt := 45) hx hb d_LR_level_18 (by decide) (fun hc => ?_) (fun hc => ?_)
    · replace hf := if_p hc hf
      refine lv_ldc (v := (-2000001)) hx hb hown (hts _ in_403) d_LR_level_45 ?_
      obtain rfl := Option.some.inj hf
      exact hq _ _ _ _ d_LR_level_47 hP hS
    · replace hf := if_n hc hf
      refine lv_aload_n hx hb d_LR_level_21 rfl (lv_at hl 0 rfl) ?_
      refine g_LR_lakes hx hb hts hown hG hP (hts _ in_177) d_LR_level_22 ?_
      refine g_LK_all hx hb hts hown hG hP (hts _ in_153) d_LR_level_25 ?_
      refine lv_iload_n hx hb d_LR_level_28 rfl (lv_at hl 1 rfl) ?_
      replace hf := G_some hf
      obtain ⟨hi1, hf⟩ := hf
      refine r_aLA hx hb hG hP hi1 d_LR_level_29 ?_
      refine g_LA_isThere hx hb hts hown hG hP (vin_lt hi1) (hts _ in_130) d_LR_level_30 ?_
      refine lv_if_eq (tgt := 45) hx hb d_LR_level_33 (by decide) (fun hc => ?_) (fun hc => ?_)
      · replace hf := if_p hc hf
        refine lv_ldc (v := (-2000001)) hx hb hown (hts _ in_403) d_LR_level_45 ?_
        obtain rfl := Option.some.inj hf
        exact hq _ _ _ _ d_LR_level_47 hP hS
      · replace hf := if_n hc hf
        refine lv_iload_n hx hb d_LR_level_36 rfl (lv_at hl 2 rfl) ?_
        refine lv_if_lt (tgt := 45) hx hb d_LR_level_37 (by decide) (fun hc => ?_) (fun hc => ?_)
        · replace hf := if_p hc hf
          refine lv_ldc (v := (-2000001)) hx hb hown (hts _ in_403) d_LR_level_45 ?_
          obtain rfl := Option.some.inj hf
          exact hq _ _ _ _ d_LR_level_47 hP hS
        · replace hf := if_n hc hf
          refine lv_iload_n hx hb d_LR_level_40 rfl (lv_at hl 2 rfl) ?_
          refine lv_iconst (v := 1) hx hb d_LR_level_41 (by decide) ?_
          refine lv_icmp_le (tgt := 48) hx hb d_LR_level_42 (by decide) (fun hc => ?_) (fun hc => ?_)
          · replace hf := if_p hc hf
            refine lv_aload_n hx hb d_LR_level_48 rfl (lv_at hl 0 rfl) ?_
            refine g_LR_relief hx hb hts hown hG hP (hts _ in_176) d_LR_level_49 ?_
            refine lv_aload_n hx hb d_LR_level_52 rfl (lv_at hl 0 rfl) ?_
            refine g_LR_lakes hx hb hts hown hG hP (hts _ in_177) d_LR_level_53 ?_
            refine g_LK_all hx hb hts hown hG hP (hts _ in_153) d_LR_level_56 ?_
            refine lv_iload_n hx hb d_LR_level_59 rfl (lv_at hl 1 rfl) ?_
            replace hf := G_some hf
            obtain ⟨hi2, hf⟩ := hf
            refine r_aLA hx hb hG hP hi2 d_LR_level_60 ?_
            refine g_LA_fields hx hb hts hown hG hP (vin_lt hi2) (hts _ in_113) d_LR_level_61 ?_
            refine lv_aload_n hx hb d_LR_level_64 rfl (lv_at hl 0 rfl) ?_
            refine g_LR_lakes hx hb hts hown hG hP (hts _ in_177) d_LR_level_65 ?_
            refine g_LK_all hx hb hts hown hG hP (hts _ in_153) d_LR_level_68 ?_
            refine lv_iload_n hx hb d_LR_level_71 rfl (lv_at hl 1 rfl) ?_
            replace hf := G_some hf
            obtain ⟨hi3, hf⟩ := hf
            refine r_aLA hx hb hG hP hi3 d_LR_level_72 ?_
            refine g_LA_water hx hb hts hown hG hP (vin_lt hi3) (hts _ in_133) d_LR_level_73 ?_
            refine lv_iload_n hx hb d_LR_level_76 rfl (lv_at hl 2 rfl) ?_
            replace hf := B_some hf
            obtain ⟨v4, hv4, hf⟩ := hf
            have hJ : ∀ (H : Heap) (locs : List Loc) (ls : Array Slot), va_P D cls (wld adr cA μ ν) H → va_S (AA adr) s.heap H locs → lv_has ls 3 [] → W p l e rm_LR_level s m args below meth c H locs 0 0 Q (F0 m 85 ls [.int v4, .int (μ.1 (28 + x1.toNatClampNeg) 7), .long (μ.2 (28 + x1.toNatClampNeg) 0), .ref (adr 18)]) := by
              clear hv4
              intro H locs ls hP hS hl
              replace hf := B_some hf
              obtain ⟨v5, hv5, hf⟩ := hf
              refine ki (kv (As := [.long (μ.2 (28 + x1.toNatClampNeg) 0), .int (μ.1 (28 + x1.toNatClampNeg) 7), .int v4]) (rest := []) ⟨hx, hb, hml, hown, hts⟩ (cw_LR_181 hts ⟨Nat.le_of_ble_eq_true rfl, Nat.le_of_ble_eq_true rfl⟩) (c_RE_surface l D adr cA μ ν (μ.2 (28 + x1.toNatClampNeg) 0) (μ.1 (28 + x1.toNatClampNeg) 7) v4 hv5) hG hP (rc_o (q := 18) (ci := 2) hG hP (by decide) (wc_C (by decide) rfl) rfl) rfl hl.1 (Nat.le_of_ble_eq_true rfl) d_LR_level_85) hS (fun H locs hP hS => ?_)
              obtain rfl := Option.some.inj hf
              exact hq _ _ _ _ d_LR_level_88 hP hS
            clear hf
            have hf := hv4
            clear hv4
            refine lv_if_ne (tgt := 84) hx hb d_LR_level_77 (by decide) (fun hc => ?_) (fun hc => ?_)
            · replace hf := if_n hc hf
              refine lv_iconst (v := 0) hx hb d_LR_level_84 (by decide) ?_
              obtain rfl := Option.some.inj hf
              exact hJ _ _ _ hP hS (lv_sub hl [] rfl)
            · replace hf := if_p hc hf
              refine lv_iconst (v := 1) hx hb d_LR_level_80 (by decide) ?_
              refine lv_goto (tgt := 85) hx hb d_LR_level_81 (by decide) ?_
              obtain rfl := Option.some.inj hf
              exact hJ _ _ _ hP hS (lv_sub hl [] rfl)
          · replace hf := if_n hc hf
            refine lv_ldc (v := (-2000001)) hx hb hown (hts _ in_403) d_LR_level_45 ?_
            obtain rfl := Option.some.inj hf
            exact hq _ _ _ _ d_LR_level_47 hP hS
  · replace hf := if_p hc hf
    refine lv_ldc (v := (-2000002)) hx hb hown (hts _ in_401) d_LR_level_7 ?_
    obtain rfl := Option.some.inj hf
    exact hq _ _ _ _ d_LR_level_9 hP hS
theorem c_LR_level (l : Launch) (D : va_G) (adr : Nat → Nat) (cA : Nat → ClassId) (μ ν : Mem) (x1 : Int32) (x2 : Int32)  {res : Int32} (hf : f_LR_level μ x1 x2 = some res) : Met l y_LR_level (Cond.code y_LR_level prog_1_method_14_code 3 (Option.some Jvm.ClassFile.FieldType.int) :: lw_ok) rm_LR_level (va_Pc [.ref (adr 0), .int x1, .int x2] (Wd D adr cA μ ν)) (QI D adr cA res μ ν) 0 0 (AA adr) :=
  met_of (own := "LakeRelief") rfl rfl (Nat.le_of_ble_eq_true rfl) (fun p e s m below meth c C hG hP hS ls hl => w_LR_level x1 x2  C hG hf (fun pc ls H locs hd hP hS => ret_i C.1 C.2.1 C.2.2.2.2.2.1 C.2.2.2.2.2.2 hG hd hP hS) hP hS hl)
end X_LR_level
section X_LR_isSeaLevel
variable {p : Program} {l : Launch} {e : Env} {s : State} {m : MethodId} {args : Array Value} {below : List Frame} {meth : Method} {c : Code} {Q : State → Prop}
variable {D : va_G} {adr : Nat → Nat} {cA : Nat → ClassId} {μ ν : Mem}
theorem d_LR_isSeaLevel_0 : decode prog_1_method_23_code 0 = .ok (.iload_n 0, 1) := by decide +kernel
theorem d_LR_isSeaLevel_1 : decode prog_1_method_23_code 1 = .ok (.ldc 231, 2) := by decide +kernel
theorem d_LR_isSeaLevel_3 : decode prog_1_method_23_code 3 = .ok (.if_icmp .lt 13, 3) := by decide +kernel
theorem d_LR_isSeaLevel_6 : decode prog_1_method_23_code 6 = .ok (.iload_n 0, 1) := by decide +kernel
theorem d_LR_isSeaLevel_7 : decode prog_1_method_23_code 7 = .ok (.ldc 232, 2) := by decide +kernel
theorem d_LR_isSeaLevel_9 : decode prog_1_method_23_code 9 = .ok (.if_icmp .gt 7, 3) := by decide +kernel
theorem d_LR_isSeaLevel_12 : decode prog_1_method_23_code 12 = .ok (.iconst 1, 1) := by decide +kernel
theorem d_LR_isSeaLevel_13 : decode prog_1_method_23_code 13 = .ok (.goto 4, 3) := by decide +kernel
theorem d_LR_isSeaLevel_16 : decode prog_1_method_23_code 16 = .ok (.iconst 0, 1) := by decide +kernel
theorem d_LR_isSeaLevel_17 : decode prog_1_method_23_code 17 = .ok (.ireturn, 1) := by decide +kernel
set_option maxHeartbeats 4000000 in
set_option maxRecDepth 100000 in
theorem w_LR_isSeaLevel (x0 : Int32)  (C : Cx prog_1_method_23_code 1 "LakeRelief" (Option.some Jvm.ClassFile.FieldType.boolean) p s m args meth c) (hG : Geo D adr cA s) {res : Int32} (hf : f_LR_isSeaLevel x0 = res) (hq : ∀ (pc : Nat) (ls : Array Slot) (H : Heap) (locs : List Loc), res &&& 1 = res → decode prog_1_method_23_code pc = .ok (.ireturn, 1) → va_P D cls (wld adr cA μ ν) H → va_S (AA adr) s.heap H locs → W p l e rm_LR_isSeaLevel s m args below meth c H locs 0 0 Q (F0 m pc ls [.int res])) {H : Heap} {locs : List Loc} {ls : Array Slot} (hP : va_P D cls (wld adr cA μ ν) H) (hS : va_S (AA adr) s.heap H locs) (hl : lv_has ls 1 [(0, .int x0)]) : W p l e rm_LR_isSeaLevel s m args below meth c H locs 0 0 Q (F0 m 0 ls []) := by
  obtain ⟨hx, hb, hml, hown, hts, hr, hlocks⟩ := id C
  unfold f_LR_isSeaLevel at hf
  refine lv_iload_n hx hb d_LR_isSeaLevel_0 rfl (lv_at hl 0 rfl) ?_
  refine lv_ldc (v := (-1000000)) hx hb hown (hts _ in_242) d_LR_isSeaLevel_1 ?_
  refine lv_icmp_lt (tgt := 16) hx hb d_LR_isSeaLevel_3 (by decide) (fun hc => ?_) (fun hc => ?_)
  · replace hf := if_p hc hf
    refine lv_iconst (v := 0) hx hb d_LR_isSeaLevel_16 (by decide) ?_
    subst hf
    exact hq _ _ _ _ (by decide) d_LR_isSeaLevel_17 hP hS
  · replace hf := if_n hc hf
    refine lv_iload_n hx hb d_LR_isSeaLevel_6 rfl (lv_at hl 0 rfl) ?_
    refine lv_ldc (v := 1000001) hx hb hown (hts _ in_519) d_LR_isSeaLevel_7 ?_
    refine lv_icmp_gt (tgt := 16) hx hb d_LR_isSeaLevel_9 (by decide) (fun hc => ?_) (fun hc => ?_)
    · replace hf := if_p hc hf
      refine lv_iconst (v := 0) hx hb d_LR_isSeaLevel_16 (by decide) ?_
      subst hf
      exact hq _ _ _ _ (by decide) d_LR_isSeaLevel_17 hP hS
    · replace hf := if_n hc hf
      refine lv_iconst (v := 1) hx hb d_LR_isSeaLevel_12 (by decide) ?_
      refine lv_goto (tgt := 17) hx hb d_LR_isSeaLevel_13 (by decide) ?_
      subst hf
      exact hq _ _ _ _ (by decide) d_LR_isSeaLevel_17 hP hS
theorem c_LR_isSeaLevel (l : Launch) (D : va_G) (adr : Nat → Nat) (cA : Nat → ClassId) (μ ν : Mem) (x0 : Int32)  : Met l y_LR_isSeaLevel (Cond.code y_LR_isSeaLevel prog_1_method_23_code 1 (Option.some Jvm.ClassFile.FieldType.boolean) :: lw_ok) rm_LR_isSeaLevel (va_Pc [.int x0] (Wd D adr cA μ ν)) (QI D adr cA (f_LR_isSeaLevel x0) μ ν) 0 0 (AA adr) :=
  met_of (own := "LakeRelief") rfl rfl (Nat.le_of_ble_eq_true rfl) (fun p e s m below meth c C hG hP hS ls hl => w_LR_isSeaLevel x0  C hG rfl (fun pc ls H locs hz hd hP hS => ret_z C.1 C.2.1 C.2.2.2.2.2.1 C.2.2.2.2.2.2 hG hz hd hP hS) hP hS hl)
end X_LR_isSeaLevel
section X_LR_rise
variable {p : Program} {l : Launch} {e : Env} {s : State} {m : MethodId} {args : Array Value} {below : List Frame} {meth : Method} {c : Code} {Q : State → Prop}
variable {D : va_G} {adr : Nat → Nat} {cA : Nat → ClassId} {μ ν : Mem}
theorem d_LR_rise_0 : decode prog_1_method_15_code 0 = .ok (.aload_n 0, 1) := by decide +kernel
theorem d_LR_rise_1 : decode prog_1_method_15_code 1 = .ok (.getfield 32, 3) := by decide +kernel
theorem d_LR_rise_4 : decode prog_1_method_15_code 4 = .ok (.ifCond .ne 6, 3) := by decide +kernel
theorem d_LR_rise_7 : decode prog_1_method_15_code 7 = .ok (.bipush (-2), 2) := by decide +kernel
theorem d_LR_rise_9 : decode prog_1_method_15_code 9 = .ok (.ireturn, 1) := by decide +kernel
theorem d_LR_rise_10 : decode prog_1_method_15_code 10 = .ok (.iload_n 1, 1) := by decide +kernel
theorem d_LR_rise_11 : decode prog_1_method_15_code 11 = .ok (.invokestatic 185, 3) := by decide +kernel
theorem d_LR_rise_14 : decode prog_1_method_15_code 14 = .ok (.ifCond .ne 5, 3) := by decide +kernel
theorem d_LR_rise_17 : decode prog_1_method_15_code 17 = .ok (.iconst (-1), 1) := by decide +kernel
theorem d_LR_rise_18 : decode prog_1_method_15_code 18 = .ok (.ireturn, 1) := by decide +kernel
theorem d_LR_rise_19 : decode prog_1_method_15_code 19 = .ok (.aload_n 0, 1) := by decide +kernel
theorem d_LR_rise_20 : decode prog_1_method_15_code 20 = .ok (.getfield 19, 3) := by decide +kernel
theorem d_LR_rise_23 : decode prog_1_method_15_code 23 = .ok (.getfield 86, 3) := by decide +kernel
theorem d_LR_rise_26 : decode prog_1_method_15_code 26 = .ok (.aload_n 0, 1) := by decide +kernel
theorem d_LR_rise_27 : decode prog_1_method_15_code 27 = .ok (.getfield 19, 3) := by decide +kernel
theorem d_LR_rise_30 : decode prog_1_method_15_code 30 = .ok (.iload_n 1, 1) := by decide +kernel
theorem d_LR_rise_31 : decode prog_1_method_15_code 31 = .ok (.invokevirtual 188, 3) := by decide +kernel
theorem d_LR_rise_34 : decode prog_1_method_15_code 34 = .ok (.invokestatic 149, 3) := by decide +kernel
theorem d_LR_rise_37 : decode prog_1_method_15_code 37 = .ok (.isub, 1) := by decide +kernel
theorem d_LR_rise_38 : decode prog_1_method_15_code 38 = .ok (.ireturn, 1) := by decide +kernel
set_option maxHeartbeats 4000000 in
set_option maxRecDepth 100000 in
theorem w_LR_rise (x1 : Int32)  (C : Cx prog_1_method_15_code 2 "LakeRelief" (Option.some Jvm.ClassFile.FieldType.int) p s m args meth c) (hG : Geo D adr cA s) {res : Int32} (hf : f_LR_rise μ x1 = some res) (hq : ∀ (pc : Nat) (ls : Array Slot) (H : Heap) (locs : List Loc), decode prog_1_method_15_code pc = .ok (.ireturn, 1) → va_P D cls (wld adr cA μ ν) H → va_S (AA adr) s.heap H locs → W p l e rm_LR_rise s m args below meth c H locs 0 0 Q (F0 m pc ls [.int res])) {H : Heap} {locs : List Loc} {ls : Array Slot} (hP : va_P D cls (wld adr cA μ ν) H) (hS : va_S (AA adr) s.heap H locs) (hl : lv_has ls 2 [(0, .ref (adr 0)), (1, .int x1)]) : W p l e rm_LR_rise s m args below meth c H locs 0 0 Q (F0 m 0 ls []) := by
  obtain ⟨hx, hb, hml, hown, hts, hr, hlocks⟩ := id C
  unfold f_LR_rise at hf
  refine lv_aload_n hx hb d_LR_rise_0 rfl (lv_at hl 0 rfl) ?_
  refine g_LR_isLaid hx hb hts hown hG hP (hts _ in_178) d_LR_rise_1 ?_
  refine lv_if_ne (tgt := 10) hx hb d_LR_rise_4 (by decide) (fun hc => ?_) (fun hc => ?_)
  · replace hf := if_n hc hf
    refine lv_iload_n hx hb d_LR_rise_10 rfl (lv_at hl 1 rfl) ?_
    refine ki (ks (As := [.int x1]) (rest := []) ⟨hx, hb, hml, hown, hts⟩ (cw_LR_185 hts ⟨Nat.le_of_ble_eq_true rfl, Nat.le_of_ble_eq_true rfl⟩) (c_LR_isSeaLevel l D adr cA μ ν x1) hG hP rfl hl.1 (Nat.le_of_ble_eq_true rfl) d_LR_rise_11) hS (fun H locs hP hS => ?_)
    refine lv_if_ne (tgt := 19) hx hb d_LR_rise_14 (by decide) (fun hc => ?_) (fun hc => ?_)
    · replace hf := if_n hc hf
      refine lv_aload_n hx hb d_LR_rise_19 rfl (lv_at hl 0 rfl) ?_
      refine g_LR_relief hx hb hts hown hG hP (hts _ in_176) d_LR_rise_20 ?_
      refine g_RE_landCount hx hb hts hown hG hP (hts _ in_63) d_LR_rise_23 ?_
      refine lv_aload_n hx hb d_LR_rise_26 rfl (lv_at hl 0 rfl) ?_
      refine g_LR_relief hx hb hts hown hG hP (hts _ in_176) d_LR_rise_27 ?_
      refine lv_iload_n hx hb d_LR_rise_30 rfl (lv_at hl 1 rfl) ?_
      replace hf := B_some hf
      obtain ⟨v1, hv1, hf⟩ := hf
      refine kl (kv (As := [.int x1]) (rest := [.int (μ.1 18 9)]) ⟨hx, hb, hml, hown, hts⟩ (cw_LR_188 hts ⟨Nat.le_of_ble_eq_true rfl, Nat.le_of_ble_eq_true rfl⟩) (c_RE_landLeftAt l D adr cA μ ν x1 hv1) hG hP (rc_o (q := 18) (ci := 2) hG hP (by decide) (wc_C (by decide) rfl) rfl) rfl hl.1 (Nat.le_of_ble_eq_true rfl) d_LR_rise_31) hS (fun H locs hP hS => ?_)
      refine ki (ks (As := [.long v1]) (rest := [.int (μ.1 18 9)]) ⟨hx, hb, hml, hown, hts⟩ (cw_LR_149 hts ⟨Nat.le_of_ble_eq_true rfl, Nat.le_of_ble_eq_true rfl⟩) (c_JL_bitCount l D adr cA μ ν v1) hG hP rfl hl.1 (Nat.le_of_ble_eq_true rfl) d_LR_rise_34) hS (fun H locs hP hS => ?_)
      refine lv_isub hx hb d_LR_rise_37 ?_
      obtain rfl := Option.some.inj hf
      exact hq _ _ _ _ d_LR_rise_38 hP hS
    · replace hf := if_p hc hf
      refine lv_iconst (v := (-1)) hx hb d_LR_rise_17 (by decide) ?_
      obtain rfl := Option.some.inj hf
      exact hq _ _ _ _ d_LR_rise_18 hP hS
  · replace hf := if_p hc hf
    refine lv_bipush (v := (-2)) hx hb d_LR_rise_7 (by decide) ?_
    obtain rfl := Option.some.inj hf
    exact hq _ _ _ _ d_LR_rise_9 hP hS
theorem c_LR_rise (l : Launch) (D : va_G) (adr : Nat → Nat) (cA : Nat → ClassId) (μ ν : Mem) (x1 : Int32)  {res : Int32} (hf : f_LR_rise μ x1 = some res) : Met l y_LR_rise (Cond.code y_LR_rise prog_1_method_15_code 2 (Option.some Jvm.ClassFile.FieldType.int) :: lw_ok) rm_LR_rise (va_Pc [.ref (adr 0), .int x1] (Wd D adr cA μ ν)) (QI D adr cA res μ ν) 0 0 (AA adr) :=
  met_of (own := "LakeRelief") rfl rfl (Nat.le_of_ble_eq_true rfl) (fun p e s m below meth c C hG hP hS ls hl => w_LR_rise x1  C hG hf (fun pc ls H locs hd hP hS => ret_i C.1 C.2.1 C.2.2.2.2.2.1 C.2.2.2.2.2.2 hG hd hP hS) hP hS hl)
end X_LR_rise
