section X_MO_newLake
variable {p : Program} {l : Launch} {e : Env} {s : State} {m : MethodId} {args : Array Value} {below : List Frame} {meth : Method} {c : Code} {Q : State → Prop}
variable {D : va_G} {adr : Nat → Nat} {cA : Nat → ClassId} {μ ν : Mem}
theorem d_MO_newLake_0 : decode prog_7_method_15_code 0 = .ok (.aload_n 0, 1) := by decide +kernel
theorem d_MO_newLake_1 : decode prog_7_method_15_code 1 = .ok (.getfield 116, 3) := by decide +kernel
theorem d_MO_newLake_4 : decode prog_7_method_15_code 4 = .ok (.istore_n 1, 1) := by decide +kernel
theorem d_MO_newLake_5 : decode prog_7_method_15_code 5 = .ok (.aload_n 0, 1) := by decide +kernel
theorem d_MO_newLake_6 : decode prog_7_method_15_code 6 = .ok (.dup, 1) := by decide +kernel
theorem d_MO_newLake_7 : decode prog_7_method_15_code 7 = .ok (.getfield 116, 3) := by decide +kernel
theorem d_MO_newLake_10 : decode prog_7_method_15_code 10 = .ok (.iconst 1, 1) := by decide +kernel
theorem d_MO_newLake_11 : decode prog_7_method_15_code 11 = .ok (.iadd, 1) := by decide +kernel
theorem d_MO_newLake_12 : decode prog_7_method_15_code 12 = .ok (.putfield 116, 3) := by decide +kernel
theorem d_MO_newLake_15 : decode prog_7_method_15_code 15 = .ok (.aload_n 0, 1) := by decide +kernel
theorem d_MO_newLake_16 : decode prog_7_method_15_code 16 = .ok (.getfield 35, 3) := by decide +kernel
theorem d_MO_newLake_19 : decode prog_7_method_15_code 19 = .ok (.iload_n 1, 1) := by decide +kernel
theorem d_MO_newLake_20 : decode prog_7_method_15_code 20 = .ok (.iconst 0, 1) := by decide +kernel
theorem d_MO_newLake_21 : decode prog_7_method_15_code 21 = .ok (.bastore, 1) := by decide +kernel
theorem d_MO_newLake_22 : decode prog_7_method_15_code 22 = .ok (.aload_n 0, 1) := by decide +kernel
theorem d_MO_newLake_23 : decode prog_7_method_15_code 23 = .ok (.getfield 38, 3) := by decide +kernel
theorem d_MO_newLake_26 : decode prog_7_method_15_code 26 = .ok (.iload_n 1, 1) := by decide +kernel
theorem d_MO_newLake_27 : decode prog_7_method_15_code 27 = .ok (.lconst 0, 1) := by decide +kernel
theorem d_MO_newLake_28 : decode prog_7_method_15_code 28 = .ok (.lastore, 1) := by decide +kernel
theorem d_MO_newLake_29 : decode prog_7_method_15_code 29 = .ok (.aload_n 0, 1) := by decide +kernel
theorem d_MO_newLake_30 : decode prog_7_method_15_code 30 = .ok (.getfield 42, 3) := by decide +kernel
theorem d_MO_newLake_33 : decode prog_7_method_15_code 33 = .ok (.iload_n 1, 1) := by decide +kernel
theorem d_MO_newLake_34 : decode prog_7_method_15_code 34 = .ok (.bipush (-3), 2) := by decide +kernel
theorem d_MO_newLake_36 : decode prog_7_method_15_code 36 = .ok (.iastore, 1) := by decide +kernel
theorem d_MO_newLake_37 : decode prog_7_method_15_code 37 = .ok (.aload_n 0, 1) := by decide +kernel
theorem d_MO_newLake_38 : decode prog_7_method_15_code 38 = .ok (.getfield 45, 3) := by decide +kernel
theorem d_MO_newLake_41 : decode prog_7_method_15_code 41 = .ok (.iload_n 1, 1) := by decide +kernel
theorem d_MO_newLake_42 : decode prog_7_method_15_code 42 = .ok (.bipush (-3), 2) := by decide +kernel
theorem d_MO_newLake_44 : decode prog_7_method_15_code 44 = .ok (.iastore, 1) := by decide +kernel
theorem d_MO_newLake_45 : decode prog_7_method_15_code 45 = .ok (.aload_n 0, 1) := by decide +kernel
theorem d_MO_newLake_46 : decode prog_7_method_15_code 46 = .ok (.getfield 48, 3) := by decide +kernel
theorem d_MO_newLake_49 : decode prog_7_method_15_code 49 = .ok (.iload_n 1, 1) := by decide +kernel
theorem d_MO_newLake_50 : decode prog_7_method_15_code 50 = .ok (.bipush (-3), 2) := by decide +kernel
theorem d_MO_newLake_52 : decode prog_7_method_15_code 52 = .ok (.iastore, 1) := by decide +kernel
theorem d_MO_newLake_53 : decode prog_7_method_15_code 53 = .ok (.aload_n 0, 1) := by decide +kernel
theorem d_MO_newLake_54 : decode prog_7_method_15_code 54 = .ok (.getfield 51, 3) := by decide +kernel
theorem d_MO_newLake_57 : decode prog_7_method_15_code 57 = .ok (.iload_n 1, 1) := by decide +kernel
theorem d_MO_newLake_58 : decode prog_7_method_15_code 58 = .ok (.bipush (-3), 2) := by decide +kernel
theorem d_MO_newLake_60 : decode prog_7_method_15_code 60 = .ok (.iastore, 1) := by decide +kernel
theorem d_MO_newLake_61 : decode prog_7_method_15_code 61 = .ok (.aload_n 0, 1) := by decide +kernel
theorem d_MO_newLake_62 : decode prog_7_method_15_code 62 = .ok (.getfield 54, 3) := by decide +kernel
theorem d_MO_newLake_65 : decode prog_7_method_15_code 65 = .ok (.iload_n 1, 1) := by decide +kernel
theorem d_MO_newLake_66 : decode prog_7_method_15_code 66 = .ok (.iconst 0, 1) := by decide +kernel
theorem d_MO_newLake_67 : decode prog_7_method_15_code 67 = .ok (.bastore, 1) := by decide +kernel
theorem d_MO_newLake_68 : decode prog_7_method_15_code 68 = .ok (.aload_n 0, 1) := by decide +kernel
theorem d_MO_newLake_69 : decode prog_7_method_15_code 69 = .ok (.getfield 57, 3) := by decide +kernel
theorem d_MO_newLake_72 : decode prog_7_method_15_code 72 = .ok (.iload_n 1, 1) := by decide +kernel
theorem d_MO_newLake_73 : decode prog_7_method_15_code 73 = .ok (.iconst 0, 1) := by decide +kernel
theorem d_MO_newLake_74 : decode prog_7_method_15_code 74 = .ok (.iastore, 1) := by decide +kernel
theorem d_MO_newLake_75 : decode prog_7_method_15_code 75 = .ok (.iload_n 1, 1) := by decide +kernel
theorem d_MO_newLake_76 : decode prog_7_method_15_code 76 = .ok (.ireturn, 1) := by decide +kernel
set_option maxHeartbeats 4000000 in
set_option maxRecDepth 100000 in
theorem w_MO_newLake   (C : Cx prog_7_method_15_code 2 "LakeReliefModel" (Option.some Jvm.ClassFile.FieldType.int) p s m args meth c) (hG : Geo D adr cA s) {res : Int32 × Mem} (hf : f_MO_newLake ν  = some res) (hq : ∀ (pc : Nat) (ls : Array Slot) (H : Heap) (locs : List Loc), decode prog_7_method_15_code pc = .ok (.ireturn, 1) → va_P D cls (wld adr cA μ res.2) H → va_S (AA adr) s.heap H locs → W p l e rm_MO_newLake s m args below meth c H locs 0 0 Q (F0 m pc ls [.int res.1])) {H : Heap} {locs : List Loc} {ls : Array Slot} (hP : va_P D cls (wld adr cA μ ν) H) (hS : va_S (AA adr) s.heap H locs) (hl : lv_has ls 2 [(0, .ref (adr 63))]) : W p l e rm_MO_newLake s m args below meth c H locs 0 0 Q (F0 m 0 ls []) := by
  obtain ⟨hx, hb, hml, hown, hts, hr, hlocks⟩ := id C
  unfold f_MO_newLake at hf
  refine lv_aload_n hx hb d_MO_newLake_0 rfl (lv_at hl 0 rfl) ?_
  refine g_MO_lakes hx hb hts hown hG hP (hts _ in_572) d_MO_newLake_1 ?_
  refine lv_istore_n (lv' := [(1, .int (ν.1 63 11)), (0, .ref (adr 63))]) hx hb d_MO_newLake_4 rfl hl (by decide) rfl (fun ls hl => ?_)
  refine lv_aload_n hx hb d_MO_newLake_5 rfl (lv_at hl 1 rfl) ?_
  refine lv_dup hx hb d_MO_newLake_6 rfl ?_
  refine g_MO_lakes hx hb hts hown hG hP (hts _ in_572) d_MO_newLake_7 ?_
  refine lv_iconst (v := 1) hx hb d_MO_newLake_10 (by decide) ?_
  refine lv_iadd hx hb d_MO_newLake_11 ?_
  refine p_MO_lakes hx hb hts hown hG hP hS (hts _ in_572) d_MO_newLake_12 (fun H locs hP hS => ?_)
  refine lv_aload_n hx hb d_MO_newLake_15 rfl (lv_at hl 1 rfl) ?_
  refine g_MO_isDouble hx hb hts hown hG hP (hts _ in_573) d_MO_newLake_16 ?_
  refine lv_iload_n hx hb d_MO_newLake_19 rfl (lv_at hl 0 rfl) ?_
  refine lv_iconst (v := 0) hx hb d_MO_newLake_20 (by decide) ?_
  replace hf := G_some hf
  obtain ⟨hi1, hf⟩ := hf
  refine rM_zast hx hb hG hP hS 72 64 (by decide) (by decide) (fun _ _ => rfl) hi1 d_MO_newLake_21 (fun H locs hP hS => ?_)
  refine lv_aload_n hx hb d_MO_newLake_22 rfl (lv_at hl 1 rfl) ?_
  refine g_MO_ground hx hb hts hown hG hP (hts _ in_574) d_MO_newLake_23 ?_
  refine lv_iload_n hx hb d_MO_newLake_26 rfl (lv_at hl 0 rfl) ?_
  refine lv_lconst (v := 0) hx hb d_MO_newLake_27 (by decide) ?_
  replace hf := G_some hf
  obtain ⟨hi2, hf⟩ := hf
  refine rM_last hx hb hG hP hS 73 64 (by decide) (by decide) (fun _ _ => rfl) hi2 d_MO_newLake_28 (fun H locs hP hS => ?_)
  refine lv_aload_n hx hb d_MO_newLake_29 rfl (lv_at hl 1 rfl) ?_
  refine g_MO_rim hx hb hts hown hG hP (hts _ in_575) d_MO_newLake_30 ?_
  refine lv_iload_n hx hb d_MO_newLake_33 rfl (lv_at hl 0 rfl) ?_
  refine lv_bipush (v := (-3)) hx hb d_MO_newLake_34 (by decide) ?_
  replace hf := G_some hf
  obtain ⟨hi3, hf⟩ := hf
  refine rM_iast hx hb hG hP hS 74 64 (by decide) (by decide) (fun _ _ => rfl) hi3 d_MO_newLake_36 (fun H locs hP hS => ?_)
  refine lv_aload_n hx hb d_MO_newLake_37 rfl (lv_at hl 1 rfl) ?_
  refine g_MO_above hx hb hts hown hG hP (hts _ in_576) d_MO_newLake_38 ?_
  refine lv_iload_n hx hb d_MO_newLake_41 rfl (lv_at hl 0 rfl) ?_
  refine lv_bipush (v := (-3)) hx hb d_MO_newLake_42 (by decide) ?_
  replace hf := G_some hf
  obtain ⟨hi4, hf⟩ := hf
  refine rM_iast hx hb hG hP hS 75 64 (by decide) (by decide) (fun _ _ => rfl) hi4 d_MO_newLake_44 (fun H locs hP hS => ?_)
  refine lv_aload_n hx hb d_MO_newLake_45 rfl (lv_at hl 1 rfl) ?_
  refine g_MO_first hx hb hts hown hG hP (hts _ in_577) d_MO_newLake_46 ?_
  refine lv_iload_n hx hb d_MO_newLake_49 rfl (lv_at hl 0 rfl) ?_
  refine lv_bipush (v := (-3)) hx hb d_MO_newLake_50 (by decide) ?_
  replace hf := G_some hf
  obtain ⟨hi5, hf⟩ := hf
  refine rM_iast hx hb hG hP hS 76 64 (by decide) (by decide) (fun _ _ => rfl) hi5 d_MO_newLake_52 (fun H locs hP hS => ?_)
  refine lv_aload_n hx hb d_MO_newLake_53 rfl (lv_at hl 1 rfl) ?_
  refine g_MO_second hx hb hts hown hG hP (hts _ in_578) d_MO_newLake_54 ?_
  refine lv_iload_n hx hb d_MO_newLake_57 rfl (lv_at hl 0 rfl) ?_
  refine lv_bipush (v := (-3)) hx hb d_MO_newLake_58 (by decide) ?_
  replace hf := G_some hf
  obtain ⟨hi6, hf⟩ := hf
  refine rM_iast hx hb hG hP hS 77 64 (by decide) (by decide) (fun _ _ => rfl) hi6 d_MO_newLake_60 (fun H locs hP hS => ?_)
  refine lv_aload_n hx hb d_MO_newLake_61 rfl (lv_at hl 1 rfl) ?_
  refine g_MO_isThere hx hb hts hown hG hP (hts _ in_579) d_MO_newLake_62 ?_
  refine lv_iload_n hx hb d_MO_newLake_65 rfl (lv_at hl 0 rfl) ?_
  refine lv_iconst (v := 0) hx hb d_MO_newLake_66 (by decide) ?_
  replace hf := G_some hf
  obtain ⟨hi7, hf⟩ := hf
  refine rM_zast hx hb hG hP hS 78 64 (by decide) (by decide) (fun _ _ => rfl) hi7 d_MO_newLake_67 (fun H locs hP hS => ?_)
  refine lv_aload_n hx hb d_MO_newLake_68 rfl (lv_at hl 1 rfl) ?_
  refine g_MO_water hx hb hts hown hG hP (hts _ in_580) d_MO_newLake_69 ?_
  refine lv_iload_n hx hb d_MO_newLake_72 rfl (lv_at hl 0 rfl) ?_
  refine lv_iconst (v := 0) hx hb d_MO_newLake_73 (by decide) ?_
  replace hf := G_some hf
  obtain ⟨hi8, hf⟩ := hf
  refine rM_iast hx hb hG hP hS 79 64 (by decide) (by decide) (fun _ _ => rfl) hi8 d_MO_newLake_74 (fun H locs hP hS => ?_)
  refine lv_iload_n hx hb d_MO_newLake_75 rfl (lv_at hl 0 rfl) ?_
  obtain rfl := Option.some.inj hf
  exact hq _ _ _ _ d_MO_newLake_76 hP hS
theorem c_MO_newLake (l : Launch) (D : va_G) (adr : Nat → Nat) (cA : Nat → ClassId) (μ ν : Mem)   {res : Int32 × Mem} (hf : f_MO_newLake ν  = some res) : Met l y_MO_newLake (Cond.code y_MO_newLake prog_7_method_15_code 2 (Option.some Jvm.ClassFile.FieldType.int) :: lw_ok) rm_MO_newLake (va_Pc [.ref (adr 63)] (Wd D adr cA μ ν)) (QI D adr cA res.1 μ res.2) 0 0 (AA adr) :=
  met_of (own := "LakeReliefModel") rfl rfl (Nat.le_of_ble_eq_true rfl) (fun p e s m below meth c C hG hP hS ls hl => w_MO_newLake   C hG hf (fun pc ls H locs hd hP hS => ret_i C.1 C.2.1 C.2.2.2.2.2.1 C.2.2.2.2.2.2 hG hd hP hS) hP hS hl)
end X_MO_newLake
section X_MO_joins
variable {p : Program} {l : Launch} {e : Env} {s : State} {m : MethodId} {args : Array Value} {below : List Frame} {meth : Method} {c : Code} {Q : State → Prop}
variable {D : va_G} {adr : Nat → Nat} {cA : Nat → ClassId} {μ ν : Mem}
theorem d_MO_joins_0 : decode prog_7_method_16_code 0 = .ok (.aload_n 0, 1) := by decide +kernel
theorem d_MO_joins_1 : decode prog_7_method_16_code 1 = .ok (.getfield 38, 3) := by decide +kernel
theorem d_MO_joins_4 : decode prog_7_method_16_code 4 = .ok (.iload_n 1, 1) := by decide +kernel
theorem d_MO_joins_5 : decode prog_7_method_16_code 5 = .ok (.dup2, 1) := by decide +kernel
theorem d_MO_joins_6 : decode prog_7_method_16_code 6 = .ok (.laload, 1) := by decide +kernel
theorem d_MO_joins_7 : decode prog_7_method_16_code 7 = .ok (.lconst 1, 1) := by decide +kernel
theorem d_MO_joins_8 : decode prog_7_method_16_code 8 = .ok (.iload_n 2, 1) := by decide +kernel
theorem d_MO_joins_9 : decode prog_7_method_16_code 9 = .ok (.lshl, 1) := by decide +kernel
theorem d_MO_joins_10 : decode prog_7_method_16_code 10 = .ok (.lor, 1) := by decide +kernel
theorem d_MO_joins_11 : decode prog_7_method_16_code 11 = .ok (.lastore, 1) := by decide +kernel
theorem d_MO_joins_12 : decode prog_7_method_16_code 12 = .ok (.aload_n 0, 1) := by decide +kernel
theorem d_MO_joins_13 : decode prog_7_method_16_code 13 = .ok (.getfield 63, 3) := by decide +kernel
theorem d_MO_joins_16 : decode prog_7_method_16_code 16 = .ok (.iload_n 2, 1) := by decide +kernel
theorem d_MO_joins_17 : decode prog_7_method_16_code 17 = .ok (.iload_n 1, 1) := by decide +kernel
theorem d_MO_joins_18 : decode prog_7_method_16_code 18 = .ok (.iastore, 1) := by decide +kernel
theorem d_MO_joins_19 : decode prog_7_method_16_code 19 = .ok (.return_, 1) := by decide +kernel
set_option maxHeartbeats 4000000 in
set_option maxRecDepth 100000 in
theorem w_MO_joins (x1 : Int32) (x2 : Int32)  (C : Cx prog_7_method_16_code 3 "LakeReliefModel" (Option.none : Option Jvm.ClassFile.FieldType) p s m args meth c) (hG : Geo D adr cA s) {res : Mem} (hf : f_MO_joins ν x1 x2 = some res) (hq : ∀ (pc : Nat) (ls : Array Slot) (H : Heap) (locs : List Loc), decode prog_7_method_16_code pc = .ok (.return_, 1) → va_P D cls (wld adr cA μ res) H → va_S (AA adr) s.heap H locs → W p l e rm_MO_joins s m args below meth c H locs 0 0 Q (F0 m pc ls [])) {H : Heap} {locs : List Loc} {ls : Array Slot} (hP : va_P D cls (wld adr cA μ ν) H) (hS : va_S (AA adr) s.heap H locs) (hl : lv_has ls 3 [(0, .ref (adr 63)), (1, .int x1), (2, .int x2)]) : W p l e rm_MO_joins s m args below meth c H locs 0 0 Q (F0 m 0 ls []) := by
  obtain ⟨hx, hb, hml, hown, hts, hr, hlocks⟩ := id C
  unfold f_MO_joins at hf
  refine lv_aload_n hx hb d_MO_joins_0 rfl (lv_at hl 0 rfl) ?_
  refine g_MO_ground hx hb hts hown hG hP (hts _ in_574) d_MO_joins_1 ?_
  refine lv_iload_n hx hb d_MO_joins_4 rfl (lv_at hl 1 rfl) ?_
  refine lv_dup2_11 hx hb d_MO_joins_5 rfl rfl ?_
  replace hf := G_some hf
  obtain ⟨hi1, hf⟩ := hf
  refine r_lald hx hb hG hP 73 64 (f := ν.2 73) (by decide) (wc_M (by decide) rfl) hi1 d_MO_joins_6 ?_
  refine lv_lconst (v := 1) hx hb d_MO_joins_7 (by decide) ?_
  refine lv_iload_n hx hb d_MO_joins_8 rfl (lv_at hl 2 rfl) ?_
  refine lv_lshl hx hb d_MO_joins_9 rfl ?_
  refine lv_lor hx hb d_MO_joins_10 ?_
  replace hf := G_some hf
  obtain ⟨hi2, hf⟩ := hf
  refine rM_last hx hb hG hP hS 73 64 (by decide) (by decide) (fun _ _ => rfl) hi2 d_MO_joins_11 (fun H locs hP hS => ?_)
  refine lv_aload_n hx hb d_MO_joins_12 rfl (lv_at hl 0 rfl) ?_
  refine g_MO_owner hx hb hts hown hG hP (hts _ in_584) d_MO_joins_13 ?_
  refine lv_iload_n hx hb d_MO_joins_16 rfl (lv_at hl 2 rfl) ?_
  refine lv_iload_n hx hb d_MO_joins_17 rfl (lv_at hl 1 rfl) ?_
  replace hf := G_some hf
  obtain ⟨hi3, hf⟩ := hf
  refine rM_iast hx hb hG hP hS 81 64 (by decide) (by decide) (fun _ _ => rfl) hi3 d_MO_joins_18 (fun H locs hP hS => ?_)
  obtain rfl := Option.some.inj hf
  exact hq _ _ _ _ d_MO_joins_19 hP hS
theorem c_MO_joins (l : Launch) (D : va_G) (adr : Nat → Nat) (cA : Nat → ClassId) (μ ν : Mem) (x1 : Int32) (x2 : Int32)  {res : Mem} (hf : f_MO_joins ν x1 x2 = some res) : Met l y_MO_joins (Cond.code y_MO_joins prog_7_method_16_code 3 (Option.none : Option Jvm.ClassFile.FieldType) :: lw_ok) rm_MO_joins (va_Pc [.ref (adr 63), .int x1, .int x2] (Wd D adr cA μ ν)) (QV D adr cA μ res) 0 0 (AA adr) :=
  met_of (own := "LakeReliefModel") rfl rfl (Nat.le_of_ble_eq_true rfl) (fun p e s m below meth c C hG hP hS ls hl => w_MO_joins x1 x2  C hG hf (fun pc ls H locs hd hP hS => ret_v C.1 C.2.1 C.2.2.2.2.2.1 C.2.2.2.2.2.2 hG hd hP hS) hP hS hl)
end X_MO_joins
section X_MO_becomes
variable {p : Program} {l : Launch} {e : Env} {s : State} {m : MethodId} {args : Array Value} {below : List Frame} {meth : Method} {c : Code} {Q : State → Prop}
variable {D : va_G} {adr : Nat → Nat} {cA : Nat → ClassId} {μ ν : Mem}
theorem d_MO_becomes_0 : decode prog_7_method_17_code 0 = .ok (.iconst 0, 1) := by decide +kernel
theorem d_MO_becomes_1 : decode prog_7_method_17_code 1 = .ok (.istore_n 3, 1) := by decide +kernel
theorem d_MO_becomes_2 : decode prog_7_method_17_code 2 = .ok (.iload_n 3, 1) := by decide +kernel
theorem d_MO_becomes_3 : decode prog_7_method_17_code 3 = .ok (.aload_n 0, 1) := by decide +kernel
theorem d_MO_becomes_4 : decode prog_7_method_17_code 4 = .ok (.getfield 102, 3) := by decide +kernel
theorem d_MO_becomes_7 : decode prog_7_method_17_code 7 = .ok (.if_icmp .ge 35, 3) := by decide +kernel
theorem d_MO_becomes_10 : decode prog_7_method_17_code 10 = .ok (.aload_n 0, 1) := by decide +kernel
theorem d_MO_becomes_11 : decode prog_7_method_17_code 11 = .ok (.getfield 66, 3) := by decide +kernel
theorem d_MO_becomes_14 : decode prog_7_method_17_code 14 = .ok (.iload_n 3, 1) := by decide +kernel
theorem d_MO_becomes_15 : decode prog_7_method_17_code 15 = .ok (.baload, 1) := by decide +kernel
theorem d_MO_becomes_16 : decode prog_7_method_17_code 16 = .ok (.ifCond .eq 20, 3) := by decide +kernel
theorem d_MO_becomes_19 : decode prog_7_method_17_code 19 = .ok (.aload_n 0, 1) := by decide +kernel
theorem d_MO_becomes_20 : decode prog_7_method_17_code 20 = .ok (.getfield 63, 3) := by decide +kernel
theorem d_MO_becomes_23 : decode prog_7_method_17_code 23 = .ok (.iload_n 3, 1) := by decide +kernel
theorem d_MO_becomes_24 : decode prog_7_method_17_code 24 = .ok (.iaload, 1) := by decide +kernel
theorem d_MO_becomes_25 : decode prog_7_method_17_code 25 = .ok (.iload_n 1, 1) := by decide +kernel
theorem d_MO_becomes_26 : decode prog_7_method_17_code 26 = .ok (.if_icmp .ne 10, 3) := by decide +kernel
theorem d_MO_becomes_29 : decode prog_7_method_17_code 29 = .ok (.aload_n 0, 1) := by decide +kernel
theorem d_MO_becomes_30 : decode prog_7_method_17_code 30 = .ok (.getfield 63, 3) := by decide +kernel
theorem d_MO_becomes_33 : decode prog_7_method_17_code 33 = .ok (.iload_n 3, 1) := by decide +kernel
theorem d_MO_becomes_34 : decode prog_7_method_17_code 34 = .ok (.iload_n 2, 1) := by decide +kernel
theorem d_MO_becomes_35 : decode prog_7_method_17_code 35 = .ok (.iastore, 1) := by decide +kernel
theorem d_MO_becomes_36 : decode prog_7_method_17_code 36 = .ok (.iinc 3 1, 3) := by decide +kernel
theorem d_MO_becomes_39 : decode prog_7_method_17_code 39 = .ok (.goto (-37), 3) := by decide +kernel
theorem d_MO_becomes_42 : decode prog_7_method_17_code 42 = .ok (.return_, 1) := by decide +kernel
set_option maxHeartbeats 4000000 in
set_option maxRecDepth 100000 in
theorem w_MO_becomes_L2 (y1 : Int32) (y2 : Int32)  (C : Cx prog_7_method_17_code 4 "LakeReliefModel" (Option.none : Option Jvm.ClassFile.FieldType) p s m args meth c) (hG : Geo D adr cA s) (v : Mem) (hE : ∀ (H : Heap) (locs : List Loc) (ls : Array Slot), va_P D cls (wld adr cA μ v) H → va_S (AA adr) s.heap H locs → lv_has ls 4 [] → W p l e rm_MO_becomes s m args below meth c H locs 0 0 Q (F0 m 42 ls [])) : ∀ (n : Nat) (ν : Mem) (y3 : Int32), f_MO_becomes_L2 y1 y2 n ν y3 = some v → ∀ {H : Heap} {locs : List Loc} {ls : Array Slot}, va_P D cls (wld adr cA μ ν) H → va_S (AA adr) s.heap H locs → lv_has ls 4 [(0, .ref (adr 63)), (1, .int y1), (2, .int y2), (3, .int y3)] → W p l e rm_MO_becomes s m args below meth c H locs 0 0 Q (F0 m 2 ls []) := by
  obtain ⟨hx, hb, hml, hown, hts, hr, hlocks⟩ := id C
  intro n
  induction n with
  | zero => intro ν y3 hf; rw [f_MO_becomes_L2.eq_1] at hf; cases hf
  | succ n ih =>
    intro ν y3 hf H locs ls hP hS hl
    rw [f_MO_becomes_L2.eq_2] at hf
    refine lv_iload_n hx hb d_MO_becomes_2 rfl (lv_at hl 3 rfl) ?_
    refine lv_aload_n hx hb d_MO_becomes_3 rfl (lv_at hl 0 rfl) ?_
    refine g_MO_fields hx hb hts hown hG hP (hts _ in_566) d_MO_becomes_4 ?_
    refine lv_icmp_ge (tgt := 42) hx hb d_MO_becomes_7 (by decide) (fun hc => ?_) (fun hc => ?_)
    · replace hf := if_p hc hf
      obtain rfl := Option.some.inj hf
      exact hE _ _ _ hP hS (lv_sub hl [] rfl)
    · replace hf := if_n hc hf
      refine lv_aload_n hx hb d_MO_becomes_10 rfl (lv_at hl 0 rfl) ?_
      refine g_MO_isUnder hx hb hts hown hG hP (hts _ in_585) d_MO_becomes_11 ?_
      refine lv_iload_n hx hb d_MO_becomes_14 rfl (lv_at hl 3 rfl) ?_
      replace hf := G_some hf
      obtain ⟨hi1, hf⟩ := hf
      refine r_zald hx hb hG hP 82 64 (f := ν.1 82) (by decide) (wc_M (by decide) rfl) hi1 d_MO_becomes_15 ?_
      replace hf := B_some hf
      obtain ⟨v2, hv2, hf⟩ := hf
      have hJ : ∀ (H : Heap) (locs : List Loc) (ls : Array Slot), va_P D cls (wld adr cA μ v2) H → va_S (AA adr) s.heap H locs → lv_has ls 4 [(0, .ref (adr 63)), (1, .int y1), (2, .int y2), (3, .int y3)] → W p l e rm_MO_becomes s m args below meth c H locs 0 0 Q (F0 m 36 ls []) := by
        clear hv2
        intro H locs ls hP hS hl
        refine lv_iinc (v := (y3 + 1)) (lv' := [(3, .int (y3 + 1)), (0, .ref (adr 63)), (1, .int y1), (2, .int y2)]) hx hb d_MO_becomes_36 hl (k := 3) rfl rfl (by decide) rfl (fun ls hl => ?_)
        refine lv_goto (tgt := 2) hx hb d_MO_becomes_39 (by decide) ?_
        exact ih _ _ hf hP hS (lv_sub hl [1, 2, 3, 0] rfl)
      clear hf
      have hf := hv2
      clear hv2
      refine lv_if_eq (tgt := 36) hx hb d_MO_becomes_16 (by decide) (fun hc => ?_) (fun hc => ?_)
      · replace hf := if_p hc hf
        obtain rfl := Option.some.inj hf
        exact hJ _ _ _ hP hS (lv_sub hl [0, 1, 2, 3] rfl)
      · replace hf := if_n hc hf
        refine lv_aload_n hx hb d_MO_becomes_19 rfl (lv_at hl 0 rfl) ?_
        refine g_MO_owner hx hb hts hown hG hP (hts _ in_584) d_MO_becomes_20 ?_
        refine lv_iload_n hx hb d_MO_becomes_23 rfl (lv_at hl 3 rfl) ?_
        replace hf := G_some hf
        obtain ⟨hi3, hf⟩ := hf
        refine r_iald hx hb hG hP 81 64 (f := ν.1 81) (by decide) (wc_M (by decide) rfl) hi3 d_MO_becomes_24 ?_
        refine lv_iload_n hx hb d_MO_becomes_25 rfl (lv_at hl 1 rfl) ?_
        refine lv_icmp_ne (tgt := 36) hx hb d_MO_becomes_26 (by decide) (fun hc => ?_) (fun hc => ?_)
        · replace hf := if_n hc hf
          obtain rfl := Option.some.inj hf
          exact hJ _ _ _ hP hS (lv_sub hl [0, 1, 2, 3] rfl)
        · replace hf := if_p hc hf
          refine lv_aload_n hx hb d_MO_becomes_29 rfl (lv_at hl 0 rfl) ?_
          refine g_MO_owner hx hb hts hown hG hP (hts _ in_584) d_MO_becomes_30 ?_
          refine lv_iload_n hx hb d_MO_becomes_33 rfl (lv_at hl 3 rfl) ?_
          refine lv_iload_n hx hb d_MO_becomes_34 rfl (lv_at hl 2 rfl) ?_
          replace hf := G_some hf
          obtain ⟨hi4, hf⟩ := hf
          refine rM_iast hx hb hG hP hS 81 64 (by decide) (by decide) (fun _ _ => rfl) hi4 d_MO_becomes_35 (fun H locs hP hS => ?_)
          obtain rfl := Option.some.inj hf
          exact hJ _ _ _ hP hS (lv_sub hl [0, 1, 2, 3] rfl)
set_option maxHeartbeats 4000000 in
set_option maxRecDepth 100000 in
theorem w_MO_becomes (x1 : Int32) (x2 : Int32)  (C : Cx prog_7_method_17_code 4 "LakeReliefModel" (Option.none : Option Jvm.ClassFile.FieldType) p s m args meth c) (hG : Geo D adr cA s) {res : Mem} (hf : f_MO_becomes ν x1 x2 = some res) (hq : ∀ (pc : Nat) (ls : Array Slot) (H : Heap) (locs : List Loc), decode prog_7_method_17_code pc = .ok (.return_, 1) → va_P D cls (wld adr cA μ res) H → va_S (AA adr) s.heap H locs → W p l e rm_MO_becomes s m args below meth c H locs 0 0 Q (F0 m pc ls [])) {H : Heap} {locs : List Loc} {ls : Array Slot} (hP : va_P D cls (wld adr cA μ ν) H) (hS : va_S (AA adr) s.heap H locs) (hl : lv_has ls 4 [(0, .ref (adr 63)), (1, .int x1), (2, .int x2)]) : W p l e rm_MO_becomes s m args below meth c H locs 0 0 Q (F0 m 0 ls []) := by
  obtain ⟨hx, hb, hml, hown, hts, hr, hlocks⟩ := id C
  unfold f_MO_becomes at hf
  refine lv_iconst (v := 0) hx hb d_MO_becomes_0 (by decide) ?_
  refine lv_istore_n (lv' := [(3, .int 0), (0, .ref (adr 63)), (1, .int x1), (2, .int x2)]) hx hb d_MO_becomes_1 rfl hl (by decide) rfl (fun ls hl => ?_)
  replace hf := B_some hf
  obtain ⟨v5, hv5, hf⟩ := hf
  refine w_MO_becomes_L2 x1 x2  C hG v5 ?_ FU _ _ hv5 hP hS (lv_sub hl [1, 2, 3, 0] rfl)
  clear hv5 hP hS hl
  intro H locs ls hP hS hl
  obtain rfl := Option.some.inj hf
  exact hq _ _ _ _ d_MO_becomes_42 hP hS
theorem c_MO_becomes (l : Launch) (D : va_G) (adr : Nat → Nat) (cA : Nat → ClassId) (μ ν : Mem) (x1 : Int32) (x2 : Int32)  {res : Mem} (hf : f_MO_becomes ν x1 x2 = some res) : Met l y_MO_becomes (Cond.code y_MO_becomes prog_7_method_17_code 4 (Option.none : Option Jvm.ClassFile.FieldType) :: lw_ok) rm_MO_becomes (va_Pc [.ref (adr 63), .int x1, .int x2] (Wd D adr cA μ ν)) (QV D adr cA μ res) 0 0 (AA adr) :=
  met_of (own := "LakeReliefModel") rfl rfl (Nat.le_of_ble_eq_true rfl) (fun p e s m below meth c C hG hP hS ls hl => w_MO_becomes x1 x2  C hG hf (fun pc ls H locs hd hP hS => ret_v C.1 C.2.1 C.2.2.2.2.2.1 C.2.2.2.2.2.2 hG hd hP hS) hP hS hl)
end X_MO_becomes
section X_MO_lookBeside
variable {p : Program} {l : Launch} {e : Env} {s : State} {m : MethodId} {args : Array Value} {below : List Frame} {meth : Method} {c : Code} {Q : State → Prop}
variable {D : va_G} {adr : Nat → Nat} {cA : Nat → ClassId} {μ ν : Mem}
theorem d_MO_lookBeside_0 : decode prog_7_method_18_code 0 = .ok (.iconst 0, 1) := by decide +kernel
theorem d_MO_lookBeside_1 : decode prog_7_method_18_code 1 = .ok (.istore_n 2, 1) := by decide +kernel
theorem d_MO_lookBeside_2 : decode prog_7_method_18_code 2 = .ok (.aload_n 0, 1) := by decide +kernel
theorem d_MO_lookBeside_3 : decode prog_7_method_18_code 3 = .ok (.iconst 0, 1) := by decide +kernel
theorem d_MO_lookBeside_4 : decode prog_7_method_18_code 4 = .ok (.putfield 119, 3) := by decide +kernel
theorem d_MO_lookBeside_7 : decode prog_7_method_18_code 7 = .ok (.iconst 0, 1) := by decide +kernel
theorem d_MO_lookBeside_8 : decode prog_7_method_18_code 8 = .ok (.istore_n 3, 1) := by decide +kernel
theorem d_MO_lookBeside_9 : decode prog_7_method_18_code 9 = .ok (.iload_n 3, 1) := by decide +kernel
theorem d_MO_lookBeside_10 : decode prog_7_method_18_code 10 = .ok (.iconst 4, 1) := by decide +kernel
theorem d_MO_lookBeside_11 : decode prog_7_method_18_code 11 = .ok (.if_icmp .ge 194, 3) := by decide +kernel
theorem d_MO_lookBeside_14 : decode prog_7_method_18_code 14 = .ok (.aload_n 0, 1) := by decide +kernel
theorem d_MO_lookBeside_15 : decode prog_7_method_18_code 15 = .ok (.iload_n 1, 1) := by decide +kernel
theorem d_MO_lookBeside_16 : decode prog_7_method_18_code 16 = .ok (.iload_n 3, 1) := by decide +kernel
theorem d_MO_lookBeside_17 : decode prog_7_method_18_code 17 = .ok (.invokevirtual 105, 3) := by decide +kernel
theorem d_MO_lookBeside_20 : decode prog_7_method_18_code 20 = .ok (.istore 4, 2) := by decide +kernel
theorem d_MO_lookBeside_22 : decode prog_7_method_18_code 22 = .ok (.aload_n 0, 1) := by decide +kernel
theorem d_MO_lookBeside_23 : decode prog_7_method_18_code 23 = .ok (.iload 4, 2) := by decide +kernel
theorem d_MO_lookBeside_25 : decode prog_7_method_18_code 25 = .ok (.invokevirtual 108, 3) := by decide +kernel
theorem d_MO_lookBeside_28 : decode prog_7_method_18_code 28 = .ok (.ifCond .ne 25, 3) := by decide +kernel
theorem d_MO_lookBeside_31 : decode prog_7_method_18_code 31 = .ok (.aload_n 0, 1) := by decide +kernel
theorem d_MO_lookBeside_32 : decode prog_7_method_18_code 32 = .ok (.getfield 66, 3) := by decide +kernel
theorem d_MO_lookBeside_35 : decode prog_7_method_18_code 35 = .ok (.iload 4, 2) := by decide +kernel
theorem d_MO_lookBeside_37 : decode prog_7_method_18_code 37 = .ok (.baload, 1) := by decide +kernel
theorem d_MO_lookBeside_38 : decode prog_7_method_18_code 38 = .ok (.ifCond .eq 20, 3) := by decide +kernel
theorem d_MO_lookBeside_41 : decode prog_7_method_18_code 41 = .ok (.aload_n 0, 1) := by decide +kernel
theorem d_MO_lookBeside_42 : decode prog_7_method_18_code 42 = .ok (.getfield 63, 3) := by decide +kernel
theorem d_MO_lookBeside_45 : decode prog_7_method_18_code 45 = .ok (.iload 4, 2) := by decide +kernel
theorem d_MO_lookBeside_47 : decode prog_7_method_18_code 47 = .ok (.iaload, 1) := by decide +kernel
theorem d_MO_lookBeside_48 : decode prog_7_method_18_code 48 = .ok (.bipush (-5), 2) := by decide +kernel
theorem d_MO_lookBeside_50 : decode prog_7_method_18_code 50 = .ok (.if_icmp .ne 8, 3) := by decide +kernel
theorem d_MO_lookBeside_53 : decode prog_7_method_18_code 53 = .ok (.iconst 1, 1) := by decide +kernel
theorem d_MO_lookBeside_54 : decode prog_7_method_18_code 54 = .ok (.istore_n 2, 1) := by decide +kernel
theorem d_MO_lookBeside_55 : decode prog_7_method_18_code 55 = .ok (.goto 144, 3) := by decide +kernel
theorem d_MO_lookBeside_58 : decode prog_7_method_18_code 58 = .ok (.aload_n 0, 1) := by decide +kernel
theorem d_MO_lookBeside_59 : decode prog_7_method_18_code 59 = .ok (.getfield 66, 3) := by decide +kernel
theorem d_MO_lookBeside_62 : decode prog_7_method_18_code 62 = .ok (.iload 4, 2) := by decide +kernel
theorem d_MO_lookBeside_64 : decode prog_7_method_18_code 64 = .ok (.baload, 1) := by decide +kernel
theorem d_MO_lookBeside_65 : decode prog_7_method_18_code 65 = .ok (.ifCond .eq 134, 3) := by decide +kernel
theorem d_MO_lookBeside_68 : decode prog_7_method_18_code 68 = .ok (.iconst 0, 1) := by decide +kernel
theorem d_MO_lookBeside_69 : decode prog_7_method_18_code 69 = .ok (.istore 5, 2) := by decide +kernel
theorem d_MO_lookBeside_71 : decode prog_7_method_18_code 71 = .ok (.iconst 0, 1) := by decide +kernel
theorem d_MO_lookBeside_72 : decode prog_7_method_18_code 72 = .ok (.istore 6, 2) := by decide +kernel
theorem d_MO_lookBeside_74 : decode prog_7_method_18_code 74 = .ok (.iload 6, 2) := by decide +kernel
theorem d_MO_lookBeside_76 : decode prog_7_method_18_code 76 = .ok (.aload_n 0, 1) := by decide +kernel
theorem d_MO_lookBeside_77 : decode prog_7_method_18_code 77 = .ok (.getfield 119, 3) := by decide +kernel
theorem d_MO_lookBeside_80 : decode prog_7_method_18_code 80 = .ok (.if_icmp .ge 38, 3) := by decide +kernel
theorem d_MO_lookBeside_83 : decode prog_7_method_18_code 83 = .ok (.iload 5, 2) := by decide +kernel
theorem d_MO_lookBeside_85 : decode prog_7_method_18_code 85 = .ok (.ifCond .ne 20, 3) := by decide +kernel
theorem d_MO_lookBeside_88 : decode prog_7_method_18_code 88 = .ok (.aload_n 0, 1) := by decide +kernel
theorem d_MO_lookBeside_89 : decode prog_7_method_18_code 89 = .ok (.getfield 69, 3) := by decide +kernel
theorem d_MO_lookBeside_92 : decode prog_7_method_18_code 92 = .ok (.iload 6, 2) := by decide +kernel
theorem d_MO_lookBeside_94 : decode prog_7_method_18_code 94 = .ok (.iaload, 1) := by decide +kernel
theorem d_MO_lookBeside_95 : decode prog_7_method_18_code 95 = .ok (.aload_n 0, 1) := by decide +kernel
theorem d_MO_lookBeside_96 : decode prog_7_method_18_code 96 = .ok (.getfield 63, 3) := by decide +kernel
theorem d_MO_lookBeside_99 : decode prog_7_method_18_code 99 = .ok (.iload 4, 2) := by decide +kernel
theorem d_MO_lookBeside_101 : decode prog_7_method_18_code 101 = .ok (.iaload, 1) := by decide +kernel
theorem d_MO_lookBeside_102 : decode prog_7_method_18_code 102 = .ok (.if_icmp .ne 7, 3) := by decide +kernel
theorem d_MO_lookBeside_105 : decode prog_7_method_18_code 105 = .ok (.iconst 1, 1) := by decide +kernel
theorem d_MO_lookBeside_106 : decode prog_7_method_18_code 106 = .ok (.goto 4, 3) := by decide +kernel
theorem d_MO_lookBeside_109 : decode prog_7_method_18_code 109 = .ok (.iconst 0, 1) := by decide +kernel
theorem d_MO_lookBeside_110 : decode prog_7_method_18_code 110 = .ok (.istore 5, 2) := by decide +kernel
theorem d_MO_lookBeside_112 : decode prog_7_method_18_code 112 = .ok (.iinc 6 1, 3) := by decide +kernel
theorem d_MO_lookBeside_115 : decode prog_7_method_18_code 115 = .ok (.goto (-41), 3) := by decide +kernel
theorem d_MO_lookBeside_118 : decode prog_7_method_18_code 118 = .ok (.iload 5, 2) := by decide +kernel
theorem d_MO_lookBeside_120 : decode prog_7_method_18_code 120 = .ok (.ifCond .ne 79, 3) := by decide +kernel
theorem d_MO_lookBeside_123 : decode prog_7_method_18_code 123 = .ok (.aload_n 0, 1) := by decide +kernel
theorem d_MO_lookBeside_124 : decode prog_7_method_18_code 124 = .ok (.getfield 119, 3) := by decide +kernel
theorem d_MO_lookBeside_127 : decode prog_7_method_18_code 127 = .ok (.istore 6, 2) := by decide +kernel
theorem d_MO_lookBeside_129 : decode prog_7_method_18_code 129 = .ok (.iload 6, 2) := by decide +kernel
theorem d_MO_lookBeside_131 : decode prog_7_method_18_code 131 = .ok (.ifCond .le 44, 3) := by decide +kernel
theorem d_MO_lookBeside_134 : decode prog_7_method_18_code 134 = .ok (.aload_n 0, 1) := by decide +kernel
theorem d_MO_lookBeside_135 : decode prog_7_method_18_code 135 = .ok (.getfield 69, 3) := by decide +kernel
theorem d_MO_lookBeside_138 : decode prog_7_method_18_code 138 = .ok (.iload 6, 2) := by decide +kernel
theorem d_MO_lookBeside_140 : decode prog_7_method_18_code 140 = .ok (.iconst 1, 1) := by decide +kernel
theorem d_MO_lookBeside_141 : decode prog_7_method_18_code 141 = .ok (.isub, 1) := by decide +kernel
theorem d_MO_lookBeside_142 : decode prog_7_method_18_code 142 = .ok (.iaload, 1) := by decide +kernel
theorem d_MO_lookBeside_143 : decode prog_7_method_18_code 143 = .ok (.aload_n 0, 1) := by decide +kernel
theorem d_MO_lookBeside_144 : decode prog_7_method_18_code 144 = .ok (.getfield 63, 3) := by decide +kernel
theorem d_MO_lookBeside_147 : decode prog_7_method_18_code 147 = .ok (.iload 4, 2) := by decide +kernel
theorem d_MO_lookBeside_149 : decode prog_7_method_18_code 149 = .ok (.iaload, 1) := by decide +kernel
theorem d_MO_lookBeside_150 : decode prog_7_method_18_code 150 = .ok (.if_icmp .le 25, 3) := by decide +kernel
theorem d_MO_lookBeside_153 : decode prog_7_method_18_code 153 = .ok (.aload_n 0, 1) := by decide +kernel
theorem d_MO_lookBeside_154 : decode prog_7_method_18_code 154 = .ok (.getfield 69, 3) := by decide +kernel
theorem d_MO_lookBeside_157 : decode prog_7_method_18_code 157 = .ok (.iload 6, 2) := by decide +kernel
theorem d_MO_lookBeside_159 : decode prog_7_method_18_code 159 = .ok (.aload_n 0, 1) := by decide +kernel
theorem d_MO_lookBeside_160 : decode prog_7_method_18_code 160 = .ok (.getfield 69, 3) := by decide +kernel
theorem d_MO_lookBeside_163 : decode prog_7_method_18_code 163 = .ok (.iload 6, 2) := by decide +kernel
theorem d_MO_lookBeside_165 : decode prog_7_method_18_code 165 = .ok (.iconst 1, 1) := by decide +kernel
theorem d_MO_lookBeside_166 : decode prog_7_method_18_code 166 = .ok (.isub, 1) := by decide +kernel
theorem d_MO_lookBeside_167 : decode prog_7_method_18_code 167 = .ok (.iaload, 1) := by decide +kernel
theorem d_MO_lookBeside_168 : decode prog_7_method_18_code 168 = .ok (.iastore, 1) := by decide +kernel
theorem d_MO_lookBeside_169 : decode prog_7_method_18_code 169 = .ok (.iinc 6 (-1), 3) := by decide +kernel
theorem d_MO_lookBeside_172 : decode prog_7_method_18_code 172 = .ok (.goto (-43), 3) := by decide +kernel
theorem d_MO_lookBeside_175 : decode prog_7_method_18_code 175 = .ok (.aload_n 0, 1) := by decide +kernel
theorem d_MO_lookBeside_176 : decode prog_7_method_18_code 176 = .ok (.getfield 69, 3) := by decide +kernel
theorem d_MO_lookBeside_179 : decode prog_7_method_18_code 179 = .ok (.iload 6, 2) := by decide +kernel
theorem d_MO_lookBeside_181 : decode prog_7_method_18_code 181 = .ok (.aload_n 0, 1) := by decide +kernel
theorem d_MO_lookBeside_182 : decode prog_7_method_18_code 182 = .ok (.getfield 63, 3) := by decide +kernel
theorem d_MO_lookBeside_185 : decode prog_7_method_18_code 185 = .ok (.iload 4, 2) := by decide +kernel
theorem d_MO_lookBeside_187 : decode prog_7_method_18_code 187 = .ok (.iaload, 1) := by decide +kernel
theorem d_MO_lookBeside_188 : decode prog_7_method_18_code 188 = .ok (.iastore, 1) := by decide +kernel
theorem d_MO_lookBeside_189 : decode prog_7_method_18_code 189 = .ok (.aload_n 0, 1) := by decide +kernel
theorem d_MO_lookBeside_190 : decode prog_7_method_18_code 190 = .ok (.dup, 1) := by decide +kernel
theorem d_MO_lookBeside_191 : decode prog_7_method_18_code 191 = .ok (.getfield 119, 3) := by decide +kernel
theorem d_MO_lookBeside_194 : decode prog_7_method_18_code 194 = .ok (.iconst 1, 1) := by decide +kernel
theorem d_MO_lookBeside_195 : decode prog_7_method_18_code 195 = .ok (.iadd, 1) := by decide +kernel
theorem d_MO_lookBeside_196 : decode prog_7_method_18_code 196 = .ok (.putfield 119, 3) := by decide +kernel
theorem d_MO_lookBeside_199 : decode prog_7_method_18_code 199 = .ok (.iinc 3 1, 3) := by decide +kernel
theorem d_MO_lookBeside_202 : decode prog_7_method_18_code 202 = .ok (.goto (-193), 3) := by decide +kernel
theorem d_MO_lookBeside_205 : decode prog_7_method_18_code 205 = .ok (.iload_n 2, 1) := by decide +kernel
theorem d_MO_lookBeside_206 : decode prog_7_method_18_code 206 = .ok (.ireturn, 1) := by decide +kernel
set_option maxHeartbeats 4000000 in
set_option maxRecDepth 100000 in
theorem w_MO_lookBeside_L74 (y1 : Int32) (y2 : Int32) (y3 : Int32) (y4 : Int32)  (C : Cx prog_7_method_18_code 7 "LakeReliefModel" (Option.some Jvm.ClassFile.FieldType.boolean) p s m args meth c) (hG : Geo D adr cA s) (v : Int32) (hE : ∀ (H : Heap) (locs : List Loc) (ls : Array Slot), va_P D cls (wld adr cA μ ν) H → va_S (AA adr) s.heap H locs → lv_has ls 7 [(0, .ref (adr 63)), (1, .int y1), (2, .int y2), (3, .int y3), (4, .int y4), (5, .int v)] → W p l e rm_MO_lookBeside s m args below meth c H locs 0 0 Q (F0 m 118 ls [])) : ∀ (n : Nat) (y5 : Int32) (y6 : Int32), f_MO_lookBeside_L74 ν y1 y2 y3 y4 n y5 y6 = some v → ∀ {H : Heap} {locs : List Loc} {ls : Array Slot}, va_P D cls (wld adr cA μ ν) H → va_S (AA adr) s.heap H locs → lv_has ls 7 [(0, .ref (adr 63)), (1, .int y1), (2, .int y2), (3, .int y3), (4, .int y4), (5, .int y5), (6, .int y6)] → W p l e rm_MO_lookBeside s m args below meth c H locs 0 0 Q (F0 m 74 ls []) := by
  obtain ⟨hx, hb, hml, hown, hts, hr, hlocks⟩ := id C
  intro n
  induction n with
  | zero => intro y5 y6 hf; rw [f_MO_lookBeside_L74.eq_1] at hf; cases hf
  | succ n ih =>
    intro y5 y6 hf H locs ls hP hS hl
    rw [f_MO_lookBeside_L74.eq_2] at hf
    refine lv_iload hx hb d_MO_lookBeside_74 (lv_at hl 6 rfl) ?_
    refine lv_aload_n hx hb d_MO_lookBeside_76 rfl (lv_at hl 0 rfl) ?_
    refine g_MO_nearMany hx hb hts hown hG hP (hts _ in_587) d_MO_lookBeside_77 ?_
    refine lv_icmp_ge (tgt := 118) hx hb d_MO_lookBeside_80 (by decide) (fun hc => ?_) (fun hc => ?_)
    · replace hf := if_p hc hf
      obtain rfl := Option.some.inj hf
      exact hE _ _ _ hP hS (lv_sub hl [0, 1, 2, 3, 4, 5] rfl)
    · replace hf := if_n hc hf
      refine lv_iload hx hb d_MO_lookBeside_83 (lv_at hl 5 rfl) ?_
      replace hf := B_some hf
      obtain ⟨v6, hv6, hf⟩ := hf
      have hJ : ∀ (H : Heap) (locs : List Loc) (ls : Array Slot), va_P D cls (wld adr cA μ ν) H → va_S (AA adr) s.heap H locs → lv_has ls 7 [(0, .ref (adr 63)), (1, .int y1), (2, .int y2), (3, .int y3), (4, .int y4), (6, .int y6)] → W p l e rm_MO_lookBeside s m args below meth c H locs 0 0 Q (F0 m 110 ls [.int v6]) := by
        clear hv6
        intro H locs ls hP hS hl
        refine lv_istore (lv' := [(5, .int v6), (0, .ref (adr 63)), (1, .int y1), (2, .int y2), (3, .int y3), (4, .int y4), (6, .int y6)]) hx hb d_MO_lookBeside_110 hl (by decide) rfl (fun ls hl => ?_)
        refine lv_iinc (v := (y6 + 1)) (lv' := [(6, .int (y6 + 1)), (5, .int v6), (0, .ref (adr 63)), (1, .int y1), (2, .int y2), (3, .int y3), (4, .int y4)]) hx hb d_MO_lookBeside_112 hl (k := 6) rfl rfl (by decide) rfl (fun ls hl => ?_)
        refine lv_goto (tgt := 74) hx hb d_MO_lookBeside_115 (by decide) ?_
        exact ih _ _ hf hP hS (lv_sub hl [2, 3, 4, 5, 6, 1, 0] rfl)
      clear hf
      have hf := hv6
      clear hv6
      refine lv_if_ne (tgt := 105) hx hb d_MO_lookBeside_85 (by decide) (fun hc => ?_) (fun hc => ?_)
      · replace hf := if_n hc hf
        refine lv_iconst (v := 1) hx hb d_MO_lookBeside_105 (by decide) ?_
        refine lv_goto (tgt := 110) hx hb d_MO_lookBeside_106 (by decide) ?_
        obtain rfl := Option.some.inj hf
        exact hJ _ _ _ hP hS (lv_sub hl [0, 1, 2, 3, 4, 6] rfl)
      · replace hf := if_p hc hf
        refine lv_aload_n hx hb d_MO_lookBeside_88 rfl (lv_at hl 0 rfl) ?_
        refine g_MO_near hx hb hts hown hG hP (hts _ in_586) d_MO_lookBeside_89 ?_
        refine lv_iload hx hb d_MO_lookBeside_92 (lv_at hl 6 rfl) ?_
        replace hf := G_some hf
        obtain ⟨hi7, hf⟩ := hf
        refine r_iald hx hb hG hP 83 4 (f := ν.1 83) (by decide) (wc_M (by decide) rfl) hi7 d_MO_lookBeside_94 ?_
        refine lv_aload_n hx hb d_MO_lookBeside_95 rfl (lv_at hl 0 rfl) ?_
        refine g_MO_owner hx hb hts hown hG hP (hts _ in_584) d_MO_lookBeside_96 ?_
        refine lv_iload hx hb d_MO_lookBeside_99 (lv_at hl 4 rfl) ?_
        replace hf := G_some hf
        obtain ⟨hi8, hf⟩ := hf
        refine r_iald hx hb hG hP 81 64 (f := ν.1 81) (by decide) (wc_M (by decide) rfl) hi8 d_MO_lookBeside_101 ?_
        refine lv_icmp_ne (tgt := 109) hx hb d_MO_lookBeside_102 (by decide) (fun hc => ?_) (fun hc => ?_)
        · replace hf := if_n hc hf
          refine lv_iconst (v := 0) hx hb d_MO_lookBeside_109 (by decide) ?_
          obtain rfl := Option.some.inj hf
          exact hJ _ _ _ hP hS (lv_sub hl [0, 1, 2, 3, 4, 6] rfl)
        · replace hf := if_p hc hf
          refine lv_iconst (v := 1) hx hb d_MO_lookBeside_105 (by decide) ?_
          refine lv_goto (tgt := 110) hx hb d_MO_lookBeside_106 (by decide) ?_
          obtain rfl := Option.some.inj hf
          exact hJ _ _ _ hP hS (lv_sub hl [0, 1, 2, 3, 4, 6] rfl)
set_option maxHeartbeats 4000000 in
set_option maxRecDepth 100000 in
theorem w_MO_lookBeside_L129 (y1 : Int32) (y2 : Int32) (y3 : Int32) (y4 : Int32)  (C : Cx prog_7_method_18_code 7 "LakeReliefModel" (Option.some Jvm.ClassFile.FieldType.boolean) p s m args meth c) (hG : Geo D adr cA s) (v : Int32 × Mem) (hE : ∀ (H : Heap) (locs : List Loc) (ls : Array Slot), va_P D cls (wld adr cA μ v.2) H → va_S (AA adr) s.heap H locs → lv_has ls 7 [(0, .ref (adr 63)), (1, .int y1), (2, .int y2), (3, .int y3), (4, .int y4), (6, .int v.1)] → W p l e rm_MO_lookBeside s m args below meth c H locs 0 0 Q (F0 m 175 ls [])) : ∀ (n : Nat) (ν : Mem) (y6 : Int32), f_MO_lookBeside_L129 y1 y2 y3 y4 n ν y6 = some v → ∀ {H : Heap} {locs : List Loc} {ls : Array Slot}, va_P D cls (wld adr cA μ ν) H → va_S (AA adr) s.heap H locs → lv_has ls 7 [(0, .ref (adr 63)), (1, .int y1), (2, .int y2), (3, .int y3), (4, .int y4), (6, .int y6)] → W p l e rm_MO_lookBeside s m args below meth c H locs 0 0 Q (F0 m 129 ls []) := by
  obtain ⟨hx, hb, hml, hown, hts, hr, hlocks⟩ := id C
  intro n
  induction n with
  | zero => intro ν y6 hf; rw [f_MO_lookBeside_L129.eq_1] at hf; cases hf
  | succ n ih =>
    intro ν y6 hf H locs ls hP hS hl
    rw [f_MO_lookBeside_L129.eq_2] at hf
    refine lv_iload hx hb d_MO_lookBeside_129 (lv_at hl 5 rfl) ?_
    refine lv_if_le (tgt := 175) hx hb d_MO_lookBeside_131 (by decide) (fun hc => ?_) (fun hc => ?_)
    · replace hf := if_p hc hf
      obtain rfl := Option.some.inj hf
      exact hE _ _ _ hP hS (lv_sub hl [0, 1, 2, 3, 4, 5] rfl)
    · replace hf := if_n hc hf
      refine lv_aload_n hx hb d_MO_lookBeside_134 rfl (lv_at hl 0 rfl) ?_
      refine g_MO_near hx hb hts hown hG hP (hts _ in_586) d_MO_lookBeside_135 ?_
      refine lv_iload hx hb d_MO_lookBeside_138 (lv_at hl 5 rfl) ?_
      refine lv_iconst (v := 1) hx hb d_MO_lookBeside_140 (by decide) ?_
      refine lv_isub hx hb d_MO_lookBeside_141 ?_
      replace hf := G_some hf
      obtain ⟨hi10, hf⟩ := hf
      refine r_iald hx hb hG hP 83 4 (f := ν.1 83) (by decide) (wc_M (by decide) rfl) hi10 d_MO_lookBeside_142 ?_
      refine lv_aload_n hx hb d_MO_lookBeside_143 rfl (lv_at hl 0 rfl) ?_
      refine g_MO_owner hx hb hts hown hG hP (hts _ in_584) d_MO_lookBeside_144 ?_
      refine lv_iload hx hb d_MO_lookBeside_147 (lv_at hl 4 rfl) ?_
      replace hf := G_some hf
      obtain ⟨hi11, hf⟩ := hf
      refine r_iald hx hb hG hP 81 64 (f := ν.1 81) (by decide) (wc_M (by decide) rfl) hi11 d_MO_lookBeside_149 ?_
      refine lv_icmp_le (tgt := 175) hx hb d_MO_lookBeside_150 (by decide) (fun hc => ?_) (fun hc => ?_)
      · replace hf := if_p hc hf
        obtain rfl := Option.some.inj hf
        exact hE _ _ _ hP hS (lv_sub hl [0, 1, 2, 3, 4, 5] rfl)
      · replace hf := if_n hc hf
        refine lv_aload_n hx hb d_MO_lookBeside_153 rfl (lv_at hl 0 rfl) ?_
        refine g_MO_near hx hb hts hown hG hP (hts _ in_586) d_MO_lookBeside_154 ?_
        refine lv_iload hx hb d_MO_lookBeside_157 (lv_at hl 5 rfl) ?_
        refine lv_aload_n hx hb d_MO_lookBeside_159 rfl (lv_at hl 0 rfl) ?_
        refine g_MO_near hx hb hts hown hG hP (hts _ in_586) d_MO_lookBeside_160 ?_
        refine lv_iload hx hb d_MO_lookBeside_163 (lv_at hl 5 rfl) ?_
        refine lv_iconst (v := 1) hx hb d_MO_lookBeside_165 (by decide) ?_
        refine lv_isub hx hb d_MO_lookBeside_166 ?_
        replace hf := G_some hf
        obtain ⟨hi12, hf⟩ := hf
        refine r_iald hx hb hG hP 83 4 (f := ν.1 83) (by decide) (wc_M (by decide) rfl) hi12 d_MO_lookBeside_167 ?_
        replace hf := G_some hf
        obtain ⟨hi13, hf⟩ := hf
        refine rM_iast hx hb hG hP hS 83 4 (by decide) (by decide) (fun _ _ => rfl) hi13 d_MO_lookBeside_168 (fun H locs hP hS => ?_)
        refine lv_iinc (v := (y6 + (-1))) (lv' := [(6, .int (y6 + (-1))), (0, .ref (adr 63)), (1, .int y1), (2, .int y2), (3, .int y3), (4, .int y4)]) hx hb d_MO_lookBeside_169 hl (k := 5) rfl rfl (by decide) rfl (fun ls hl => ?_)
        refine lv_goto (tgt := 129) hx hb d_MO_lookBeside_172 (by decide) ?_
        exact ih _ _ hf hP hS (lv_sub hl [1, 2, 3, 4, 5, 0] rfl)
set_option maxHeartbeats 4000000 in
set_option maxRecDepth 100000 in
theorem w_MO_lookBeside_L9 (y1 : Int32)  (C : Cx prog_7_method_18_code 7 "LakeReliefModel" (Option.some Jvm.ClassFile.FieldType.boolean) p s m args meth c) (hG : Geo D adr cA s) (v : Int32 × Mem) (hE : ∀ (H : Heap) (locs : List Loc) (ls : Array Slot), va_P D cls (wld adr cA μ v.2) H → va_S (AA adr) s.heap H locs → lv_has ls 7 [(2, .int v.1)] → W p l e rm_MO_lookBeside s m args below meth c H locs 0 0 Q (F0 m 205 ls [])) : ∀ (n : Nat) (ν : Mem) (y2 : Int32) (y3 : Int32), f_MO_lookBeside_L9 y1 n ν y2 y3 = some v → ∀ {H : Heap} {locs : List Loc} {ls : Array Slot}, va_P D cls (wld adr cA μ ν) H → va_S (AA adr) s.heap H locs → lv_has ls 7 [(0, .ref (adr 63)), (1, .int y1), (2, .int y2), (3, .int y3)] → W p l e rm_MO_lookBeside s m args below meth c H locs 0 0 Q (F0 m 9 ls []) := by
  obtain ⟨hx, hb, hml, hown, hts, hr, hlocks⟩ := id C
  intro n
  induction n with
  | zero => intro ν y2 y3 hf; rw [f_MO_lookBeside_L9.eq_1] at hf; cases hf
  | succ n ih =>
    intro ν y2 y3 hf H locs ls hP hS hl
    rw [f_MO_lookBeside_L9.eq_2] at hf
    refine lv_iload_n hx hb d_MO_lookBeside_9 rfl (lv_at hl 3 rfl) ?_
    refine lv_iconst (v := 4) hx hb d_MO_lookBeside_10 (by decide) ?_
    refine lv_icmp_ge (tgt := 205) hx hb d_MO_lookBeside_11 (by decide) (fun hc => ?_) (fun hc => ?_)
    · replace hf := if_p hc hf
      obtain rfl := Option.some.inj hf
      exact hE _ _ _ hP hS (lv_sub hl [2] rfl)
    · replace hf := if_n hc hf
      refine lv_aload_n hx hb d_MO_lookBeside_14 rfl (lv_at hl 0 rfl) ?_
      refine lv_iload_n hx hb d_MO_lookBeside_15 rfl (lv_at hl 1 rfl) ?_
      refine lv_iload_n hx hb d_MO_lookBeside_16 rfl (lv_at hl 3 rfl) ?_
      replace hf := B_some hf
      obtain ⟨v1, hv1, hf⟩ := hf
      refine ki (kv (As := [.int y1, .int y3]) (rest := []) ⟨hx, hb, hml, hown, hts⟩ (cw_MO_105 hts ⟨Nat.le_of_ble_eq_true rfl, Nat.le_of_ble_eq_true rfl⟩) (c_MO_beside l D adr cA μ ν y1 y3 hv1) hG hP (rc_o (q := 63) (ci := 5) hG hP (by decide) (wc_M (by decide) rfl) rfl) rfl hl.1 (Nat.le_of_ble_eq_true rfl) d_MO_lookBeside_17) hS (fun H locs hP hS => ?_)
      refine lv_istore (lv' := [(4, .int v1), (0, .ref (adr 63)), (1, .int y1), (2, .int y2), (3, .int y3)]) hx hb d_MO_lookBeside_20 hl (by decide) rfl (fun ls hl => ?_)
      refine lv_aload_n hx hb d_MO_lookBeside_22 rfl (lv_at hl 1 rfl) ?_
      refine lv_iload hx hb d_MO_lookBeside_23 (lv_at hl 0 rfl) ?_
      replace hf := B_some hf
      obtain ⟨v2, hv2, hf⟩ := hf
      refine ki (kv (As := [.int v1]) (rest := []) ⟨hx, hb, hml, hown, hts⟩ (cw_MO_108 hts ⟨Nat.le_of_ble_eq_true rfl, Nat.le_of_ble_eq_true rfl⟩) (c_MO_isWet l D adr cA μ ν v1 hv2) hG hP (rc_o (q := 63) (ci := 5) hG hP (by decide) (wc_M (by decide) rfl) rfl) rfl hl.1 (Nat.le_of_ble_eq_true rfl) d_MO_lookBeside_25) hS (fun H locs hP hS => ?_)
      replace hf := B_some hf
      obtain ⟨v3, hv3, hf⟩ := hf
      have hJ : ∀ (H : Heap) (locs : List Loc) (ls : Array Slot), va_P D cls (wld adr cA μ v3.2) H → va_S (AA adr) s.heap H locs → lv_has ls 7 [(0, .ref (adr 63)), (1, .int y1), (2, .int v3.1), (3, .int y3)] → W p l e rm_MO_lookBeside s m args below meth c H locs 0 0 Q (F0 m 199 ls []) := by
        clear hv3
        intro H locs ls hP hS hl
        refine lv_iinc (v := (y3 + 1)) (lv' := [(3, .int (y3 + 1)), (0, .ref (adr 63)), (1, .int y1), (2, .int v3.1)]) hx hb d_MO_lookBeside_199 hl (k := 3) rfl rfl (by decide) rfl (fun ls hl => ?_)
        refine lv_goto (tgt := 9) hx hb d_MO_lookBeside_202 (by decide) ?_
        exact ih _ _ _ hf hP hS (lv_sub hl [1, 2, 3, 0] rfl)
      clear hf
      have hf := hv3
      clear hv3
      refine lv_if_ne (tgt := 53) hx hb d_MO_lookBeside_28 (by decide) (fun hc => ?_) (fun hc => ?_)
      · replace hf := if_n hc hf
        refine lv_iconst (v := 1) hx hb d_MO_lookBeside_53 (by decide) ?_
        refine lv_istore_n (lv' := [(2, .int 1), (4, .int v1), (0, .ref (adr 63)), (1, .int y1), (3, .int y3)]) hx hb d_MO_lookBeside_54 rfl hl (by decide) rfl (fun ls hl => ?_)
        refine lv_goto (tgt := 199) hx hb d_MO_lookBeside_55 (by decide) ?_
        obtain rfl := Option.some.inj hf
        exact hJ _ _ _ hP hS (lv_sub hl [2, 3, 0, 4] rfl)
      · replace hf := if_p hc hf
        refine lv_aload_n hx hb d_MO_lookBeside_31 rfl (lv_at hl 1 rfl) ?_
        refine g_MO_isUnder hx hb hts hown hG hP (hts _ in_585) d_MO_lookBeside_32 ?_
        refine lv_iload hx hb d_MO_lookBeside_35 (lv_at hl 0 rfl) ?_
        replace hf := G_some hf
        obtain ⟨hi4, hf⟩ := hf
        refine r_zald hx hb hG hP 82 64 (f := ν.1 82) (by decide) (wc_M (by decide) rfl) hi4 d_MO_lookBeside_37 ?_
        refine lv_if_eq (tgt := 58) hx hb d_MO_lookBeside_38 (by decide) (fun hc => ?_) (fun hc => ?_)
        · replace hf := if_p hc hf
          refine lv_aload_n hx hb d_MO_lookBeside_58 rfl (lv_at hl 1 rfl) ?_
          refine g_MO_isUnder hx hb hts hown hG hP (hts _ in_585) d_MO_lookBeside_59 ?_
          refine lv_iload hx hb d_MO_lookBeside_62 (lv_at hl 0 rfl) ?_
          replace hf := G_some hf
          obtain ⟨hi5, hf⟩ := hf
          refine r_zald hx hb hG hP 82 64 (f := ν.1 82) (by decide) (wc_M (by decide) rfl) hi5 d_MO_lookBeside_64 ?_
          refine lv_if_eq (tgt := 199) hx hb d_MO_lookBeside_65 (by decide) (fun hc => ?_) (fun hc => ?_)
          · replace hf := if_p hc hf
            obtain rfl := Option.some.inj hf
            exact hJ _ _ _ hP hS (lv_sub hl [1, 2, 3, 4] rfl)
          · replace hf := if_n hc hf
            refine lv_iconst (v := 0) hx hb d_MO_lookBeside_68 (by decide) ?_
            refine lv_istore (lv' := [(5, .int 0), (4, .int v1), (0, .ref (adr 63)), (1, .int y1), (2, .int y2), (3, .int y3)]) hx hb d_MO_lookBeside_69 hl (by decide) rfl (fun ls hl => ?_)
            refine lv_iconst (v := 0) hx hb d_MO_lookBeside_71 (by decide) ?_
            refine lv_istore (lv' := [(6, .int 0), (5, .int 0), (4, .int v1), (0, .ref (adr 63)), (1, .int y1), (2, .int y2), (3, .int y3)]) hx hb d_MO_lookBeside_72 hl (by decide) rfl (fun ls hl => ?_)
            replace hf := B_some hf
            obtain ⟨v9, hv9, hf⟩ := hf
            refine w_MO_lookBeside_L74 y1 y2 y3 v1  C hG v9 ?_ FU _ _ hv9 hP hS (lv_sub hl [3, 4, 5, 6, 2, 1, 0] rfl)
            clear hv9 hP hS hl
            intro H locs ls hP hS hl
            refine lv_iload hx hb d_MO_lookBeside_118 (lv_at hl 5 rfl) ?_
            refine lv_if_ne (tgt := 199) hx hb d_MO_lookBeside_120 (by decide) (fun hc => ?_) (fun hc => ?_)
            · replace hf := if_n hc hf
              obtain rfl := Option.some.inj hf
              exact hJ _ _ _ hP hS (lv_sub hl [0, 1, 2, 3] rfl)
            · replace hf := if_p hc hf
              refine lv_aload_n hx hb d_MO_lookBeside_123 rfl (lv_at hl 0 rfl) ?_
              refine g_MO_nearMany hx hb hts hown hG hP (hts _ in_587) d_MO_lookBeside_124 ?_
              refine lv_istore (lv' := [(6, .int (ν.1 63 26)), (0, .ref (adr 63)), (1, .int y1), (2, .int y2), (3, .int y3), (4, .int v1), (5, .int v9)]) hx hb d_MO_lookBeside_127 hl (by decide) rfl (fun ls hl => ?_)
              replace hf := B_some hf
              obtain ⟨v14, hv14, hf⟩ := hf
              refine w_MO_lookBeside_L129 y1 y2 y3 v1  C hG v14 ?_ FU _ _ hv14 hP hS (lv_sub hl [1, 2, 3, 4, 5, 0] rfl)
              clear hv14 hP hS hl
              intro H locs ls hP hS hl
              refine lv_aload_n hx hb d_MO_lookBeside_175 rfl (lv_at hl 0 rfl) ?_
              refine g_MO_near hx hb hts hown hG hP (hts _ in_586) d_MO_lookBeside_176 ?_
              refine lv_iload hx hb d_MO_lookBeside_179 (lv_at hl 5 rfl) ?_
              refine lv_aload_n hx hb d_MO_lookBeside_181 rfl (lv_at hl 0 rfl) ?_
              refine g_MO_owner hx hb hts hown hG hP (hts _ in_584) d_MO_lookBeside_182 ?_
              refine lv_iload hx hb d_MO_lookBeside_185 (lv_at hl 4 rfl) ?_
              replace hf := G_some hf
              obtain ⟨hi15, hf⟩ := hf
              refine r_iald hx hb hG hP 81 64 (f := v14.2.1 81) (by decide) (wc_M (by decide) rfl) hi15 d_MO_lookBeside_187 ?_
              replace hf := G_some hf
              obtain ⟨hi16, hf⟩ := hf
              refine rM_iast hx hb hG hP hS 83 4 (by decide) (by decide) (fun _ _ => rfl) hi16 d_MO_lookBeside_188 (fun H locs hP hS => ?_)
              refine lv_aload_n hx hb d_MO_lookBeside_189 rfl (lv_at hl 0 rfl) ?_
              refine lv_dup hx hb d_MO_lookBeside_190 rfl ?_
              refine g_MO_nearMany hx hb hts hown hG hP (hts _ in_587) d_MO_lookBeside_191 ?_
              refine lv_iconst (v := 1) hx hb d_MO_lookBeside_194 (by decide) ?_
              refine lv_iadd hx hb d_MO_lookBeside_195 ?_
              refine p_MO_nearMany hx hb hts hown hG hP hS (hts _ in_587) d_MO_lookBeside_196 (fun H locs hP hS => ?_)
              obtain rfl := Option.some.inj hf
              exact hJ _ _ _ hP hS (lv_sub hl [0, 1, 2, 3] rfl)
        · replace hf := if_n hc hf
          refine lv_aload_n hx hb d_MO_lookBeside_41 rfl (lv_at hl 1 rfl) ?_
          refine g_MO_owner hx hb hts hown hG hP (hts _ in_584) d_MO_lookBeside_42 ?_
          refine lv_iload hx hb d_MO_lookBeside_45 (lv_at hl 0 rfl) ?_
          replace hf := G_some hf
          obtain ⟨hi17, hf⟩ := hf
          refine r_iald hx hb hG hP 81 64 (f := ν.1 81) (by decide) (wc_M (by decide) rfl) hi17 d_MO_lookBeside_47 ?_
          refine lv_bipush (v := (-5)) hx hb d_MO_lookBeside_48 (by decide) ?_
          refine lv_icmp_ne (tgt := 58) hx hb d_MO_lookBeside_50 (by decide) (fun hc => ?_) (fun hc => ?_)
          · replace hf := if_n hc hf
            refine lv_aload_n hx hb d_MO_lookBeside_58 rfl (lv_at hl 1 rfl) ?_
            refine g_MO_isUnder hx hb hts hown hG hP (hts _ in_585) d_MO_lookBeside_59 ?_
            refine lv_iload hx hb d_MO_lookBeside_62 (lv_at hl 0 rfl) ?_
            replace hf := G_some hf
            obtain ⟨hi18, hf⟩ := hf
            refine r_zald hx hb hG hP 82 64 (f := ν.1 82) (by decide) (wc_M (by decide) rfl) hi18 d_MO_lookBeside_64 ?_
            refine lv_if_eq (tgt := 199) hx hb d_MO_lookBeside_65 (by decide) (fun hc => ?_) (fun hc => ?_)
            · replace hf := if_p hc hf
              obtain rfl := Option.some.inj hf
              exact hJ _ _ _ hP hS (lv_sub hl [1, 2, 3, 4] rfl)
            · replace hf := if_n hc hf
              refine lv_iconst (v := 0) hx hb d_MO_lookBeside_68 (by decide) ?_
              refine lv_istore (lv' := [(5, .int 0), (4, .int v1), (0, .ref (adr 63)), (1, .int y1), (2, .int y2), (3, .int y3)]) hx hb d_MO_lookBeside_69 hl (by decide) rfl (fun ls hl => ?_)
              refine lv_iconst (v := 0) hx hb d_MO_lookBeside_71 (by decide) ?_
              refine lv_istore (lv' := [(6, .int 0), (5, .int 0), (4, .int v1), (0, .ref (adr 63)), (1, .int y1), (2, .int y2), (3, .int y3)]) hx hb d_MO_lookBeside_72 hl (by decide) rfl (fun ls hl => ?_)
              replace hf := B_some hf
              obtain ⟨v22, hv22, hf⟩ := hf
              refine w_MO_lookBeside_L74 y1 y2 y3 v1  C hG v22 ?_ FU _ _ hv22 hP hS (lv_sub hl [3, 4, 5, 6, 2, 1, 0] rfl)
              clear hv22 hP hS hl
              intro H locs ls hP hS hl
              refine lv_iload hx hb d_MO_lookBeside_118 (lv_at hl 5 rfl) ?_
              refine lv_if_ne (tgt := 199) hx hb d_MO_lookBeside_120 (by decide) (fun hc => ?_) (fun hc => ?_)
              · replace hf := if_n hc hf
                obtain rfl := Option.some.inj hf
                exact hJ _ _ _ hP hS (lv_sub hl [0, 1, 2, 3] rfl)
              · replace hf := if_p hc hf
                refine lv_aload_n hx hb d_MO_lookBeside_123 rfl (lv_at hl 0 rfl) ?_
                refine g_MO_nearMany hx hb hts hown hG hP (hts _ in_587) d_MO_lookBeside_124 ?_
                refine lv_istore (lv' := [(6, .int (ν.1 63 26)), (0, .ref (adr 63)), (1, .int y1), (2, .int y2), (3, .int y3), (4, .int v1), (5, .int v22)]) hx hb d_MO_lookBeside_127 hl (by decide) rfl (fun ls hl => ?_)
                replace hf := B_some hf
                obtain ⟨v27, hv27, hf⟩ := hf
                refine w_MO_lookBeside_L129 y1 y2 y3 v1  C hG v27 ?_ FU _ _ hv27 hP hS (lv_sub hl [1, 2, 3, 4, 5, 0] rfl)
                clear hv27 hP hS hl
                intro H locs ls hP hS hl
                refine lv_aload_n hx hb d_MO_lookBeside_175 rfl (lv_at hl 0 rfl) ?_
                refine g_MO_near hx hb hts hown hG hP (hts _ in_586) d_MO_lookBeside_176 ?_
                refine lv_iload hx hb d_MO_lookBeside_179 (lv_at hl 5 rfl) ?_
                refine lv_aload_n hx hb d_MO_lookBeside_181 rfl (lv_at hl 0 rfl) ?_
                refine g_MO_owner hx hb hts hown hG hP (hts _ in_584) d_MO_lookBeside_182 ?_
                refine lv_iload hx hb d_MO_lookBeside_185 (lv_at hl 4 rfl) ?_
                replace hf := G_some hf
                obtain ⟨hi28, hf⟩ := hf
                refine r_iald hx hb hG hP 81 64 (f := v27.2.1 81) (by decide) (wc_M (by decide) rfl) hi28 d_MO_lookBeside_187 ?_
                replace hf := G_some hf
                obtain ⟨hi29, hf⟩ := hf
                refine rM_iast hx hb hG hP hS 83 4 (by decide) (by decide) (fun _ _ => rfl) hi29 d_MO_lookBeside_188 (fun H locs hP hS => ?_)
                refine lv_aload_n hx hb d_MO_lookBeside_189 rfl (lv_at hl 0 rfl) ?_
                refine lv_dup hx hb d_MO_lookBeside_190 rfl ?_
                refine g_MO_nearMany hx hb hts hown hG hP (hts _ in_587) d_MO_lookBeside_191 ?_
                refine lv_iconst (v := 1) hx hb d_MO_lookBeside_194 (by decide) ?_
                refine lv_iadd hx hb d_MO_lookBeside_195 ?_
                refine p_MO_nearMany hx hb hts hown hG hP hS (hts _ in_587) d_MO_lookBeside_196 (fun H locs hP hS => ?_)
                obtain rfl := Option.some.inj hf
                exact hJ _ _ _ hP hS (lv_sub hl [0, 1, 2, 3] rfl)
          · replace hf := if_p hc hf
            refine lv_iconst (v := 1) hx hb d_MO_lookBeside_53 (by decide) ?_
            refine lv_istore_n (lv' := [(2, .int 1), (4, .int v1), (0, .ref (adr 63)), (1, .int y1), (3, .int y3)]) hx hb d_MO_lookBeside_54 rfl hl (by decide) rfl (fun ls hl => ?_)
            refine lv_goto (tgt := 199) hx hb d_MO_lookBeside_55 (by decide) ?_
            obtain rfl := Option.some.inj hf
            exact hJ _ _ _ hP hS (lv_sub hl [2, 3, 0, 4] rfl)
set_option maxHeartbeats 4000000 in
set_option maxRecDepth 100000 in
theorem w_MO_lookBeside (x1 : Int32)  (C : Cx prog_7_method_18_code 7 "LakeReliefModel" (Option.some Jvm.ClassFile.FieldType.boolean) p s m args meth c) (hG : Geo D adr cA s) {res : Int32 × Mem} (hf : f_MO_lookBeside ν x1 = some res) (hq : ∀ (pc : Nat) (ls : Array Slot) (H : Heap) (locs : List Loc), res.1 &&& 1 = res.1 → decode prog_7_method_18_code pc = .ok (.ireturn, 1) → va_P D cls (wld adr cA μ res.2) H → va_S (AA adr) s.heap H locs → W p l e rm_MO_lookBeside s m args below meth c H locs 0 0 Q (F0 m pc ls [.int res.1])) {H : Heap} {locs : List Loc} {ls : Array Slot} (hP : va_P D cls (wld adr cA μ ν) H) (hS : va_S (AA adr) s.heap H locs) (hl : lv_has ls 7 [(0, .ref (adr 63)), (1, .int x1)]) : W p l e rm_MO_lookBeside s m args below meth c H locs 0 0 Q (F0 m 0 ls []) := by
  obtain ⟨hx, hb, hml, hown, hts, hr, hlocks⟩ := id C
  unfold f_MO_lookBeside at hf
  refine lv_iconst (v := 0) hx hb d_MO_lookBeside_0 (by decide) ?_
  refine lv_istore_n (lv' := [(2, .int 0), (0, .ref (adr 63)), (1, .int x1)]) hx hb d_MO_lookBeside_1 rfl hl (by decide) rfl (fun ls hl => ?_)
  refine lv_aload_n hx hb d_MO_lookBeside_2 rfl (lv_at hl 1 rfl) ?_
  refine lv_iconst (v := 0) hx hb d_MO_lookBeside_3 (by decide) ?_
  refine p_MO_nearMany hx hb hts hown hG hP hS (hts _ in_587) d_MO_lookBeside_4 (fun H locs hP hS => ?_)
  refine lv_iconst (v := 0) hx hb d_MO_lookBeside_7 (by decide) ?_
  refine lv_istore_n (lv' := [(3, .int 0), (2, .int 0), (0, .ref (adr 63)), (1, .int x1)]) hx hb d_MO_lookBeside_8 rfl hl (by decide) rfl (fun ls hl => ?_)
  replace hf := B_some hf
  obtain ⟨v30, hv30, hf⟩ := hf
  refine w_MO_lookBeside_L9 x1  C hG v30 ?_ FU _ _ _ hv30 hP hS (lv_sub hl [2, 3, 1, 0] rfl)
  clear hv30 hP hS hl
  intro H locs ls hP hS hl
  refine lv_iload_n hx hb d_MO_lookBeside_205 rfl (lv_at hl 0 rfl) ?_
  replace hf := Bg_some hf
  obtain ⟨hb31, hf⟩ := hf
  obtain rfl := Option.some.inj hf
  exact hq _ _ _ _ hb31 d_MO_lookBeside_206 hP hS
theorem c_MO_lookBeside (l : Launch) (D : va_G) (adr : Nat → Nat) (cA : Nat → ClassId) (μ ν : Mem) (x1 : Int32)  {res : Int32 × Mem} (hf : f_MO_lookBeside ν x1 = some res) : Met l y_MO_lookBeside (Cond.code y_MO_lookBeside prog_7_method_18_code 7 (Option.some Jvm.ClassFile.FieldType.boolean) :: lw_ok) rm_MO_lookBeside (va_Pc [.ref (adr 63), .int x1] (Wd D adr cA μ ν)) (QI D adr cA res.1 μ res.2) 0 0 (AA adr) :=
  met_of (own := "LakeReliefModel") rfl rfl (Nat.le_of_ble_eq_true rfl) (fun p e s m below meth c C hG hP hS ls hl => w_MO_lookBeside x1  C hG hf (fun pc ls H locs hz hd hP hS => ret_z C.1 C.2.1 C.2.2.2.2.2.1 C.2.2.2.2.2.2 hG hz hd hP hS) hP hS hl)
end X_MO_lookBeside
section X_MO_twice
variable {p : Program} {l : Launch} {e : Env} {s : State} {m : MethodId} {args : Array Value} {below : List Frame} {meth : Method} {c : Code} {Q : State → Prop}
variable {D : va_G} {adr : Nat → Nat} {cA : Nat → ClassId} {μ ν : Mem}
theorem d_MO_twice_0 : decode prog_7_method_19_code 0 = .ok (.aload_n 0, 1) := by decide +kernel
theorem d_MO_twice_1 : decode prog_7_method_19_code 1 = .ok (.invokevirtual 122, 3) := by decide +kernel
theorem d_MO_twice_4 : decode prog_7_method_19_code 4 = .ok (.istore 4, 2) := by decide +kernel
theorem d_MO_twice_6 : decode prog_7_method_19_code 6 = .ok (.aload_n 0, 1) := by decide +kernel
theorem d_MO_twice_7 : decode prog_7_method_19_code 7 = .ok (.getfield 35, 3) := by decide +kernel
theorem d_MO_twice_10 : decode prog_7_method_19_code 10 = .ok (.iload 4, 2) := by decide +kernel
theorem d_MO_twice_12 : decode prog_7_method_19_code 12 = .ok (.iconst 1, 1) := by decide +kernel
theorem d_MO_twice_13 : decode prog_7_method_19_code 13 = .ok (.bastore, 1) := by decide +kernel
theorem d_MO_twice_14 : decode prog_7_method_19_code 14 = .ok (.aload_n 0, 1) := by decide +kernel
theorem d_MO_twice_15 : decode prog_7_method_19_code 15 = .ok (.getfield 48, 3) := by decide +kernel
theorem d_MO_twice_18 : decode prog_7_method_19_code 18 = .ok (.iload 4, 2) := by decide +kernel
theorem d_MO_twice_20 : decode prog_7_method_19_code 20 = .ok (.iload_n 1, 1) := by decide +kernel
theorem d_MO_twice_21 : decode prog_7_method_19_code 21 = .ok (.iload_n 2, 1) := by decide +kernel
theorem d_MO_twice_22 : decode prog_7_method_19_code 22 = .ok (.if_icmp .ge 7, 3) := by decide +kernel
theorem d_MO_twice_25 : decode prog_7_method_19_code 25 = .ok (.iload_n 1, 1) := by decide +kernel
theorem d_MO_twice_26 : decode prog_7_method_19_code 26 = .ok (.goto 4, 3) := by decide +kernel
theorem d_MO_twice_29 : decode prog_7_method_19_code 29 = .ok (.iload_n 2, 1) := by decide +kernel
theorem d_MO_twice_30 : decode prog_7_method_19_code 30 = .ok (.iastore, 1) := by decide +kernel
theorem d_MO_twice_31 : decode prog_7_method_19_code 31 = .ok (.aload_n 0, 1) := by decide +kernel
theorem d_MO_twice_32 : decode prog_7_method_19_code 32 = .ok (.getfield 51, 3) := by decide +kernel
theorem d_MO_twice_35 : decode prog_7_method_19_code 35 = .ok (.iload 4, 2) := by decide +kernel
theorem d_MO_twice_37 : decode prog_7_method_19_code 37 = .ok (.iload_n 1, 1) := by decide +kernel
theorem d_MO_twice_38 : decode prog_7_method_19_code 38 = .ok (.iload_n 2, 1) := by decide +kernel
theorem d_MO_twice_39 : decode prog_7_method_19_code 39 = .ok (.if_icmp .ge 7, 3) := by decide +kernel
theorem d_MO_twice_42 : decode prog_7_method_19_code 42 = .ok (.iload_n 2, 1) := by decide +kernel
theorem d_MO_twice_43 : decode prog_7_method_19_code 43 = .ok (.goto 4, 3) := by decide +kernel
theorem d_MO_twice_46 : decode prog_7_method_19_code 46 = .ok (.iload_n 1, 1) := by decide +kernel
theorem d_MO_twice_47 : decode prog_7_method_19_code 47 = .ok (.iastore, 1) := by decide +kernel
theorem d_MO_twice_48 : decode prog_7_method_19_code 48 = .ok (.aload_n 0, 1) := by decide +kernel
theorem d_MO_twice_49 : decode prog_7_method_19_code 49 = .ok (.getfield 38, 3) := by decide +kernel
theorem d_MO_twice_52 : decode prog_7_method_19_code 52 = .ok (.iload 4, 2) := by decide +kernel
theorem d_MO_twice_54 : decode prog_7_method_19_code 54 = .ok (.aload_n 0, 1) := by decide +kernel
theorem d_MO_twice_55 : decode prog_7_method_19_code 55 = .ok (.getfield 38, 3) := by decide +kernel
theorem d_MO_twice_58 : decode prog_7_method_19_code 58 = .ok (.iload_n 1, 1) := by decide +kernel
theorem d_MO_twice_59 : decode prog_7_method_19_code 59 = .ok (.laload, 1) := by decide +kernel
theorem d_MO_twice_60 : decode prog_7_method_19_code 60 = .ok (.aload_n 0, 1) := by decide +kernel
theorem d_MO_twice_61 : decode prog_7_method_19_code 61 = .ok (.getfield 38, 3) := by decide +kernel
theorem d_MO_twice_64 : decode prog_7_method_19_code 64 = .ok (.iload_n 2, 1) := by decide +kernel
theorem d_MO_twice_65 : decode prog_7_method_19_code 65 = .ok (.laload, 1) := by decide +kernel
theorem d_MO_twice_66 : decode prog_7_method_19_code 66 = .ok (.lor, 1) := by decide +kernel
theorem d_MO_twice_67 : decode prog_7_method_19_code 67 = .ok (.lastore, 1) := by decide +kernel
theorem d_MO_twice_68 : decode prog_7_method_19_code 68 = .ok (.aload_n 0, 1) := by decide +kernel
theorem d_MO_twice_69 : decode prog_7_method_19_code 69 = .ok (.getfield 42, 3) := by decide +kernel
theorem d_MO_twice_72 : decode prog_7_method_19_code 72 = .ok (.iload_n 1, 1) := by decide +kernel
theorem d_MO_twice_73 : decode prog_7_method_19_code 73 = .ok (.iload_n 3, 1) := by decide +kernel
theorem d_MO_twice_74 : decode prog_7_method_19_code 74 = .ok (.iastore, 1) := by decide +kernel
theorem d_MO_twice_75 : decode prog_7_method_19_code 75 = .ok (.aload_n 0, 1) := by decide +kernel
theorem d_MO_twice_76 : decode prog_7_method_19_code 76 = .ok (.getfield 42, 3) := by decide +kernel
theorem d_MO_twice_79 : decode prog_7_method_19_code 79 = .ok (.iload_n 2, 1) := by decide +kernel
theorem d_MO_twice_80 : decode prog_7_method_19_code 80 = .ok (.iload_n 3, 1) := by decide +kernel
theorem d_MO_twice_81 : decode prog_7_method_19_code 81 = .ok (.iastore, 1) := by decide +kernel
theorem d_MO_twice_82 : decode prog_7_method_19_code 82 = .ok (.aload_n 0, 1) := by decide +kernel
theorem d_MO_twice_83 : decode prog_7_method_19_code 83 = .ok (.getfield 45, 3) := by decide +kernel
theorem d_MO_twice_86 : decode prog_7_method_19_code 86 = .ok (.iload_n 1, 1) := by decide +kernel
theorem d_MO_twice_87 : decode prog_7_method_19_code 87 = .ok (.iload 4, 2) := by decide +kernel
theorem d_MO_twice_89 : decode prog_7_method_19_code 89 = .ok (.iastore, 1) := by decide +kernel
theorem d_MO_twice_90 : decode prog_7_method_19_code 90 = .ok (.aload_n 0, 1) := by decide +kernel
theorem d_MO_twice_91 : decode prog_7_method_19_code 91 = .ok (.getfield 45, 3) := by decide +kernel
theorem d_MO_twice_94 : decode prog_7_method_19_code 94 = .ok (.iload_n 2, 1) := by decide +kernel
theorem d_MO_twice_95 : decode prog_7_method_19_code 95 = .ok (.iload 4, 2) := by decide +kernel
theorem d_MO_twice_97 : decode prog_7_method_19_code 97 = .ok (.iastore, 1) := by decide +kernel
theorem d_MO_twice_98 : decode prog_7_method_19_code 98 = .ok (.aload_n 0, 1) := by decide +kernel
theorem d_MO_twice_99 : decode prog_7_method_19_code 99 = .ok (.iload_n 1, 1) := by decide +kernel
theorem d_MO_twice_100 : decode prog_7_method_19_code 100 = .ok (.iload 4, 2) := by decide +kernel
theorem d_MO_twice_102 : decode prog_7_method_19_code 102 = .ok (.invokevirtual 126, 3) := by decide +kernel
theorem d_MO_twice_105 : decode prog_7_method_19_code 105 = .ok (.aload_n 0, 1) := by decide +kernel
theorem d_MO_twice_106 : decode prog_7_method_19_code 106 = .ok (.iload_n 2, 1) := by decide +kernel
theorem d_MO_twice_107 : decode prog_7_method_19_code 107 = .ok (.iload 4, 2) := by decide +kernel
theorem d_MO_twice_109 : decode prog_7_method_19_code 109 = .ok (.invokevirtual 126, 3) := by decide +kernel
theorem d_MO_twice_112 : decode prog_7_method_19_code 112 = .ok (.iload 4, 2) := by decide +kernel
theorem d_MO_twice_114 : decode prog_7_method_19_code 114 = .ok (.ireturn, 1) := by decide +kernel
set_option maxHeartbeats 4000000 in
set_option maxRecDepth 100000 in
theorem w_MO_twice (x1 : Int32) (x2 : Int32) (x3 : Int32)  (C : Cx prog_7_method_19_code 5 "LakeReliefModel" (Option.some Jvm.ClassFile.FieldType.int) p s m args meth c) (hG : Geo D adr cA s) {res : Int32 × Mem} (hf : f_MO_twice ν x1 x2 x3 = some res) (hq : ∀ (pc : Nat) (ls : Array Slot) (H : Heap) (locs : List Loc), decode prog_7_method_19_code pc = .ok (.ireturn, 1) → va_P D cls (wld adr cA μ res.2) H → va_S (AA adr) s.heap H locs → W p l e rm_MO_twice s m args below meth c H locs 0 0 Q (F0 m pc ls [.int res.1])) {H : Heap} {locs : List Loc} {ls : Array Slot} (hP : va_P D cls (wld adr cA μ ν) H) (hS : va_S (AA adr) s.heap H locs) (hl : lv_has ls 5 [(0, .ref (adr 63)), (1, .int x1), (2, .int x2), (3, .int x3)]) : W p l e rm_MO_twice s m args below meth c H locs 0 0 Q (F0 m 0 ls []) := by
  obtain ⟨hx, hb, hml, hown, hts, hr, hlocks⟩ := id C
  unfold f_MO_twice at hf
  refine lv_aload_n hx hb d_MO_twice_0 rfl (lv_at hl 0 rfl) ?_
  replace hf := B_some hf
  obtain ⟨v1, hv1, hf⟩ := hf
  refine ki (kv (As := []) (rest := []) ⟨hx, hb, hml, hown, hts⟩ (cw_MO_122 hts ⟨Nat.le_of_ble_eq_true rfl, Nat.le_of_ble_eq_true rfl⟩) (c_MO_newLake l D adr cA μ ν hv1) hG hP (rc_o (q := 63) (ci := 5) hG hP (by decide) (wc_M (by decide) rfl) rfl) rfl hl.1 (Nat.le_of_ble_eq_true rfl) d_MO_twice_1) hS (fun H locs hP hS => ?_)
  refine lv_istore (lv' := [(4, .int v1.1), (0, .ref (adr 63)), (1, .int x1), (2, .int x2), (3, .int x3)]) hx hb d_MO_twice_4 hl (by decide) rfl (fun ls hl => ?_)
  refine lv_aload_n hx hb d_MO_twice_6 rfl (lv_at hl 1 rfl) ?_
  refine g_MO_isDouble hx hb hts hown hG hP (hts _ in_573) d_MO_twice_7 ?_
  refine lv_iload hx hb d_MO_twice_10 (lv_at hl 0 rfl) ?_
  refine lv_iconst (v := 1) hx hb d_MO_twice_12 (by decide) ?_
  replace hf := G_some hf
  obtain ⟨hi2, hf⟩ := hf
  refine rM_zast hx hb hG hP hS 72 64 (by decide) (by decide) (fun _ _ => rfl) hi2 d_MO_twice_13 (fun H locs hP hS => ?_)
  refine lv_aload_n hx hb d_MO_twice_14 rfl (lv_at hl 1 rfl) ?_
  refine g_MO_first hx hb hts hown hG hP (hts _ in_577) d_MO_twice_15 ?_
  refine lv_iload hx hb d_MO_twice_18 (lv_at hl 0 rfl) ?_
  refine lv_iload_n hx hb d_MO_twice_20 rfl (lv_at hl 2 rfl) ?_
  refine lv_iload_n hx hb d_MO_twice_21 rfl (lv_at hl 3 rfl) ?_
  replace hf := B_some hf
  obtain ⟨v3, hv3, hf⟩ := hf
  have hJ : ∀ (H : Heap) (locs : List Loc) (ls : Array Slot), va_P D cls (wld adr cA μ (sI v1.2 72 v1.1.toNatClampNeg (1 &&& 1))) H → va_S (AA adr) s.heap H locs → lv_has ls 5 [(0, .ref (adr 63)), (1, .int x1), (2, .int x2), (3, .int x3), (4, .int v1.1)] → W p l e rm_MO_twice s m args below meth c H locs 0 0 Q (F0 m 30 ls [.int v3, .int v1.1, .ref (adr 76)]) := by
    clear hv3
    intro H locs ls hP hS hl
    replace hf := G_some hf
    obtain ⟨hi4, hf⟩ := hf
    refine rM_iast hx hb hG hP hS 76 64 (by decide) (by decide) (fun _ _ => rfl) hi4 d_MO_twice_30 (fun H locs hP hS => ?_)
    refine lv_aload_n hx hb d_MO_twice_31 rfl (lv_at hl 0 rfl) ?_
    refine g_MO_second hx hb hts hown hG hP (hts _ in_578) d_MO_twice_32 ?_
    refine lv_iload hx hb d_MO_twice_35 (lv_at hl 4 rfl) ?_
    refine lv_iload_n hx hb d_MO_twice_37 rfl (lv_at hl 1 rfl) ?_
    refine lv_iload_n hx hb d_MO_twice_38 rfl (lv_at hl 2 rfl) ?_
    replace hf := B_some hf
    obtain ⟨v5, hv5, hf⟩ := hf
    have hJ : ∀ (H : Heap) (locs : List Loc) (ls : Array Slot), va_P D cls (wld adr cA μ (sI (sI v1.2 72 v1.1.toNatClampNeg (1 &&& 1)) 76 v1.1.toNatClampNeg v3)) H → va_S (AA adr) s.heap H locs → lv_has ls 5 [(0, .ref (adr 63)), (1, .int x1), (2, .int x2), (3, .int x3), (4, .int v1.1)] → W p l e rm_MO_twice s m args below meth c H locs 0 0 Q (F0 m 47 ls [.int v5, .int v1.1, .ref (adr 77)]) := by
      clear hv5
      intro H locs ls hP hS hl
      replace hf := G_some hf
      obtain ⟨hi6, hf⟩ := hf
      refine rM_iast hx hb hG hP hS 77 64 (by decide) (by decide) (fun _ _ => rfl) hi6 d_MO_twice_47 (fun H locs hP hS => ?_)
      refine lv_aload_n hx hb d_MO_twice_48 rfl (lv_at hl 0 rfl) ?_
      refine g_MO_ground hx hb hts hown hG hP (hts _ in_574) d_MO_twice_49 ?_
      refine lv_iload hx hb d_MO_twice_52 (lv_at hl 4 rfl) ?_
      refine lv_aload_n hx hb d_MO_twice_54 rfl (lv_at hl 0 rfl) ?_
      refine g_MO_ground hx hb hts hown hG hP (hts _ in_574) d_MO_twice_55 ?_
      refine lv_iload_n hx hb d_MO_twice_58 rfl (lv_at hl 1 rfl) ?_
      replace hf := G_some hf
      obtain ⟨hi7, hf⟩ := hf
      refine r_lald hx hb hG hP 73 64 (f := (sI (sI (sI v1.2 72 v1.1.toNatClampNeg (1 &&& 1)) 76 v1.1.toNatClampNeg v3) 77 v1.1.toNatClampNeg v5).2 73) (by decide) (wc_M (by decide) rfl) hi7 d_MO_twice_59 ?_
      refine lv_aload_n hx hb d_MO_twice_60 rfl (lv_at hl 0 rfl) ?_
      refine g_MO_ground hx hb hts hown hG hP (hts _ in_574) d_MO_twice_61 ?_
      refine lv_iload_n hx hb d_MO_twice_64 rfl (lv_at hl 2 rfl) ?_
      replace hf := G_some hf
      obtain ⟨hi8, hf⟩ := hf
      refine r_lald hx hb hG hP 73 64 (f := (sI (sI (sI v1.2 72 v1.1.toNatClampNeg (1 &&& 1)) 76 v1.1.toNatClampNeg v3) 77 v1.1.toNatClampNeg v5).2 73) (by decide) (wc_M (by decide) rfl) hi8 d_MO_twice_65 ?_
      refine lv_lor hx hb d_MO_twice_66 ?_
      replace hf := G_some hf
      obtain ⟨hi9, hf⟩ := hf
      refine rM_last hx hb hG hP hS 73 64 (by decide) (by decide) (fun _ _ => rfl) hi9 d_MO_twice_67 (fun H locs hP hS => ?_)
      refine lv_aload_n hx hb d_MO_twice_68 rfl (lv_at hl 0 rfl) ?_
      refine g_MO_rim hx hb hts hown hG hP (hts _ in_575) d_MO_twice_69 ?_
      refine lv_iload_n hx hb d_MO_twice_72 rfl (lv_at hl 1 rfl) ?_
      refine lv_iload_n hx hb d_MO_twice_73 rfl (lv_at hl 3 rfl) ?_
      replace hf := G_some hf
      obtain ⟨hi10, hf⟩ := hf
      refine rM_iast hx hb hG hP hS 74 64 (by decide) (by decide) (fun _ _ => rfl) hi10 d_MO_twice_74 (fun H locs hP hS => ?_)
      refine lv_aload_n hx hb d_MO_twice_75 rfl (lv_at hl 0 rfl) ?_
      refine g_MO_rim hx hb hts hown hG hP (hts _ in_575) d_MO_twice_76 ?_
      refine lv_iload_n hx hb d_MO_twice_79 rfl (lv_at hl 2 rfl) ?_
      refine lv_iload_n hx hb d_MO_twice_80 rfl (lv_at hl 3 rfl) ?_
      replace hf := G_some hf
      obtain ⟨hi11, hf⟩ := hf
      refine rM_iast hx hb hG hP hS 74 64 (by decide) (by decide) (fun _ _ => rfl) hi11 d_MO_twice_81 (fun H locs hP hS => ?_)
      refine lv_aload_n hx hb d_MO_twice_82 rfl (lv_at hl 0 rfl) ?_
      refine g_MO_above hx hb hts hown hG hP (hts _ in_576) d_MO_twice_83 ?_
      refine lv_iload_n hx hb d_MO_twice_86 rfl (lv_at hl 1 rfl) ?_
      refine lv_iload hx hb d_MO_twice_87 (lv_at hl 4 rfl) ?_
      replace hf := G_some hf
      obtain ⟨hi12, hf⟩ := hf
      refine rM_iast hx hb hG hP hS 75 64 (by decide) (by decide) (fun _ _ => rfl) hi12 d_MO_twice_89 (fun H locs hP hS => ?_)
      refine lv_aload_n hx hb d_MO_twice_90 rfl (lv_at hl 0 rfl) ?_
      refine g_MO_above hx hb hts hown hG hP (hts _ in_576) d_MO_twice_91 ?_
      refine lv_iload_n hx hb d_MO_twice_94 rfl (lv_at hl 2 rfl) ?_
      refine lv_iload hx hb d_MO_twice_95 (lv_at hl 4 rfl) ?_
      replace hf := G_some hf
      obtain ⟨hi13, hf⟩ := hf
      refine rM_iast hx hb hG hP hS 75 64 (by decide) (by decide) (fun _ _ => rfl) hi13 d_MO_twice_97 (fun H locs hP hS => ?_)
      refine lv_aload_n hx hb d_MO_twice_98 rfl (lv_at hl 0 rfl) ?_
      refine lv_iload_n hx hb d_MO_twice_99 rfl (lv_at hl 1 rfl) ?_
      refine lv_iload hx hb d_MO_twice_100 (lv_at hl 4 rfl) ?_
      replace hf := B_some hf
      obtain ⟨v14, hv14, hf⟩ := hf
      refine kw (kv (As := [.int x1, .int v1.1]) (rest := []) ⟨hx, hb, hml, hown, hts⟩ (cw_MO_126 hts ⟨Nat.le_of_ble_eq_true rfl, Nat.le_of_ble_eq_true rfl⟩) (c_MO_becomes l D adr cA μ (sI (sI (sI (sI (sJ (sI (sI (sI v1.2 72 v1.1.toNatClampNeg (1 &&& 1)) 76 v1.1.toNatClampNeg v3) 77 v1.1.toNatClampNeg v5) 73 v1.1.toNatClampNeg (((sI (sI (sI v1.2 72 v1.1.toNatClampNeg (1 &&& 1)) 76 v1.1.toNatClampNeg v3) 77 v1.1.toNatClampNeg v5).2 73 x1.toNatClampNeg) ||| ((sI (sI (sI v1.2 72 v1.1.toNatClampNeg (1 &&& 1)) 76 v1.1.toNatClampNeg v3) 77 v1.1.toNatClampNeg v5).2 73 x2.toNatClampNeg))) 74 x1.toNatClampNeg x3) 74 x2.toNatClampNeg x3) 75 x1.toNatClampNeg v1.1) 75 x2.toNatClampNeg v1.1) x1 v1.1 hv14) hG hP (rc_o (q := 63) (ci := 5) hG hP (by decide) (wc_M (by decide) rfl) rfl) rfl hl.1 (Nat.le_of_ble_eq_true rfl) d_MO_twice_102) hS (fun H locs hP hS => ?_)
      refine lv_aload_n hx hb d_MO_twice_105 rfl (lv_at hl 0 rfl) ?_
      refine lv_iload_n hx hb d_MO_twice_106 rfl (lv_at hl 2 rfl) ?_
      refine lv_iload hx hb d_MO_twice_107 (lv_at hl 4 rfl) ?_
      replace hf := B_some hf
      obtain ⟨v15, hv15, hf⟩ := hf
      refine kw (kv (As := [.int x2, .int v1.1]) (rest := []) ⟨hx, hb, hml, hown, hts⟩ (cw_MO_126 hts ⟨Nat.le_of_ble_eq_true rfl, Nat.le_of_ble_eq_true rfl⟩) (c_MO_becomes l D adr cA μ v14 x2 v1.1 hv15) hG hP (rc_o (q := 63) (ci := 5) hG hP (by decide) (wc_M (by decide) rfl) rfl) rfl hl.1 (Nat.le_of_ble_eq_true rfl) d_MO_twice_109) hS (fun H locs hP hS => ?_)
      refine lv_iload hx hb d_MO_twice_112 (lv_at hl 4 rfl) ?_
      obtain rfl := Option.some.inj hf
      exact hq _ _ _ _ d_MO_twice_114 hP hS
    clear hf
    have hf := hv5
    clear hv5
    refine lv_icmp_ge (tgt := 46) hx hb d_MO_twice_39 (by decide) (fun hc => ?_) (fun hc => ?_)
    · replace hf := if_p hc hf
      refine lv_iload_n hx hb d_MO_twice_46 rfl (lv_at hl 1 rfl) ?_
      obtain rfl := Option.some.inj hf
      exact hJ _ _ _ hP hS (lv_sub hl [0, 1, 2, 3, 4] rfl)
    · replace hf := if_n hc hf
      refine lv_iload_n hx hb d_MO_twice_42 rfl (lv_at hl 2 rfl) ?_
      refine lv_goto (tgt := 47) hx hb d_MO_twice_43 (by decide) ?_
      obtain rfl := Option.some.inj hf
      exact hJ _ _ _ hP hS (lv_sub hl [0, 1, 2, 3, 4] rfl)
  clear hf
  have hf := hv3
  clear hv3
  refine lv_icmp_ge (tgt := 29) hx hb d_MO_twice_22 (by decide) (fun hc => ?_) (fun hc => ?_)
  · replace hf := if_p hc hf
    refine lv_iload_n hx hb d_MO_twice_29 rfl (lv_at hl 3 rfl) ?_
    obtain rfl := Option.some.inj hf
    exact hJ _ _ _ hP hS (lv_sub hl [1, 2, 3, 4, 0] rfl)
  · replace hf := if_n hc hf
    refine lv_iload_n hx hb d_MO_twice_25 rfl (lv_at hl 2 rfl) ?_
    refine lv_goto (tgt := 30) hx hb d_MO_twice_26 (by decide) ?_
    obtain rfl := Option.some.inj hf
    exact hJ _ _ _ hP hS (lv_sub hl [1, 2, 3, 4, 0] rfl)
theorem c_MO_twice (l : Launch) (D : va_G) (adr : Nat → Nat) (cA : Nat → ClassId) (μ ν : Mem) (x1 : Int32) (x2 : Int32) (x3 : Int32)  {res : Int32 × Mem} (hf : f_MO_twice ν x1 x2 x3 = some res) : Met l y_MO_twice (Cond.code y_MO_twice prog_7_method_19_code 5 (Option.some Jvm.ClassFile.FieldType.int) :: lw_ok) rm_MO_twice (va_Pc [.ref (adr 63), .int x1, .int x2, .int x3] (Wd D adr cA μ ν)) (QI D adr cA res.1 μ res.2) 0 0 (AA adr) :=
  met_of (own := "LakeReliefModel") rfl rfl (Nat.le_of_ble_eq_true rfl) (fun p e s m below meth c C hG hP hS ls hl => w_MO_twice x1 x2 x3  C hG hf (fun pc ls H locs hd hP hS => ret_i C.1 C.2.1 C.2.2.2.2.2.1 C.2.2.2.2.2.2 hG hd hP hS) hP hS hl)
end X_MO_twice
section X_MO_goUnder
variable {p : Program} {l : Launch} {e : Env} {s : State} {m : MethodId} {args : Array Value} {below : List Frame} {meth : Method} {c : Code} {Q : State → Prop}
variable {D : va_G} {adr : Nat → Nat} {cA : Nat → ClassId} {μ ν : Mem}
theorem d_MO_goUnder_0 : decode prog_7_method_20_code 0 = .ok (.aload_n 0, 1) := by decide +kernel
theorem d_MO_goUnder_1 : decode prog_7_method_20_code 1 = .ok (.iload_n 1, 1) := by decide +kernel
theorem d_MO_goUnder_2 : decode prog_7_method_20_code 2 = .ok (.invokevirtual 130, 3) := by decide +kernel
theorem d_MO_goUnder_5 : decode prog_7_method_20_code 5 = .ok (.istore_n 2, 1) := by decide +kernel
theorem d_MO_goUnder_6 : decode prog_7_method_20_code 6 = .ok (.iload_n 2, 1) := by decide +kernel
theorem d_MO_goUnder_7 : decode prog_7_method_20_code 7 = .ok (.ifCond .eq 67, 3) := by decide +kernel
theorem d_MO_goUnder_10 : decode prog_7_method_20_code 10 = .ok (.iconst 0, 1) := by decide +kernel
theorem d_MO_goUnder_11 : decode prog_7_method_20_code 11 = .ok (.istore_n 3, 1) := by decide +kernel
theorem d_MO_goUnder_12 : decode prog_7_method_20_code 12 = .ok (.iload_n 3, 1) := by decide +kernel
theorem d_MO_goUnder_13 : decode prog_7_method_20_code 13 = .ok (.aload_n 0, 1) := by decide +kernel
theorem d_MO_goUnder_14 : decode prog_7_method_20_code 14 = .ok (.getfield 119, 3) := by decide +kernel
theorem d_MO_goUnder_17 : decode prog_7_method_20_code 17 = .ok (.if_icmp .ge 46, 3) := by decide +kernel
theorem d_MO_goUnder_20 : decode prog_7_method_20_code 20 = .ok (.aload_n 0, 1) := by decide +kernel
theorem d_MO_goUnder_21 : decode prog_7_method_20_code 21 = .ok (.getfield 42, 3) := by decide +kernel
theorem d_MO_goUnder_24 : decode prog_7_method_20_code 24 = .ok (.aload_n 0, 1) := by decide +kernel
theorem d_MO_goUnder_25 : decode prog_7_method_20_code 25 = .ok (.getfield 69, 3) := by decide +kernel
theorem d_MO_goUnder_28 : decode prog_7_method_20_code 28 = .ok (.iload_n 3, 1) := by decide +kernel
theorem d_MO_goUnder_29 : decode prog_7_method_20_code 29 = .ok (.iaload, 1) := by decide +kernel
theorem d_MO_goUnder_30 : decode prog_7_method_20_code 30 = .ok (.iload_n 1, 1) := by decide +kernel
theorem d_MO_goUnder_31 : decode prog_7_method_20_code 31 = .ok (.iastore, 1) := by decide +kernel
theorem d_MO_goUnder_32 : decode prog_7_method_20_code 32 = .ok (.aload_n 0, 1) := by decide +kernel
theorem d_MO_goUnder_33 : decode prog_7_method_20_code 33 = .ok (.getfield 45, 3) := by decide +kernel
theorem d_MO_goUnder_36 : decode prog_7_method_20_code 36 = .ok (.aload_n 0, 1) := by decide +kernel
theorem d_MO_goUnder_37 : decode prog_7_method_20_code 37 = .ok (.getfield 69, 3) := by decide +kernel
theorem d_MO_goUnder_40 : decode prog_7_method_20_code 40 = .ok (.iload_n 3, 1) := by decide +kernel
theorem d_MO_goUnder_41 : decode prog_7_method_20_code 41 = .ok (.iaload, 1) := by decide +kernel
theorem d_MO_goUnder_42 : decode prog_7_method_20_code 42 = .ok (.bipush (-5), 2) := by decide +kernel
theorem d_MO_goUnder_44 : decode prog_7_method_20_code 44 = .ok (.iastore, 1) := by decide +kernel
theorem d_MO_goUnder_45 : decode prog_7_method_20_code 45 = .ok (.aload_n 0, 1) := by decide +kernel
theorem d_MO_goUnder_46 : decode prog_7_method_20_code 46 = .ok (.aload_n 0, 1) := by decide +kernel
theorem d_MO_goUnder_47 : decode prog_7_method_20_code 47 = .ok (.getfield 69, 3) := by decide +kernel
theorem d_MO_goUnder_50 : decode prog_7_method_20_code 50 = .ok (.iload_n 3, 1) := by decide +kernel
theorem d_MO_goUnder_51 : decode prog_7_method_20_code 51 = .ok (.iaload, 1) := by decide +kernel
theorem d_MO_goUnder_52 : decode prog_7_method_20_code 52 = .ok (.bipush (-5), 2) := by decide +kernel
theorem d_MO_goUnder_54 : decode prog_7_method_20_code 54 = .ok (.invokevirtual 126, 3) := by decide +kernel
theorem d_MO_goUnder_57 : decode prog_7_method_20_code 57 = .ok (.iinc 3 1, 3) := by decide +kernel
theorem d_MO_goUnder_60 : decode prog_7_method_20_code 60 = .ok (.goto (-48), 3) := by decide +kernel
theorem d_MO_goUnder_63 : decode prog_7_method_20_code 63 = .ok (.aload_n 0, 1) := by decide +kernel
theorem d_MO_goUnder_64 : decode prog_7_method_20_code 64 = .ok (.getfield 63, 3) := by decide +kernel
theorem d_MO_goUnder_67 : decode prog_7_method_20_code 67 = .ok (.iload_n 1, 1) := by decide +kernel
theorem d_MO_goUnder_68 : decode prog_7_method_20_code 68 = .ok (.bipush (-5), 2) := by decide +kernel
theorem d_MO_goUnder_70 : decode prog_7_method_20_code 70 = .ok (.iastore, 1) := by decide +kernel
theorem d_MO_goUnder_71 : decode prog_7_method_20_code 71 = .ok (.goto 67, 3) := by decide +kernel
theorem d_MO_goUnder_74 : decode prog_7_method_20_code 74 = .ok (.aload_n 0, 1) := by decide +kernel
theorem d_MO_goUnder_75 : decode prog_7_method_20_code 75 = .ok (.getfield 119, 3) := by decide +kernel
theorem d_MO_goUnder_78 : decode prog_7_method_20_code 78 = .ok (.ifCond .ne 15, 3) := by decide +kernel
theorem d_MO_goUnder_81 : decode prog_7_method_20_code 81 = .ok (.aload_n 0, 1) := by decide +kernel
theorem d_MO_goUnder_82 : decode prog_7_method_20_code 82 = .ok (.aload_n 0, 1) := by decide +kernel
theorem d_MO_goUnder_83 : decode prog_7_method_20_code 83 = .ok (.invokevirtual 122, 3) := by decide +kernel
theorem d_MO_goUnder_86 : decode prog_7_method_20_code 86 = .ok (.iload_n 1, 1) := by decide +kernel
theorem d_MO_goUnder_87 : decode prog_7_method_20_code 87 = .ok (.invokevirtual 133, 3) := by decide +kernel
theorem d_MO_goUnder_90 : decode prog_7_method_20_code 90 = .ok (.goto 48, 3) := by decide +kernel
theorem d_MO_goUnder_93 : decode prog_7_method_20_code 93 = .ok (.aload_n 0, 1) := by decide +kernel
theorem d_MO_goUnder_94 : decode prog_7_method_20_code 94 = .ok (.getfield 69, 3) := by decide +kernel
theorem d_MO_goUnder_97 : decode prog_7_method_20_code 97 = .ok (.iconst 0, 1) := by decide +kernel
theorem d_MO_goUnder_98 : decode prog_7_method_20_code 98 = .ok (.iaload, 1) := by decide +kernel
theorem d_MO_goUnder_99 : decode prog_7_method_20_code 99 = .ok (.istore_n 3, 1) := by decide +kernel
theorem d_MO_goUnder_100 : decode prog_7_method_20_code 100 = .ok (.iconst 1, 1) := by decide +kernel
theorem d_MO_goUnder_101 : decode prog_7_method_20_code 101 = .ok (.istore 4, 2) := by decide +kernel
theorem d_MO_goUnder_103 : decode prog_7_method_20_code 103 = .ok (.iload 4, 2) := by decide +kernel
theorem d_MO_goUnder_105 : decode prog_7_method_20_code 105 = .ok (.aload_n 0, 1) := by decide +kernel
theorem d_MO_goUnder_106 : decode prog_7_method_20_code 106 = .ok (.getfield 119, 3) := by decide +kernel
theorem d_MO_goUnder_109 : decode prog_7_method_20_code 109 = .ok (.if_icmp .ge 23, 3) := by decide +kernel
theorem d_MO_goUnder_112 : decode prog_7_method_20_code 112 = .ok (.aload_n 0, 1) := by decide +kernel
theorem d_MO_goUnder_113 : decode prog_7_method_20_code 113 = .ok (.iload_n 3, 1) := by decide +kernel
theorem d_MO_goUnder_114 : decode prog_7_method_20_code 114 = .ok (.aload_n 0, 1) := by decide +kernel
theorem d_MO_goUnder_115 : decode prog_7_method_20_code 115 = .ok (.getfield 69, 3) := by decide +kernel
theorem d_MO_goUnder_118 : decode prog_7_method_20_code 118 = .ok (.iload 4, 2) := by decide +kernel
theorem d_MO_goUnder_120 : decode prog_7_method_20_code 120 = .ok (.iaload, 1) := by decide +kernel
theorem d_MO_goUnder_121 : decode prog_7_method_20_code 121 = .ok (.iload_n 1, 1) := by decide +kernel
theorem d_MO_goUnder_122 : decode prog_7_method_20_code 122 = .ok (.invokevirtual 136, 3) := by decide +kernel
theorem d_MO_goUnder_125 : decode prog_7_method_20_code 125 = .ok (.istore_n 3, 1) := by decide +kernel
theorem d_MO_goUnder_126 : decode prog_7_method_20_code 126 = .ok (.iinc 4 1, 3) := by decide +kernel
theorem d_MO_goUnder_129 : decode prog_7_method_20_code 129 = .ok (.goto (-26), 3) := by decide +kernel
theorem d_MO_goUnder_132 : decode prog_7_method_20_code 132 = .ok (.aload_n 0, 1) := by decide +kernel
theorem d_MO_goUnder_133 : decode prog_7_method_20_code 133 = .ok (.iload_n 3, 1) := by decide +kernel
theorem d_MO_goUnder_134 : decode prog_7_method_20_code 134 = .ok (.iload_n 1, 1) := by decide +kernel
theorem d_MO_goUnder_135 : decode prog_7_method_20_code 135 = .ok (.invokevirtual 133, 3) := by decide +kernel
theorem d_MO_goUnder_138 : decode prog_7_method_20_code 138 = .ok (.aload_n 0, 1) := by decide +kernel
theorem d_MO_goUnder_139 : decode prog_7_method_20_code 139 = .ok (.getfield 66, 3) := by decide +kernel
theorem d_MO_goUnder_142 : decode prog_7_method_20_code 142 = .ok (.iload_n 1, 1) := by decide +kernel
theorem d_MO_goUnder_143 : decode prog_7_method_20_code 143 = .ok (.iconst 1, 1) := by decide +kernel
theorem d_MO_goUnder_144 : decode prog_7_method_20_code 144 = .ok (.bastore, 1) := by decide +kernel
theorem d_MO_goUnder_145 : decode prog_7_method_20_code 145 = .ok (.return_, 1) := by decide +kernel
set_option maxHeartbeats 4000000 in
set_option maxRecDepth 100000 in
theorem w_MO_goUnder_L103 (y1 : Int32)  (C : Cx prog_7_method_20_code 5 "LakeReliefModel" (Option.none : Option Jvm.ClassFile.FieldType) p s m args meth c) (hG : Geo D adr cA s) (v : Int32 × Mem) (hE : ∀ (H : Heap) (locs : List Loc) (ls : Array Slot), va_P D cls (wld adr cA μ v.2) H → va_S (AA adr) s.heap H locs → lv_has ls 5 [(0, .ref (adr 63)), (1, .int y1), (3, .int v.1)] → W p l e rm_MO_goUnder s m args below meth c H locs 0 0 Q (F0 m 132 ls [])) : ∀ (n : Nat) (ν : Mem) (y3 : Int32) (y4 : Int32), f_MO_goUnder_L103 y1 n ν y3 y4 = some v → ∀ {H : Heap} {locs : List Loc} {ls : Array Slot}, va_P D cls (wld adr cA μ ν) H → va_S (AA adr) s.heap H locs → lv_has ls 5 [(0, .ref (adr 63)), (1, .int y1), (3, .int y3), (4, .int y4)] → W p l e rm_MO_goUnder s m args below meth c H locs 0 0 Q (F0 m 103 ls []) := by
  obtain ⟨hx, hb, hml, hown, hts, hr, hlocks⟩ := id C
  intro n
  induction n with
  | zero => intro ν y3 y4 hf; rw [f_MO_goUnder_L103.eq_1] at hf; cases hf
  | succ n ih =>
    intro ν y3 y4 hf H locs ls hP hS hl
    rw [f_MO_goUnder_L103.eq_2] at hf
    refine lv_iload hx hb d_MO_goUnder_103 (lv_at hl 3 rfl) ?_
    refine lv_aload_n hx hb d_MO_goUnder_105 rfl (lv_at hl 0 rfl) ?_
    refine g_MO_nearMany hx hb hts hown hG hP (hts _ in_587) d_MO_goUnder_106 ?_
    refine lv_icmp_ge (tgt := 132) hx hb d_MO_goUnder_109 (by decide) (fun hc => ?_) (fun hc => ?_)
    · replace hf := if_p hc hf
      obtain rfl := Option.some.inj hf
      exact hE _ _ _ hP hS (lv_sub hl [0, 1, 2] rfl)
    · replace hf := if_n hc hf
      refine lv_aload_n hx hb d_MO_goUnder_112 rfl (lv_at hl 0 rfl) ?_
      refine lv_iload_n hx hb d_MO_goUnder_113 rfl (lv_at hl 2 rfl) ?_
      refine lv_aload_n hx hb d_MO_goUnder_114 rfl (lv_at hl 0 rfl) ?_
      refine g_MO_near hx hb hts hown hG hP (hts _ in_586) d_MO_goUnder_115 ?_
      refine lv_iload hx hb d_MO_goUnder_118 (lv_at hl 3 rfl) ?_
      replace hf := G_some hf
      obtain ⟨hi4, hf⟩ := hf
      refine r_iald hx hb hG hP 83 4 (f := ν.1 83) (by decide) (wc_M (by decide) rfl) hi4 d_MO_goUnder_120 ?_
      refine lv_iload_n hx hb d_MO_goUnder_121 rfl (lv_at hl 1 rfl) ?_
      replace hf := B_some hf
      obtain ⟨v5, hv5, hf⟩ := hf
      refine ki (kv (As := [.int y3, .int (ν.1 83 y4.toNatClampNeg), .int y1]) (rest := []) ⟨hx, hb, hml, hown, hts⟩ (cw_MO_136 hts ⟨Nat.le_of_ble_eq_true rfl, Nat.le_of_ble_eq_true rfl⟩) (c_MO_twice l D adr cA μ ν y3 (ν.1 83 y4.toNatClampNeg) y1 hv5) hG hP (rc_o (q := 63) (ci := 5) hG hP (by decide) (wc_M (by decide) rfl) rfl) rfl hl.1 (Nat.le_of_ble_eq_true rfl) d_MO_goUnder_122) hS (fun H locs hP hS => ?_)
      refine lv_istore_n (lv' := [(3, .int v5.1), (0, .ref (adr 63)), (1, .int y1), (4, .int y4)]) hx hb d_MO_goUnder_125 rfl hl (by decide) rfl (fun ls hl => ?_)
      refine lv_iinc (v := (y4 + 1)) (lv' := [(4, .int (y4 + 1)), (3, .int v5.1), (0, .ref (adr 63)), (1, .int y1)]) hx hb d_MO_goUnder_126 hl (k := 3) rfl rfl (by decide) rfl (fun ls hl => ?_)
      refine lv_goto (tgt := 103) hx hb d_MO_goUnder_129 (by decide) ?_
      exact ih _ _ _ hf hP hS (lv_sub hl [2, 3, 1, 0] rfl)
set_option maxHeartbeats 4000000 in
set_option maxRecDepth 100000 in
theorem w_MO_goUnder_L12 (y1 : Int32)  (C : Cx prog_7_method_20_code 5 "LakeReliefModel" (Option.none : Option Jvm.ClassFile.FieldType) p s m args meth c) (hG : Geo D adr cA s) (v : Mem) (hE : ∀ (H : Heap) (locs : List Loc) (ls : Array Slot), va_P D cls (wld adr cA μ v) H → va_S (AA adr) s.heap H locs → lv_has ls 5 [(0, .ref (adr 63)), (1, .int y1)] → W p l e rm_MO_goUnder s m args below meth c H locs 0 0 Q (F0 m 63 ls [])) : ∀ (n : Nat) (ν : Mem) (y3 : Int32), f_MO_goUnder_L12 y1 n ν y3 = some v → ∀ {H : Heap} {locs : List Loc} {ls : Array Slot}, va_P D cls (wld adr cA μ ν) H → va_S (AA adr) s.heap H locs → lv_has ls 5 [(0, .ref (adr 63)), (1, .int y1), (3, .int y3)] → W p l e rm_MO_goUnder s m args below meth c H locs 0 0 Q (F0 m 12 ls []) := by
  obtain ⟨hx, hb, hml, hown, hts, hr, hlocks⟩ := id C
  intro n
  induction n with
  | zero => intro ν y3 hf; rw [f_MO_goUnder_L12.eq_1] at hf; cases hf
  | succ n ih =>
    intro ν y3 hf H locs ls hP hS hl
    rw [f_MO_goUnder_L12.eq_2] at hf
    refine lv_iload_n hx hb d_MO_goUnder_12 rfl (lv_at hl 2 rfl) ?_
    refine lv_aload_n hx hb d_MO_goUnder_13 rfl (lv_at hl 0 rfl) ?_
    refine g_MO_nearMany hx hb hts hown hG hP (hts _ in_587) d_MO_goUnder_14 ?_
    refine lv_icmp_ge (tgt := 63) hx hb d_MO_goUnder_17 (by decide) (fun hc => ?_) (fun hc => ?_)
    · replace hf := if_p hc hf
      obtain rfl := Option.some.inj hf
      exact hE _ _ _ hP hS (lv_sub hl [0, 1] rfl)
    · replace hf := if_n hc hf
      refine lv_aload_n hx hb d_MO_goUnder_20 rfl (lv_at hl 0 rfl) ?_
      refine g_MO_rim hx hb hts hown hG hP (hts _ in_575) d_MO_goUnder_21 ?_
      refine lv_aload_n hx hb d_MO_goUnder_24 rfl (lv_at hl 0 rfl) ?_
      refine g_MO_near hx hb hts hown hG hP (hts _ in_586) d_MO_goUnder_25 ?_
      refine lv_iload_n hx hb d_MO_goUnder_28 rfl (lv_at hl 2 rfl) ?_
      replace hf := G_some hf
      obtain ⟨hi10, hf⟩ := hf
      refine r_iald hx hb hG hP 83 4 (f := ν.1 83) (by decide) (wc_M (by decide) rfl) hi10 d_MO_goUnder_29 ?_
      refine lv_iload_n hx hb d_MO_goUnder_30 rfl (lv_at hl 1 rfl) ?_
      replace hf := G_some hf
      obtain ⟨hi11, hf⟩ := hf
      refine rM_iast hx hb hG hP hS 74 64 (by decide) (by decide) (fun _ _ => rfl) hi11 d_MO_goUnder_31 (fun H locs hP hS => ?_)
      refine lv_aload_n hx hb d_MO_goUnder_32 rfl (lv_at hl 0 rfl) ?_
      refine g_MO_above hx hb hts hown hG hP (hts _ in_576) d_MO_goUnder_33 ?_
      refine lv_aload_n hx hb d_MO_goUnder_36 rfl (lv_at hl 0 rfl) ?_
      refine g_MO_near hx hb hts hown hG hP (hts _ in_586) d_MO_goUnder_37 ?_
      refine lv_iload_n hx hb d_MO_goUnder_40 rfl (lv_at hl 2 rfl) ?_
      replace hf := G_some hf
      obtain ⟨hi12, hf⟩ := hf
      refine r_iald hx hb hG hP 83 4 (f := (sI ν 74 (ν.1 83 y3.toNatClampNeg).toNatClampNeg y1).1 83) (by decide) (wc_M (by decide) rfl) hi12 d_MO_goUnder_41 ?_
      refine lv_bipush (v := (-5)) hx hb d_MO_goUnder_42 (by decide) ?_
      replace hf := G_some hf
      obtain ⟨hi13, hf⟩ := hf
      refine rM_iast hx hb hG hP hS 75 64 (by decide) (by decide) (fun _ _ => rfl) hi13 d_MO_goUnder_44 (fun H locs hP hS => ?_)
      refine lv_aload_n hx hb d_MO_goUnder_45 rfl (lv_at hl 0 rfl) ?_
      refine lv_aload_n hx hb d_MO_goUnder_46 rfl (lv_at hl 0 rfl) ?_
      refine g_MO_near hx hb hts hown hG hP (hts _ in_586) d_MO_goUnder_47 ?_
      refine lv_iload_n hx hb d_MO_goUnder_50 rfl (lv_at hl 2 rfl) ?_
      replace hf := G_some hf
      obtain ⟨hi14, hf⟩ := hf
      refine r_iald hx hb hG hP 83 4 (f := (sI (sI ν 74 (ν.1 83 y3.toNatClampNeg).toNatClampNeg y1) 75 ((sI ν 74 (ν.1 83 y3.toNatClampNeg).toNatClampNeg y1).1 83 y3.toNatClampNeg).toNatClampNeg (-5)).1 83) (by decide) (wc_M (by decide) rfl) hi14 d_MO_goUnder_51 ?_
      refine lv_bipush (v := (-5)) hx hb d_MO_goUnder_52 (by decide) ?_
      replace hf := B_some hf
      obtain ⟨v15, hv15, hf⟩ := hf
      refine kw (kv (As := [.int ((sI (sI ν 74 (ν.1 83 y3.toNatClampNeg).toNatClampNeg y1) 75 ((sI ν 74 (ν.1 83 y3.toNatClampNeg).toNatClampNeg y1).1 83 y3.toNatClampNeg).toNatClampNeg (-5)).1 83 y3.toNatClampNeg), .int (-5)]) (rest := []) ⟨hx, hb, hml, hown, hts⟩ (cw_MO_126 hts ⟨Nat.le_of_ble_eq_true rfl, Nat.le_of_ble_eq_true rfl⟩) (c_MO_becomes l D adr cA μ (sI (sI ν 74 (ν.1 83 y3.toNatClampNeg).toNatClampNeg y1) 75 ((sI ν 74 (ν.1 83 y3.toNatClampNeg).toNatClampNeg y1).1 83 y3.toNatClampNeg).toNatClampNeg (-5)) ((sI (sI ν 74 (ν.1 83 y3.toNatClampNeg).toNatClampNeg y1) 75 ((sI ν 74 (ν.1 83 y3.toNatClampNeg).toNatClampNeg y1).1 83 y3.toNatClampNeg).toNatClampNeg (-5)).1 83 y3.toNatClampNeg) (-5) hv15) hG hP (rc_o (q := 63) (ci := 5) hG hP (by decide) (wc_M (by decide) rfl) rfl) rfl hl.1 (Nat.le_of_ble_eq_true rfl) d_MO_goUnder_54) hS (fun H locs hP hS => ?_)
      refine lv_iinc (v := (y3 + 1)) (lv' := [(3, .int (y3 + 1)), (0, .ref (adr 63)), (1, .int y1)]) hx hb d_MO_goUnder_57 hl (k := 2) rfl rfl (by decide) rfl (fun ls hl => ?_)
      refine lv_goto (tgt := 12) hx hb d_MO_goUnder_60 (by decide) ?_
      exact ih _ _ hf hP hS (lv_sub hl [1, 2, 0] rfl)
set_option maxHeartbeats 4000000 in
set_option maxRecDepth 100000 in
theorem w_MO_goUnder (x1 : Int32)  (C : Cx prog_7_method_20_code 5 "LakeReliefModel" (Option.none : Option Jvm.ClassFile.FieldType) p s m args meth c) (hG : Geo D adr cA s) {res : Mem} (hf : f_MO_goUnder ν x1 = some res) (hq : ∀ (pc : Nat) (ls : Array Slot) (H : Heap) (locs : List Loc), decode prog_7_method_20_code pc = .ok (.return_, 1) → va_P D cls (wld adr cA μ res) H → va_S (AA adr) s.heap H locs → W p l e rm_MO_goUnder s m args below meth c H locs 0 0 Q (F0 m pc ls [])) {H : Heap} {locs : List Loc} {ls : Array Slot} (hP : va_P D cls (wld adr cA μ ν) H) (hS : va_S (AA adr) s.heap H locs) (hl : lv_has ls 5 [(0, .ref (adr 63)), (1, .int x1)]) : W p l e rm_MO_goUnder s m args below meth c H locs 0 0 Q (F0 m 0 ls []) := by
  obtain ⟨hx, hb, hml, hown, hts, hr, hlocks⟩ := id C
  unfold f_MO_goUnder at hf
  refine lv_aload_n hx hb d_MO_goUnder_0 rfl (lv_at hl 0 rfl) ?_
  refine lv_iload_n hx hb d_MO_goUnder_1 rfl (lv_at hl 1 rfl) ?_
  replace hf := B_some hf
  obtain ⟨v1, hv1, hf⟩ := hf
  refine ki (kv (As := [.int x1]) (rest := []) ⟨hx, hb, hml, hown, hts⟩ (cw_MO_130 hts ⟨Nat.le_of_ble_eq_true rfl, Nat.le_of_ble_eq_true rfl⟩) (c_MO_lookBeside l D adr cA μ ν x1 hv1) hG hP (rc_o (q := 63) (ci := 5) hG hP (by decide) (wc_M (by decide) rfl) rfl) rfl hl.1 (Nat.le_of_ble_eq_true rfl) d_MO_goUnder_2) hS (fun H locs hP hS => ?_)
  refine lv_istore_n (lv' := [(2, .int v1.1), (0, .ref (adr 63)), (1, .int x1)]) hx hb d_MO_goUnder_5 rfl hl (by decide) rfl (fun ls hl => ?_)
  refine lv_iload_n hx hb d_MO_goUnder_6 rfl (lv_at hl 0 rfl) ?_
  replace hf := B_some hf
  obtain ⟨v2, hv2, hf⟩ := hf
  have hJ : ∀ (H : Heap) (locs : List Loc) (ls : Array Slot), va_P D cls (wld adr cA μ v2) H → va_S (AA adr) s.heap H locs → lv_has ls 5 [(0, .ref (adr 63)), (1, .int x1)] → W p l e rm_MO_goUnder s m args below meth c H locs 0 0 Q (F0 m 138 ls []) := by
    clear hv2
    intro H locs ls hP hS hl
    refine lv_aload_n hx hb d_MO_goUnder_138 rfl (lv_at hl 0 rfl) ?_
    refine g_MO_isUnder hx hb hts hown hG hP (hts _ in_585) d_MO_goUnder_139 ?_
    refine lv_iload_n hx hb d_MO_goUnder_142 rfl (lv_at hl 1 rfl) ?_
    refine lv_iconst (v := 1) hx hb d_MO_goUnder_143 (by decide) ?_
    replace hf := G_some hf
    obtain ⟨hi18, hf⟩ := hf
    refine rM_zast hx hb hG hP hS 82 64 (by decide) (by decide) (fun _ _ => rfl) hi18 d_MO_goUnder_144 (fun H locs hP hS => ?_)
    obtain rfl := Option.some.inj hf
    exact hq _ _ _ _ d_MO_goUnder_145 hP hS
  clear hf
  have hf := hv2
  clear hv2
  refine lv_if_eq (tgt := 74) hx hb d_MO_goUnder_7 (by decide) (fun hc => ?_) (fun hc => ?_)
  · replace hf := if_p hc hf
    refine lv_aload_n hx hb d_MO_goUnder_74 rfl (lv_at hl 1 rfl) ?_
    refine g_MO_nearMany hx hb hts hown hG hP (hts _ in_587) d_MO_goUnder_75 ?_
    refine lv_if_ne (tgt := 93) hx hb d_MO_goUnder_78 (by decide) (fun hc => ?_) (fun hc => ?_)
    · replace hf := if_n hc hf
      refine lv_aload_n hx hb d_MO_goUnder_93 rfl (lv_at hl 1 rfl) ?_
      refine g_MO_near hx hb hts hown hG hP (hts _ in_586) d_MO_goUnder_94 ?_
      refine lv_iconst (v := 0) hx hb d_MO_goUnder_97 (by decide) ?_
      replace hf := G_some hf
      obtain ⟨hi3, hf⟩ := hf
      refine r_iald hx hb hG hP 83 4 (f := v1.2.1 83) (by decide) (wc_M (by decide) rfl) hi3 d_MO_goUnder_98 ?_
      refine lv_istore_n (lv' := [(3, .int (v1.2.1 83 (0 : Int32).toNatClampNeg)), (2, .int v1.1), (0, .ref (adr 63)), (1, .int x1)]) hx hb d_MO_goUnder_99 rfl hl (by decide) rfl (fun ls hl => ?_)
      refine lv_iconst (v := 1) hx hb d_MO_goUnder_100 (by decide) ?_
      refine lv_istore (lv' := [(4, .int 1), (3, .int (v1.2.1 83 (0 : Int32).toNatClampNeg)), (2, .int v1.1), (0, .ref (adr 63)), (1, .int x1)]) hx hb d_MO_goUnder_101 hl (by decide) rfl (fun ls hl => ?_)
      replace hf := B_some hf
      obtain ⟨v6, hv6, hf⟩ := hf
      refine w_MO_goUnder_L103 x1  C hG v6 ?_ FU _ _ _ hv6 hP hS (lv_sub hl [3, 4, 1, 0] rfl)
      clear hv6 hP hS hl
      intro H locs ls hP hS hl
      refine lv_aload_n hx hb d_MO_goUnder_132 rfl (lv_at hl 0 rfl) ?_
      refine lv_iload_n hx hb d_MO_goUnder_133 rfl (lv_at hl 2 rfl) ?_
      refine lv_iload_n hx hb d_MO_goUnder_134 rfl (lv_at hl 1 rfl) ?_
      replace hf := B_some hf
      obtain ⟨v7, hv7, hf⟩ := hf
      refine kw (kv (As := [.int v6.1, .int x1]) (rest := []) ⟨hx, hb, hml, hown, hts⟩ (cw_MO_133 hts ⟨Nat.le_of_ble_eq_true rfl, Nat.le_of_ble_eq_true rfl⟩) (c_MO_joins l D adr cA μ v6.2 v6.1 x1 hv7) hG hP (rc_o (q := 63) (ci := 5) hG hP (by decide) (wc_M (by decide) rfl) rfl) rfl hl.1 (Nat.le_of_ble_eq_true rfl) d_MO_goUnder_135) hS (fun H locs hP hS => ?_)
      obtain rfl := Option.some.inj hf
      exact hJ _ _ _ hP hS (lv_sub hl [0, 1] rfl)
    · replace hf := if_p hc hf
      refine lv_aload_n hx hb d_MO_goUnder_81 rfl (lv_at hl 1 rfl) ?_
      refine lv_aload_n hx hb d_MO_goUnder_82 rfl (lv_at hl 1 rfl) ?_
      replace hf := B_some hf
      obtain ⟨v8, hv8, hf⟩ := hf
      refine ki (kv (As := []) (rest := [.ref (adr 63)]) ⟨hx, hb, hml, hown, hts⟩ (cw_MO_122 hts ⟨Nat.le_of_ble_eq_true rfl, Nat.le_of_ble_eq_true rfl⟩) (c_MO_newLake l D adr cA μ v1.2 hv8) hG hP (rc_o (q := 63) (ci := 5) hG hP (by decide) (wc_M (by decide) rfl) rfl) rfl hl.1 (Nat.le_of_ble_eq_true rfl) d_MO_goUnder_83) hS (fun H locs hP hS => ?_)
      refine lv_iload_n hx hb d_MO_goUnder_86 rfl (lv_at hl 2 rfl) ?_
      replace hf := B_some hf
      obtain ⟨v9, hv9, hf⟩ := hf
      refine kw (kv (As := [.int v8.1, .int x1]) (rest := []) ⟨hx, hb, hml, hown, hts⟩ (cw_MO_133 hts ⟨Nat.le_of_ble_eq_true rfl, Nat.le_of_ble_eq_true rfl⟩) (c_MO_joins l D adr cA μ v8.2 v8.1 x1 hv9) hG hP (rc_o (q := 63) (ci := 5) hG hP (by decide) (wc_M (by decide) rfl) rfl) rfl hl.1 (Nat.le_of_ble_eq_true rfl) d_MO_goUnder_87) hS (fun H locs hP hS => ?_)
      refine lv_goto (tgt := 138) hx hb d_MO_goUnder_90 (by decide) ?_
      obtain rfl := Option.some.inj hf
      exact hJ _ _ _ hP hS (lv_sub hl [1, 2] rfl)
  · replace hf := if_n hc hf
    refine lv_iconst (v := 0) hx hb d_MO_goUnder_10 (by decide) ?_
    refine lv_istore_n (lv' := [(3, .int 0), (2, .int v1.1), (0, .ref (adr 63)), (1, .int x1)]) hx hb d_MO_goUnder_11 rfl hl (by decide) rfl (fun ls hl => ?_)
    replace hf := B_some hf
    obtain ⟨v16, hv16, hf⟩ := hf
    refine w_MO_goUnder_L12 x1  C hG v16 ?_ FU _ _ hv16 hP hS (lv_sub hl [2, 3, 0] rfl)
    clear hv16 hP hS hl
    intro H locs ls hP hS hl
    refine lv_aload_n hx hb d_MO_goUnder_63 rfl (lv_at hl 0 rfl) ?_
    refine g_MO_owner hx hb hts hown hG hP (hts _ in_584) d_MO_goUnder_64 ?_
    refine lv_iload_n hx hb d_MO_goUnder_67 rfl (lv_at hl 1 rfl) ?_
    refine lv_bipush (v := (-5)) hx hb d_MO_goUnder_68 (by decide) ?_
    replace hf := G_some hf
    obtain ⟨hi17, hf⟩ := hf
    refine rM_iast hx hb hG hP hS 81 64 (by decide) (by decide) (fun _ _ => rfl) hi17 d_MO_goUnder_70 (fun H locs hP hS => ?_)
    refine lv_goto (tgt := 138) hx hb d_MO_goUnder_71 (by decide) ?_
    obtain rfl := Option.some.inj hf
    exact hJ _ _ _ hP hS (lv_sub hl [0, 1] rfl)
theorem c_MO_goUnder (l : Launch) (D : va_G) (adr : Nat → Nat) (cA : Nat → ClassId) (μ ν : Mem) (x1 : Int32)  {res : Mem} (hf : f_MO_goUnder ν x1 = some res) : Met l y_MO_goUnder (Cond.code y_MO_goUnder prog_7_method_20_code 5 (Option.none : Option Jvm.ClassFile.FieldType) :: lw_ok) rm_MO_goUnder (va_Pc [.ref (adr 63), .int x1] (Wd D adr cA μ ν)) (QV D adr cA μ res) 0 0 (AA adr) :=
  met_of (own := "LakeReliefModel") rfl rfl (Nat.le_of_ble_eq_true rfl) (fun p e s m below meth c C hG hP hS ls hl => w_MO_goUnder x1  C hG hf (fun pc ls H locs hd hP hS => ret_v C.1 C.2.1 C.2.2.2.2.2.1 C.2.2.2.2.2.2 hG hd hP hS) hP hS hl)
end X_MO_goUnder
