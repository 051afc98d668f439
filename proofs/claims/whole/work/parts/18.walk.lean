section X_MO_told
variable {p : Program} {l : Launch} {e : Env} {s : State} {m : MethodId} {args : Array Value} {below : List Frame} {meth : Method} {c : Code} {Q : State → Prop}
variable {D : va_G} {adr : Nat → Nat} {cA : Nat → ClassId} {μ ν : Mem}
theorem d_MO_told_0 : decode prog_7_method_8_code 0 = .ok (.aload_n 0, 1) := by decide +kernel
theorem d_MO_told_1 : decode prog_7_method_8_code 1 = .ok (.iload_n 1, 1) := by decide +kernel
theorem d_MO_told_2 : decode prog_7_method_8_code 2 = .ok (.iload_n 2, 1) := by decide +kernel
theorem d_MO_told_3 : decode prog_7_method_8_code 3 = .ok (.invokevirtual 92, 3) := by decide +kernel
theorem d_MO_told_6 : decode prog_7_method_8_code 6 = .ok (.istore_n 3, 1) := by decide +kernel
theorem d_MO_told_7 : decode prog_7_method_8_code 7 = .ok (.iload_n 3, 1) := by decide +kernel
theorem d_MO_told_8 : decode prog_7_method_8_code 8 = .ok (.ifCond .ne 18, 3) := by decide +kernel
theorem d_MO_told_11 : decode prog_7_method_8_code 11 = .ok (.aload_n 0, 1) := by decide +kernel
theorem d_MO_told_12 : decode prog_7_method_8_code 12 = .ok (.getfield 16, 3) := by decide +kernel
theorem d_MO_told_15 : decode prog_7_method_8_code 15 = .ok (.bipush 12, 2) := by decide +kernel
theorem d_MO_told_17 : decode prog_7_method_8_code 17 = .ok (.iload_n 1, 1) := by decide +kernel
theorem d_MO_told_18 : decode prog_7_method_8_code 18 = .ok (.imul, 1) := by decide +kernel
theorem d_MO_told_19 : decode prog_7_method_8_code 19 = .ok (.iload_n 2, 1) := by decide +kernel
theorem d_MO_told_20 : decode prog_7_method_8_code 20 = .ok (.iadd, 1) := by decide +kernel
theorem d_MO_told_21 : decode prog_7_method_8_code 21 = .ok (.iaload, 1) := by decide +kernel
theorem d_MO_told_22 : decode prog_7_method_8_code 22 = .ok (.i2l, 1) := by decide +kernel
theorem d_MO_told_23 : decode prog_7_method_8_code 23 = .ok (.goto 9, 3) := by decide +kernel
theorem d_MO_told_26 : decode prog_7_method_8_code 26 = .ok (.ldc2_w 96, 3) := by decide +kernel
theorem d_MO_told_29 : decode prog_7_method_8_code 29 = .ok (.iload_n 3, 1) := by decide +kernel
theorem d_MO_told_30 : decode prog_7_method_8_code 30 = .ok (.i2l, 1) := by decide +kernel
theorem d_MO_told_31 : decode prog_7_method_8_code 31 = .ok (.lsub, 1) := by decide +kernel
theorem d_MO_told_32 : decode prog_7_method_8_code 32 = .ok (.lreturn, 1) := by decide +kernel
set_option maxHeartbeats 4000000 in
set_option maxRecDepth 100000 in
theorem w_MO_told (x1 : Int32) (x2 : Int32)  (C : Cx prog_7_method_8_code 4 "LakeReliefModel" (Option.some Jvm.ClassFile.FieldType.long) p s m args meth c) (hG : Geo D adr cA s) {res : Int64} (hf : f_MO_told ν x1 x2 = some res) (hq : ∀ (pc : Nat) (ls : Array Slot) (H : Heap) (locs : List Loc), decode prog_7_method_8_code pc = .ok (.lreturn, 1) → va_P D cls (wld adr cA μ ν) H → va_S (AA adr) s.heap H locs → W p l e rm_MO_told s m args below meth c H locs 0 0 Q (F0 m pc ls [.long res])) {H : Heap} {locs : List Loc} {ls : Array Slot} (hP : va_P D cls (wld adr cA μ ν) H) (hS : va_S (AA adr) s.heap H locs) (hl : lv_has ls 4 [(0, .ref (adr 63)), (1, .int x1), (2, .int x2)]) : W p l e rm_MO_told s m args below meth c H locs 0 0 Q (F0 m 0 ls []) := by
  obtain ⟨hx, hb, hml, hown, hts, hr, hlocks⟩ := id C
  unfold f_MO_told at hf
  refine lv_aload_n hx hb d_MO_told_0 rfl (lv_at hl 0 rfl) ?_
  refine lv_iload_n hx hb d_MO_told_1 rfl (lv_at hl 1 rfl) ?_
  refine lv_iload_n hx hb d_MO_told_2 rfl (lv_at hl 2 rfl) ?_
  replace hf := B_some hf
  obtain ⟨v1, hv1, hf⟩ := hf
  refine ki (kv (As := [.int x1, .int x2]) (rest := []) ⟨hx, hb, hml, hown, hts⟩ (cw_MO_92 hts ⟨Nat.le_of_ble_eq_true rfl, Nat.le_of_ble_eq_true rfl⟩) (c_MO_against l D adr cA μ ν x1 x2 hv1) hG hP (rc_o (q := 63) (ci := 5) hG hP (by decide) (wc_M (by decide) rfl) rfl) rfl hl.1 (Nat.le_of_ble_eq_true rfl) d_MO_told_3) hS (fun H locs hP hS => ?_)
  refine lv_istore_n (lv' := [(3, .int v1), (0, .ref (adr 63)), (1, .int x1), (2, .int x2)]) hx hb d_MO_told_6 rfl hl (by decide) rfl (fun ls hl => ?_)
  refine lv_iload_n hx hb d_MO_told_7 rfl (lv_at hl 0 rfl) ?_
  refine lv_if_ne (tgt := 26) hx hb d_MO_told_8 (by decide) (fun hc => ?_) (fun hc => ?_)
  · replace hf := if_n hc hf
    refine lv_ldc2 (v := 10000000000) hx hb hown (hts _ in_680) d_MO_told_26 ?_
    refine lv_iload_n hx hb d_MO_told_29 rfl (lv_at hl 0 rfl) ?_
    refine lv_i2l hx hb d_MO_told_30 rfl ?_
    refine lv_lsub hx hb d_MO_told_31 ?_
    obtain rfl := Option.some.inj hf
    exact hq _ _ _ _ d_MO_told_32 hP hS
  · replace hf := if_p hc hf
    refine lv_aload_n hx hb d_MO_told_11 rfl (lv_at hl 1 rfl) ?_
    refine g_MO_strips hx hb hts hown hG hP (hts _ in_563) d_MO_told_12 ?_
    refine lv_bipush (v := 12) hx hb d_MO_told_15 (by decide) ?_
    refine lv_iload_n hx hb d_MO_told_17 rfl (lv_at hl 2 rfl) ?_
    refine lv_imul hx hb d_MO_told_18 ?_
    refine lv_iload_n hx hb d_MO_told_19 rfl (lv_at hl 3 rfl) ?_
    refine lv_iadd hx hb d_MO_told_20 ?_
    replace hf := G_some hf
    obtain ⟨hi2, hf⟩ := hf
    refine r_iald hx hb hG hP 66 96 (f := ν.1 66) (by decide) (wc_M (by decide) rfl) hi2 d_MO_told_21 ?_
    refine lv_i2l hx hb d_MO_told_22 rfl ?_
    refine lv_goto (tgt := 32) hx hb d_MO_told_23 (by decide) ?_
    obtain rfl := Option.some.inj hf
    exact hq _ _ _ _ d_MO_told_32 hP hS
theorem c_MO_told (l : Launch) (D : va_G) (adr : Nat → Nat) (cA : Nat → ClassId) (μ ν : Mem) (x1 : Int32) (x2 : Int32)  {res : Int64} (hf : f_MO_told ν x1 x2 = some res) : Met l y_MO_told (Cond.code y_MO_told prog_7_method_8_code 4 (Option.some Jvm.ClassFile.FieldType.long) :: lw_ok) rm_MO_told (va_Pc [.ref (adr 63), .int x1, .int x2] (Wd D adr cA μ ν)) (QL D adr cA res μ ν) 0 0 (AA adr) :=
  met_of (own := "LakeReliefModel") rfl rfl (Nat.le_of_ble_eq_true rfl) (fun p e s m below meth c C hG hP hS ls hl => w_MO_told x1 x2  C hG hf (fun pc ls H locs hd hP hS => ret_l C.1 C.2.1 C.2.2.2.2.2.1 C.2.2.2.2.2.2 hG hd hP hS) hP hS hl)
end X_MO_told
section X_MO_beside
variable {p : Program} {l : Launch} {e : Env} {s : State} {m : MethodId} {args : Array Value} {below : List Frame} {meth : Method} {c : Code} {Q : State → Prop}
variable {D : va_G} {adr : Nat → Nat} {cA : Nat → ClassId} {μ ν : Mem}
theorem d_MO_beside_0 : decode prog_7_method_9_code 0 = .ok (.iload_n 1, 1) := by decide +kernel
theorem d_MO_beside_1 : decode prog_7_method_9_code 1 = .ok (.aload_n 0, 1) := by decide +kernel
theorem d_MO_beside_2 : decode prog_7_method_9_code 2 = .ok (.getfield 98, 3) := by decide +kernel
theorem d_MO_beside_5 : decode prog_7_method_9_code 5 = .ok (.idiv, 1) := by decide +kernel
theorem d_MO_beside_6 : decode prog_7_method_9_code 6 = .ok (.istore_n 3, 1) := by decide +kernel
theorem d_MO_beside_7 : decode prog_7_method_9_code 7 = .ok (.iload_n 1, 1) := by decide +kernel
theorem d_MO_beside_8 : decode prog_7_method_9_code 8 = .ok (.aload_n 0, 1) := by decide +kernel
theorem d_MO_beside_9 : decode prog_7_method_9_code 9 = .ok (.getfield 98, 3) := by decide +kernel
theorem d_MO_beside_12 : decode prog_7_method_9_code 12 = .ok (.irem, 1) := by decide +kernel
theorem d_MO_beside_13 : decode prog_7_method_9_code 13 = .ok (.istore 4, 2) := by decide +kernel
theorem d_MO_beside_15 : decode prog_7_method_9_code 15 = .ok (.iload_n 2, 1) := by decide +kernel
theorem d_MO_beside_16 : decode prog_7_method_9_code 16 = .ok (.ifCond .ne 19, 3) := by decide +kernel
theorem d_MO_beside_19 : decode prog_7_method_9_code 19 = .ok (.iload_n 3, 1) := by decide +kernel
theorem d_MO_beside_20 : decode prog_7_method_9_code 20 = .ok (.ifCond .le 12, 3) := by decide +kernel
theorem d_MO_beside_23 : decode prog_7_method_9_code 23 = .ok (.iload_n 1, 1) := by decide +kernel
theorem d_MO_beside_24 : decode prog_7_method_9_code 24 = .ok (.aload_n 0, 1) := by decide +kernel
theorem d_MO_beside_25 : decode prog_7_method_9_code 25 = .ok (.getfield 98, 3) := by decide +kernel
theorem d_MO_beside_28 : decode prog_7_method_9_code 28 = .ok (.isub, 1) := by decide +kernel
theorem d_MO_beside_29 : decode prog_7_method_9_code 29 = .ok (.goto 5, 3) := by decide +kernel
theorem d_MO_beside_32 : decode prog_7_method_9_code 32 = .ok (.bipush 64, 2) := by decide +kernel
theorem d_MO_beside_34 : decode prog_7_method_9_code 34 = .ok (.ireturn, 1) := by decide +kernel
theorem d_MO_beside_35 : decode prog_7_method_9_code 35 = .ok (.iload_n 2, 1) := by decide +kernel
theorem d_MO_beside_36 : decode prog_7_method_9_code 36 = .ok (.iconst 1, 1) := by decide +kernel
theorem d_MO_beside_37 : decode prog_7_method_9_code 37 = .ok (.if_icmp .ne 17, 3) := by decide +kernel
theorem d_MO_beside_40 : decode prog_7_method_9_code 40 = .ok (.iload 4, 2) := by decide +kernel
theorem d_MO_beside_42 : decode prog_7_method_9_code 42 = .ok (.ifCond .le 9, 3) := by decide +kernel
theorem d_MO_beside_45 : decode prog_7_method_9_code 45 = .ok (.iload_n 1, 1) := by decide +kernel
theorem d_MO_beside_46 : decode prog_7_method_9_code 46 = .ok (.iconst 1, 1) := by decide +kernel
theorem d_MO_beside_47 : decode prog_7_method_9_code 47 = .ok (.isub, 1) := by decide +kernel
theorem d_MO_beside_48 : decode prog_7_method_9_code 48 = .ok (.goto 5, 3) := by decide +kernel
theorem d_MO_beside_51 : decode prog_7_method_9_code 51 = .ok (.bipush 64, 2) := by decide +kernel
theorem d_MO_beside_53 : decode prog_7_method_9_code 53 = .ok (.ireturn, 1) := by decide +kernel
theorem d_MO_beside_54 : decode prog_7_method_9_code 54 = .ok (.iload_n 2, 1) := by decide +kernel
theorem d_MO_beside_55 : decode prog_7_method_9_code 55 = .ok (.iconst 2, 1) := by decide +kernel
theorem d_MO_beside_56 : decode prog_7_method_9_code 56 = .ok (.if_icmp .ne 23, 3) := by decide +kernel
theorem d_MO_beside_59 : decode prog_7_method_9_code 59 = .ok (.iload 4, 2) := by decide +kernel
theorem d_MO_beside_61 : decode prog_7_method_9_code 61 = .ok (.aload_n 0, 1) := by decide +kernel
theorem d_MO_beside_62 : decode prog_7_method_9_code 62 = .ok (.getfield 98, 3) := by decide +kernel
theorem d_MO_beside_65 : decode prog_7_method_9_code 65 = .ok (.iconst 1, 1) := by decide +kernel
theorem d_MO_beside_66 : decode prog_7_method_9_code 66 = .ok (.isub, 1) := by decide +kernel
theorem d_MO_beside_67 : decode prog_7_method_9_code 67 = .ok (.if_icmp .ge 9, 3) := by decide +kernel
theorem d_MO_beside_70 : decode prog_7_method_9_code 70 = .ok (.iload_n 1, 1) := by decide +kernel
theorem d_MO_beside_71 : decode prog_7_method_9_code 71 = .ok (.iconst 1, 1) := by decide +kernel
theorem d_MO_beside_72 : decode prog_7_method_9_code 72 = .ok (.iadd, 1) := by decide +kernel
theorem d_MO_beside_73 : decode prog_7_method_9_code 73 = .ok (.goto 5, 3) := by decide +kernel
theorem d_MO_beside_76 : decode prog_7_method_9_code 76 = .ok (.bipush 64, 2) := by decide +kernel
theorem d_MO_beside_78 : decode prog_7_method_9_code 78 = .ok (.ireturn, 1) := by decide +kernel
theorem d_MO_beside_79 : decode prog_7_method_9_code 79 = .ok (.iload_n 1, 1) := by decide +kernel
theorem d_MO_beside_80 : decode prog_7_method_9_code 80 = .ok (.aload_n 0, 1) := by decide +kernel
theorem d_MO_beside_81 : decode prog_7_method_9_code 81 = .ok (.getfield 98, 3) := by decide +kernel
theorem d_MO_beside_84 : decode prog_7_method_9_code 84 = .ok (.iadd, 1) := by decide +kernel
theorem d_MO_beside_85 : decode prog_7_method_9_code 85 = .ok (.aload_n 0, 1) := by decide +kernel
theorem d_MO_beside_86 : decode prog_7_method_9_code 86 = .ok (.getfield 102, 3) := by decide +kernel
theorem d_MO_beside_89 : decode prog_7_method_9_code 89 = .ok (.if_icmp .ge 12, 3) := by decide +kernel
theorem d_MO_beside_92 : decode prog_7_method_9_code 92 = .ok (.iload_n 1, 1) := by decide +kernel
theorem d_MO_beside_93 : decode prog_7_method_9_code 93 = .ok (.aload_n 0, 1) := by decide +kernel
theorem d_MO_beside_94 : decode prog_7_method_9_code 94 = .ok (.getfield 98, 3) := by decide +kernel
theorem d_MO_beside_97 : decode prog_7_method_9_code 97 = .ok (.iadd, 1) := by decide +kernel
theorem d_MO_beside_98 : decode prog_7_method_9_code 98 = .ok (.goto 5, 3) := by decide +kernel
theorem d_MO_beside_101 : decode prog_7_method_9_code 101 = .ok (.bipush 64, 2) := by decide +kernel
theorem d_MO_beside_103 : decode prog_7_method_9_code 103 = .ok (.ireturn, 1) := by decide +kernel
set_option maxHeartbeats 4000000 in
set_option maxRecDepth 100000 in
theorem w_MO_beside (x1 : Int32) (x2 : Int32)  (C : Cx prog_7_method_9_code 5 "LakeReliefModel" (Option.some Jvm.ClassFile.FieldType.int) p s m args meth c) (hG : Geo D adr cA s) {res : Int32} (hf : f_MO_beside ν x1 x2 = some res) (hq : ∀ (pc : Nat) (ls : Array Slot) (H : Heap) (locs : List Loc), decode prog_7_method_9_code pc = .ok (.ireturn, 1) → va_P D cls (wld adr cA μ ν) H → va_S (AA adr) s.heap H locs → W p l e rm_MO_beside s m args below meth c H locs 0 0 Q (F0 m pc ls [.int res])) {H : Heap} {locs : List Loc} {ls : Array Slot} (hP : va_P D cls (wld adr cA μ ν) H) (hS : va_S (AA adr) s.heap H locs) (hl : lv_has ls 5 [(0, .ref (adr 63)), (1, .int x1), (2, .int x2)]) : W p l e rm_MO_beside s m args below meth c H locs 0 0 Q (F0 m 0 ls []) := by
  obtain ⟨hx, hb, hml, hown, hts, hr, hlocks⟩ := id C
  unfold f_MO_beside at hf
  refine lv_iload_n hx hb d_MO_beside_0 rfl (lv_at hl 1 rfl) ?_
  refine lv_aload_n hx hb d_MO_beside_1 rfl (lv_at hl 0 rfl) ?_
  refine g_MO_wide hx hb hts hown hG hP (hts _ in_565) d_MO_beside_2 ?_
  replace hf := Zg_some hf
  obtain ⟨hz1, hf⟩ := hf
  refine lv_idiv hx hb d_MO_beside_5 hz1 ?_
  refine lv_istore_n (lv' := [(3, .int (x1 / (ν.1 63 4))), (0, .ref (adr 63)), (1, .int x1), (2, .int x2)]) hx hb d_MO_beside_6 rfl hl (by decide) rfl (fun ls hl => ?_)
  refine lv_iload_n hx hb d_MO_beside_7 rfl (lv_at hl 2 rfl) ?_
  refine lv_aload_n hx hb d_MO_beside_8 rfl (lv_at hl 1 rfl) ?_
  refine g_MO_wide hx hb hts hown hG hP (hts _ in_565) d_MO_beside_9 ?_
  replace hf := Zg_some hf
  obtain ⟨hz2, hf⟩ := hf
  refine lv_irem hx hb d_MO_beside_12 hz2 ?_
  refine lv_istore (lv' := [(4, .int (x1 - x1 / (ν.1 63 4) * (ν.1 63 4))), (3, .int (x1 / (ν.1 63 4))), (0, .ref (adr 63)), (1, .int x1), (2, .int x2)]) hx hb d_MO_beside_13 hl (by decide) rfl (fun ls hl => ?_)
  refine lv_iload_n hx hb d_MO_beside_15 rfl (lv_at hl 4 rfl) ?_
  refine lv_if_ne (tgt := 35) hx hb d_MO_beside_16 (by decide) (fun hc => ?_) (fun hc => ?_)
  · replace hf := if_n hc hf
    refine lv_iload_n hx hb d_MO_beside_35 rfl (lv_at hl 4 rfl) ?_
    refine lv_iconst (v := 1) hx hb d_MO_beside_36 (by decide) ?_
    refine lv_icmp_ne (tgt := 54) hx hb d_MO_beside_37 (by decide) (fun hc => ?_) (fun hc => ?_)
    · replace hf := if_n hc hf
      refine lv_iload_n hx hb d_MO_beside_54 rfl (lv_at hl 4 rfl) ?_
      refine lv_iconst (v := 2) hx hb d_MO_beside_55 (by decide) ?_
      refine lv_icmp_ne (tgt := 79) hx hb d_MO_beside_56 (by decide) (fun hc => ?_) (fun hc => ?_)
      · replace hf := if_n hc hf
        refine lv_iload_n hx hb d_MO_beside_79 rfl (lv_at hl 3 rfl) ?_
        refine lv_aload_n hx hb d_MO_beside_80 rfl (lv_at hl 2 rfl) ?_
        refine g_MO_wide hx hb hts hown hG hP (hts _ in_565) d_MO_beside_81 ?_
        refine lv_iadd hx hb d_MO_beside_84 ?_
        refine lv_aload_n hx hb d_MO_beside_85 rfl (lv_at hl 2 rfl) ?_
        refine g_MO_fields hx hb hts hown hG hP (hts _ in_566) d_MO_beside_86 ?_
        refine lv_icmp_ge (tgt := 101) hx hb d_MO_beside_89 (by decide) (fun hc => ?_) (fun hc => ?_)
        · replace hf := if_p hc hf
          refine lv_bipush (v := 64) hx hb d_MO_beside_101 (by decide) ?_
          obtain rfl := Option.some.inj hf
          exact hq _ _ _ _ d_MO_beside_103 hP hS
        · replace hf := if_n hc hf
          refine lv_iload_n hx hb d_MO_beside_92 rfl (lv_at hl 3 rfl) ?_
          refine lv_aload_n hx hb d_MO_beside_93 rfl (lv_at hl 2 rfl) ?_
          refine g_MO_wide hx hb hts hown hG hP (hts _ in_565) d_MO_beside_94 ?_
          refine lv_iadd hx hb d_MO_beside_97 ?_
          refine lv_goto (tgt := 103) hx hb d_MO_beside_98 (by decide) ?_
          obtain rfl := Option.some.inj hf
          exact hq _ _ _ _ d_MO_beside_103 hP hS
      · replace hf := if_p hc hf
        refine lv_iload hx hb d_MO_beside_59 (lv_at hl 0 rfl) ?_
        refine lv_aload_n hx hb d_MO_beside_61 rfl (lv_at hl 2 rfl) ?_
        refine g_MO_wide hx hb hts hown hG hP (hts _ in_565) d_MO_beside_62 ?_
        refine lv_iconst (v := 1) hx hb d_MO_beside_65 (by decide) ?_
        refine lv_isub hx hb d_MO_beside_66 ?_
        refine lv_icmp_ge (tgt := 76) hx hb d_MO_beside_67 (by decide) (fun hc => ?_) (fun hc => ?_)
        · replace hf := if_p hc hf
          refine lv_bipush (v := 64) hx hb d_MO_beside_76 (by decide) ?_
          obtain rfl := Option.some.inj hf
          exact hq _ _ _ _ d_MO_beside_78 hP hS
        · replace hf := if_n hc hf
          refine lv_iload_n hx hb d_MO_beside_70 rfl (lv_at hl 3 rfl) ?_
          refine lv_iconst (v := 1) hx hb d_MO_beside_71 (by decide) ?_
          refine lv_iadd hx hb d_MO_beside_72 ?_
          refine lv_goto (tgt := 78) hx hb d_MO_beside_73 (by decide) ?_
          obtain rfl := Option.some.inj hf
          exact hq _ _ _ _ d_MO_beside_78 hP hS
    · replace hf := if_p hc hf
      refine lv_iload hx hb d_MO_beside_40 (lv_at hl 0 rfl) ?_
      refine lv_if_le (tgt := 51) hx hb d_MO_beside_42 (by decide) (fun hc => ?_) (fun hc => ?_)
      · replace hf := if_p hc hf
        refine lv_bipush (v := 64) hx hb d_MO_beside_51 (by decide) ?_
        obtain rfl := Option.some.inj hf
        exact hq _ _ _ _ d_MO_beside_53 hP hS
      · replace hf := if_n hc hf
        refine lv_iload_n hx hb d_MO_beside_45 rfl (lv_at hl 3 rfl) ?_
        refine lv_iconst (v := 1) hx hb d_MO_beside_46 (by decide) ?_
        refine lv_isub hx hb d_MO_beside_47 ?_
        refine lv_goto (tgt := 53) hx hb d_MO_beside_48 (by decide) ?_
        obtain rfl := Option.some.inj hf
        exact hq _ _ _ _ d_MO_beside_53 hP hS
  · replace hf := if_p hc hf
    refine lv_iload_n hx hb d_MO_beside_19 rfl (lv_at hl 1 rfl) ?_
    refine lv_if_le (tgt := 32) hx hb d_MO_beside_20 (by decide) (fun hc => ?_) (fun hc => ?_)
    · replace hf := if_p hc hf
      refine lv_bipush (v := 64) hx hb d_MO_beside_32 (by decide) ?_
      obtain rfl := Option.some.inj hf
      exact hq _ _ _ _ d_MO_beside_34 hP hS
    · replace hf := if_n hc hf
      refine lv_iload_n hx hb d_MO_beside_23 rfl (lv_at hl 3 rfl) ?_
      refine lv_aload_n hx hb d_MO_beside_24 rfl (lv_at hl 2 rfl) ?_
      refine g_MO_wide hx hb hts hown hG hP (hts _ in_565) d_MO_beside_25 ?_
      refine lv_isub hx hb d_MO_beside_28 ?_
      refine lv_goto (tgt := 34) hx hb d_MO_beside_29 (by decide) ?_
      obtain rfl := Option.some.inj hf
      exact hq _ _ _ _ d_MO_beside_34 hP hS
theorem c_MO_beside (l : Launch) (D : va_G) (adr : Nat → Nat) (cA : Nat → ClassId) (μ ν : Mem) (x1 : Int32) (x2 : Int32)  {res : Int32} (hf : f_MO_beside ν x1 x2 = some res) : Met l y_MO_beside (Cond.code y_MO_beside prog_7_method_9_code 5 (Option.some Jvm.ClassFile.FieldType.int) :: lw_ok) rm_MO_beside (va_Pc [.ref (adr 63), .int x1, .int x2] (Wd D adr cA μ ν)) (QI D adr cA res μ ν) 0 0 (AA adr) :=
  met_of (own := "LakeReliefModel") rfl rfl (Nat.le_of_ble_eq_true rfl) (fun p e s m below meth c C hG hP hS ls hl => w_MO_beside x1 x2  C hG hf (fun pc ls H locs hd hP hS => ret_i C.1 C.2.1 C.2.2.2.2.2.1 C.2.2.2.2.2.2 hG hd hP hS) hP hS hl)
end X_MO_beside
section X_MO_isWet
variable {p : Program} {l : Launch} {e : Env} {s : State} {m : MethodId} {args : Array Value} {below : List Frame} {meth : Method} {c : Code} {Q : State → Prop}
variable {D : va_G} {adr : Nat → Nat} {cA : Nat → ClassId} {μ ν : Mem}
theorem d_MO_isWet_0 : decode prog_7_method_10_code 0 = .ok (.iload_n 1, 1) := by decide +kernel
theorem d_MO_isWet_1 : decode prog_7_method_10_code 1 = .ok (.bipush 64, 2) := by decide +kernel
theorem d_MO_isWet_3 : decode prog_7_method_10_code 3 = .ok (.if_icmp .eq 12, 3) := by decide +kernel
theorem d_MO_isWet_6 : decode prog_7_method_10_code 6 = .ok (.aload_n 0, 1) := by decide +kernel
theorem d_MO_isWet_7 : decode prog_7_method_10_code 7 = .ok (.getfield 19, 3) := by decide +kernel
theorem d_MO_isWet_10 : decode prog_7_method_10_code 10 = .ok (.iload_n 1, 1) := by decide +kernel
theorem d_MO_isWet_11 : decode prog_7_method_10_code 11 = .ok (.baload, 1) := by decide +kernel
theorem d_MO_isWet_12 : decode prog_7_method_10_code 12 = .ok (.ifCond .eq 7, 3) := by decide +kernel
theorem d_MO_isWet_15 : decode prog_7_method_10_code 15 = .ok (.iconst 1, 1) := by decide +kernel
theorem d_MO_isWet_16 : decode prog_7_method_10_code 16 = .ok (.goto 4, 3) := by decide +kernel
theorem d_MO_isWet_19 : decode prog_7_method_10_code 19 = .ok (.iconst 0, 1) := by decide +kernel
theorem d_MO_isWet_20 : decode prog_7_method_10_code 20 = .ok (.ireturn, 1) := by decide +kernel
set_option maxHeartbeats 4000000 in
set_option maxRecDepth 100000 in
theorem w_MO_isWet (x1 : Int32)  (C : Cx prog_7_method_10_code 2 "LakeReliefModel" (Option.some Jvm.ClassFile.FieldType.boolean) p s m args meth c) (hG : Geo D adr cA s) {res : Int32} (hf : f_MO_isWet ν x1 = some res) (hq : ∀ (pc : Nat) (ls : Array Slot) (H : Heap) (locs : List Loc), res &&& 1 = res → decode prog_7_method_10_code pc = .ok (.ireturn, 1) → va_P D cls (wld adr cA μ ν) H → va_S (AA adr) s.heap H locs → W p l e rm_MO_isWet s m args below meth c H locs 0 0 Q (F0 m pc ls [.int res])) {H : Heap} {locs : List Loc} {ls : Array Slot} (hP : va_P D cls (wld adr cA μ ν) H) (hS : va_S (AA adr) s.heap H locs) (hl : lv_has ls 2 [(0, .ref (adr 63)), (1, .int x1)]) : W p l e rm_MO_isWet s m args below meth c H locs 0 0 Q (F0 m 0 ls []) := by
  obtain ⟨hx, hb, hml, hown, hts, hr, hlocks⟩ := id C
  unfold f_MO_isWet at hf
  refine lv_iload_n hx hb d_MO_isWet_0 rfl (lv_at hl 1 rfl) ?_
  refine lv_bipush (v := 64) hx hb d_MO_isWet_1 (by decide) ?_
  refine lv_icmp_eq (tgt := 15) hx hb d_MO_isWet_3 (by decide) (fun hc => ?_) (fun hc => ?_)
  · replace hf := if_p hc hf
    refine lv_iconst (v := 1) hx hb d_MO_isWet_15 (by decide) ?_
    refine lv_goto (tgt := 20) hx hb d_MO_isWet_16 (by decide) ?_
    obtain rfl := Option.some.inj hf
    exact hq _ _ _ _ (by decide) d_MO_isWet_20 hP hS
  · replace hf := if_n hc hf
    refine lv_aload_n hx hb d_MO_isWet_6 rfl (lv_at hl 0 rfl) ?_
    refine g_MO_isSea hx hb hts hown hG hP (hts _ in_567) d_MO_isWet_7 ?_
    refine lv_iload_n hx hb d_MO_isWet_10 rfl (lv_at hl 1 rfl) ?_
    replace hf := G_some hf
    obtain ⟨hi1, hf⟩ := hf
    refine r_zald hx hb hG hP 67 64 (f := ν.1 67) (by decide) (wc_M (by decide) rfl) hi1 d_MO_isWet_11 ?_
    refine lv_if_eq (tgt := 19) hx hb d_MO_isWet_12 (by decide) (fun hc => ?_) (fun hc => ?_)
    · replace hf := if_p hc hf
      refine lv_iconst (v := 0) hx hb d_MO_isWet_19 (by decide) ?_
      obtain rfl := Option.some.inj hf
      exact hq _ _ _ _ (by decide) d_MO_isWet_20 hP hS
    · replace hf := if_n hc hf
      refine lv_iconst (v := 1) hx hb d_MO_isWet_15 (by decide) ?_
      refine lv_goto (tgt := 20) hx hb d_MO_isWet_16 (by decide) ?_
      obtain rfl := Option.some.inj hf
      exact hq _ _ _ _ (by decide) d_MO_isWet_20 hP hS
theorem c_MO_isWet (l : Launch) (D : va_G) (adr : Nat → Nat) (cA : Nat → ClassId) (μ ν : Mem) (x1 : Int32)  {res : Int32} (hf : f_MO_isWet ν x1 = some res) : Met l y_MO_isWet (Cond.code y_MO_isWet prog_7_method_10_code 2 (Option.some Jvm.ClassFile.FieldType.boolean) :: lw_ok) rm_MO_isWet (va_Pc [.ref (adr 63), .int x1] (Wd D adr cA μ ν)) (QI D adr cA res μ ν) 0 0 (AA adr) :=
  met_of (own := "LakeReliefModel") rfl rfl (Nat.le_of_ble_eq_true rfl) (fun p e s m below meth c C hG hP hS ls hl => w_MO_isWet x1  C hG hf (fun pc ls H locs hz hd hP hS => ret_z C.1 C.2.1 C.2.2.2.2.2.1 C.2.2.2.2.2.2 hG hz hd hP hS) hP hS hl)
end X_MO_isWet
section X_MO_isLower
variable {p : Program} {l : Launch} {e : Env} {s : State} {m : MethodId} {args : Array Value} {below : List Frame} {meth : Method} {c : Code} {Q : State → Prop}
variable {D : va_G} {adr : Nat → Nat} {cA : Nat → ClassId} {μ ν : Mem}
theorem d_MO_isLower_0 : decode prog_7_method_11_code 0 = .ok (.aload_n 0, 1) := by decide +kernel
theorem d_MO_isLower_1 : decode prog_7_method_11_code 1 = .ok (.getfield 23, 3) := by decide +kernel
theorem d_MO_isLower_4 : decode prog_7_method_11_code 4 = .ok (.iload_n 1, 1) := by decide +kernel
theorem d_MO_isLower_5 : decode prog_7_method_11_code 5 = .ok (.iaload, 1) := by decide +kernel
theorem d_MO_isLower_6 : decode prog_7_method_11_code 6 = .ok (.aload_n 0, 1) := by decide +kernel
theorem d_MO_isLower_7 : decode prog_7_method_11_code 7 = .ok (.getfield 23, 3) := by decide +kernel
theorem d_MO_isLower_10 : decode prog_7_method_11_code 10 = .ok (.iload_n 2, 1) := by decide +kernel
theorem d_MO_isLower_11 : decode prog_7_method_11_code 11 = .ok (.iaload, 1) := by decide +kernel
theorem d_MO_isLower_12 : decode prog_7_method_11_code 12 = .ok (.if_icmp .eq 26, 3) := by decide +kernel
theorem d_MO_isLower_15 : decode prog_7_method_11_code 15 = .ok (.aload_n 0, 1) := by decide +kernel
theorem d_MO_isLower_16 : decode prog_7_method_11_code 16 = .ok (.getfield 23, 3) := by decide +kernel
theorem d_MO_isLower_19 : decode prog_7_method_11_code 19 = .ok (.iload_n 1, 1) := by decide +kernel
theorem d_MO_isLower_20 : decode prog_7_method_11_code 20 = .ok (.iaload, 1) := by decide +kernel
theorem d_MO_isLower_21 : decode prog_7_method_11_code 21 = .ok (.aload_n 0, 1) := by decide +kernel
theorem d_MO_isLower_22 : decode prog_7_method_11_code 22 = .ok (.getfield 23, 3) := by decide +kernel
theorem d_MO_isLower_25 : decode prog_7_method_11_code 25 = .ok (.iload_n 2, 1) := by decide +kernel
theorem d_MO_isLower_26 : decode prog_7_method_11_code 26 = .ok (.iaload, 1) := by decide +kernel
theorem d_MO_isLower_27 : decode prog_7_method_11_code 27 = .ok (.if_icmp .ge 7, 3) := by decide +kernel
theorem d_MO_isLower_30 : decode prog_7_method_11_code 30 = .ok (.iconst 1, 1) := by decide +kernel
theorem d_MO_isLower_31 : decode prog_7_method_11_code 31 = .ok (.goto 17, 3) := by decide +kernel
theorem d_MO_isLower_34 : decode prog_7_method_11_code 34 = .ok (.iconst 0, 1) := by decide +kernel
theorem d_MO_isLower_35 : decode prog_7_method_11_code 35 = .ok (.goto 13, 3) := by decide +kernel
theorem d_MO_isLower_38 : decode prog_7_method_11_code 38 = .ok (.iload_n 1, 1) := by decide +kernel
theorem d_MO_isLower_39 : decode prog_7_method_11_code 39 = .ok (.iload_n 2, 1) := by decide +kernel
theorem d_MO_isLower_40 : decode prog_7_method_11_code 40 = .ok (.if_icmp .ge 7, 3) := by decide +kernel
theorem d_MO_isLower_43 : decode prog_7_method_11_code 43 = .ok (.iconst 1, 1) := by decide +kernel
theorem d_MO_isLower_44 : decode prog_7_method_11_code 44 = .ok (.goto 4, 3) := by decide +kernel
theorem d_MO_isLower_47 : decode prog_7_method_11_code 47 = .ok (.iconst 0, 1) := by decide +kernel
theorem d_MO_isLower_48 : decode prog_7_method_11_code 48 = .ok (.ireturn, 1) := by decide +kernel
set_option maxHeartbeats 4000000 in
set_option maxRecDepth 100000 in
theorem w_MO_isLower (x1 : Int32) (x2 : Int32)  (C : Cx prog_7_method_11_code 3 "LakeReliefModel" (Option.some Jvm.ClassFile.FieldType.boolean) p s m args meth c) (hG : Geo D adr cA s) {res : Int32} (hf : f_MO_isLower ν x1 x2 = some res) (hq : ∀ (pc : Nat) (ls : Array Slot) (H : Heap) (locs : List Loc), res &&& 1 = res → decode prog_7_method_11_code pc = .ok (.ireturn, 1) → va_P D cls (wld adr cA μ ν) H → va_S (AA adr) s.heap H locs → W p l e rm_MO_isLower s m args below meth c H locs 0 0 Q (F0 m pc ls [.int res])) {H : Heap} {locs : List Loc} {ls : Array Slot} (hP : va_P D cls (wld adr cA μ ν) H) (hS : va_S (AA adr) s.heap H locs) (hl : lv_has ls 3 [(0, .ref (adr 63)), (1, .int x1), (2, .int x2)]) : W p l e rm_MO_isLower s m args below meth c H locs 0 0 Q (F0 m 0 ls []) := by
  obtain ⟨hx, hb, hml, hown, hts, hr, hlocks⟩ := id C
  unfold f_MO_isLower at hf
  refine lv_aload_n hx hb d_MO_isLower_0 rfl (lv_at hl 0 rfl) ?_
  refine g_MO_height hx hb hts hown hG hP (hts _ in_568) d_MO_isLower_1 ?_
  refine lv_iload_n hx hb d_MO_isLower_4 rfl (lv_at hl 1 rfl) ?_
  replace hf := G_some hf
  obtain ⟨hi1, hf⟩ := hf
  refine r_iald hx hb hG hP 68 64 (f := ν.1 68) (by decide) (wc_M (by decide) rfl) hi1 d_MO_isLower_5 ?_
  refine lv_aload_n hx hb d_MO_isLower_6 rfl (lv_at hl 0 rfl) ?_
  refine g_MO_height hx hb hts hown hG hP (hts _ in_568) d_MO_isLower_7 ?_
  refine lv_iload_n hx hb d_MO_isLower_10 rfl (lv_at hl 2 rfl) ?_
  replace hf := G_some hf
  obtain ⟨hi2, hf⟩ := hf
  refine r_iald hx hb hG hP 68 64 (f := ν.1 68) (by decide) (wc_M (by decide) rfl) hi2 d_MO_isLower_11 ?_
  refine lv_icmp_eq (tgt := 38) hx hb d_MO_isLower_12 (by decide) (fun hc => ?_) (fun hc => ?_)
  · replace hf := if_p hc hf
    refine lv_iload_n hx hb d_MO_isLower_38 rfl (lv_at hl 1 rfl) ?_
    refine lv_iload_n hx hb d_MO_isLower_39 rfl (lv_at hl 2 rfl) ?_
    refine lv_icmp_ge (tgt := 47) hx hb d_MO_isLower_40 (by decide) (fun hc => ?_) (fun hc => ?_)
    · replace hf := if_p hc hf
      refine lv_iconst (v := 0) hx hb d_MO_isLower_47 (by decide) ?_
      obtain rfl := Option.some.inj hf
      exact hq _ _ _ _ (by decide) d_MO_isLower_48 hP hS
    · replace hf := if_n hc hf
      refine lv_iconst (v := 1) hx hb d_MO_isLower_43 (by decide) ?_
      refine lv_goto (tgt := 48) hx hb d_MO_isLower_44 (by decide) ?_
      obtain rfl := Option.some.inj hf
      exact hq _ _ _ _ (by decide) d_MO_isLower_48 hP hS
  · replace hf := if_n hc hf
    refine lv_aload_n hx hb d_MO_isLower_15 rfl (lv_at hl 0 rfl) ?_
    refine g_MO_height hx hb hts hown hG hP (hts _ in_568) d_MO_isLower_16 ?_
    refine lv_iload_n hx hb d_MO_isLower_19 rfl (lv_at hl 1 rfl) ?_
    replace hf := G_some hf
    obtain ⟨hi3, hf⟩ := hf
    refine r_iald hx hb hG hP 68 64 (f := ν.1 68) (by decide) (wc_M (by decide) rfl) hi3 d_MO_isLower_20 ?_
    refine lv_aload_n hx hb d_MO_isLower_21 rfl (lv_at hl 0 rfl) ?_
    refine g_MO_height hx hb hts hown hG hP (hts _ in_568) d_MO_isLower_22 ?_
    refine lv_iload_n hx hb d_MO_isLower_25 rfl (lv_at hl 2 rfl) ?_
    replace hf := G_some hf
    obtain ⟨hi4, hf⟩ := hf
    refine r_iald hx hb hG hP 68 64 (f := ν.1 68) (by decide) (wc_M (by decide) rfl) hi4 d_MO_isLower_26 ?_
    refine lv_icmp_ge (tgt := 34) hx hb d_MO_isLower_27 (by decide) (fun hc => ?_) (fun hc => ?_)
    · replace hf := if_p hc hf
      refine lv_iconst (v := 0) hx hb d_MO_isLower_34 (by decide) ?_
      refine lv_goto (tgt := 48) hx hb d_MO_isLower_35 (by decide) ?_
      obtain rfl := Option.some.inj hf
      exact hq _ _ _ _ (by decide) d_MO_isLower_48 hP hS
    · replace hf := if_n hc hf
      refine lv_iconst (v := 1) hx hb d_MO_isLower_30 (by decide) ?_
      refine lv_goto (tgt := 48) hx hb d_MO_isLower_31 (by decide) ?_
      obtain rfl := Option.some.inj hf
      exact hq _ _ _ _ (by decide) d_MO_isLower_48 hP hS
theorem c_MO_isLower (l : Launch) (D : va_G) (adr : Nat → Nat) (cA : Nat → ClassId) (μ ν : Mem) (x1 : Int32) (x2 : Int32)  {res : Int32} (hf : f_MO_isLower ν x1 x2 = some res) : Met l y_MO_isLower (Cond.code y_MO_isLower prog_7_method_11_code 3 (Option.some Jvm.ClassFile.FieldType.boolean) :: lw_ok) rm_MO_isLower (va_Pc [.ref (adr 63), .int x1, .int x2] (Wd D adr cA μ ν)) (QI D adr cA res μ ν) 0 0 (AA adr) :=
  met_of (own := "LakeReliefModel") rfl rfl (Nat.le_of_ble_eq_true rfl) (fun p e s m below meth c C hG hP hS ls hl => w_MO_isLower x1 x2  C hG hf (fun pc ls H locs hz hd hP hS => ret_z C.1 C.2.1 C.2.2.2.2.2.1 C.2.2.2.2.2.2 hG hz hd hP hS) hP hS hl)
end X_MO_isLower
section X_MO_layDown
variable {p : Program} {l : Launch} {e : Env} {s : State} {m : MethodId} {args : Array Value} {below : List Frame} {meth : Method} {c : Code} {Q : State → Prop}
variable {D : va_G} {adr : Nat → Nat} {cA : Nat → ClassId} {μ ν : Mem}
theorem d_MO_layDown_0 : decode prog_7_method_12_code 0 = .ok (.iload_n 1, 1) := by decide +kernel
theorem d_MO_layDown_1 : decode prog_7_method_12_code 1 = .ok (.istore_n 2, 1) := by decide +kernel
theorem d_MO_layDown_2 : decode prog_7_method_12_code 2 = .ok (.iconst 0, 1) := by decide +kernel
theorem d_MO_layDown_3 : decode prog_7_method_12_code 3 = .ok (.istore_n 3, 1) := by decide +kernel
theorem d_MO_layDown_4 : decode prog_7_method_12_code 4 = .ok (.iconst 0, 1) := by decide +kernel
theorem d_MO_layDown_5 : decode prog_7_method_12_code 5 = .ok (.istore 4, 2) := by decide +kernel
theorem d_MO_layDown_7 : decode prog_7_method_12_code 7 = .ok (.iload 4, 2) := by decide +kernel
theorem d_MO_layDown_9 : decode prog_7_method_12_code 9 = .ok (.iconst 4, 1) := by decide +kernel
theorem d_MO_layDown_10 : decode prog_7_method_12_code 10 = .ok (.if_icmp .ge 59, 3) := by decide +kernel
theorem d_MO_layDown_13 : decode prog_7_method_12_code 13 = .ok (.aload_n 0, 1) := by decide +kernel
theorem d_MO_layDown_14 : decode prog_7_method_12_code 14 = .ok (.iload_n 1, 1) := by decide +kernel
theorem d_MO_layDown_15 : decode prog_7_method_12_code 15 = .ok (.iload 4, 2) := by decide +kernel
theorem d_MO_layDown_17 : decode prog_7_method_12_code 17 = .ok (.invokevirtual 105, 3) := by decide +kernel
theorem d_MO_layDown_20 : decode prog_7_method_12_code 20 = .ok (.istore 5, 2) := by decide +kernel
theorem d_MO_layDown_22 : decode prog_7_method_12_code 22 = .ok (.iload_n 3, 1) := by decide +kernel
theorem d_MO_layDown_23 : decode prog_7_method_12_code 23 = .ok (.ifCond .ne 12, 3) := by decide +kernel
theorem d_MO_layDown_26 : decode prog_7_method_12_code 26 = .ok (.aload_n 0, 1) := by decide +kernel
theorem d_MO_layDown_27 : decode prog_7_method_12_code 27 = .ok (.iload 5, 2) := by decide +kernel
theorem d_MO_layDown_29 : decode prog_7_method_12_code 29 = .ok (.invokevirtual 108, 3) := by decide +kernel
theorem d_MO_layDown_32 : decode prog_7_method_12_code 32 = .ok (.ifCond .eq 7, 3) := by decide +kernel
theorem d_MO_layDown_35 : decode prog_7_method_12_code 35 = .ok (.iconst 1, 1) := by decide +kernel
theorem d_MO_layDown_36 : decode prog_7_method_12_code 36 = .ok (.goto 4, 3) := by decide +kernel
theorem d_MO_layDown_39 : decode prog_7_method_12_code 39 = .ok (.iconst 0, 1) := by decide +kernel
theorem d_MO_layDown_40 : decode prog_7_method_12_code 40 = .ok (.istore_n 3, 1) := by decide +kernel
theorem d_MO_layDown_41 : decode prog_7_method_12_code 41 = .ok (.aload_n 0, 1) := by decide +kernel
theorem d_MO_layDown_42 : decode prog_7_method_12_code 42 = .ok (.iload 5, 2) := by decide +kernel
theorem d_MO_layDown_44 : decode prog_7_method_12_code 44 = .ok (.invokevirtual 108, 3) := by decide +kernel
theorem d_MO_layDown_47 : decode prog_7_method_12_code 47 = .ok (.ifCond .ne 16, 3) := by decide +kernel
theorem d_MO_layDown_50 : decode prog_7_method_12_code 50 = .ok (.aload_n 0, 1) := by decide +kernel
theorem d_MO_layDown_51 : decode prog_7_method_12_code 51 = .ok (.iload 5, 2) := by decide +kernel
theorem d_MO_layDown_53 : decode prog_7_method_12_code 53 = .ok (.iload_n 2, 1) := by decide +kernel
theorem d_MO_layDown_54 : decode prog_7_method_12_code 54 = .ok (.invokevirtual 111, 3) := by decide +kernel
theorem d_MO_layDown_57 : decode prog_7_method_12_code 57 = .ok (.ifCond .eq 6, 3) := by decide +kernel
theorem d_MO_layDown_60 : decode prog_7_method_12_code 60 = .ok (.iload 5, 2) := by decide +kernel
theorem d_MO_layDown_62 : decode prog_7_method_12_code 62 = .ok (.istore_n 2, 1) := by decide +kernel
theorem d_MO_layDown_63 : decode prog_7_method_12_code 63 = .ok (.iinc 4 1, 3) := by decide +kernel
theorem d_MO_layDown_66 : decode prog_7_method_12_code 66 = .ok (.goto (-59), 3) := by decide +kernel
theorem d_MO_layDown_69 : decode prog_7_method_12_code 69 = .ok (.aload_n 0, 1) := by decide +kernel
theorem d_MO_layDown_70 : decode prog_7_method_12_code 70 = .ok (.getfield 26, 3) := by decide +kernel
theorem d_MO_layDown_73 : decode prog_7_method_12_code 73 = .ok (.iload_n 1, 1) := by decide +kernel
theorem d_MO_layDown_74 : decode prog_7_method_12_code 74 = .ok (.iload_n 3, 1) := by decide +kernel
theorem d_MO_layDown_75 : decode prog_7_method_12_code 75 = .ok (.ifCond .eq 8, 3) := by decide +kernel
theorem d_MO_layDown_78 : decode prog_7_method_12_code 78 = .ok (.bipush (-5), 2) := by decide +kernel
theorem d_MO_layDown_80 : decode prog_7_method_12_code 80 = .ok (.goto 14, 3) := by decide +kernel
theorem d_MO_layDown_83 : decode prog_7_method_12_code 83 = .ok (.iload_n 2, 1) := by decide +kernel
theorem d_MO_layDown_84 : decode prog_7_method_12_code 84 = .ok (.iload_n 1, 1) := by decide +kernel
theorem d_MO_layDown_85 : decode prog_7_method_12_code 85 = .ok (.if_icmp .ne 8, 3) := by decide +kernel
theorem d_MO_layDown_88 : decode prog_7_method_12_code 88 = .ok (.bipush (-3), 2) := by decide +kernel
theorem d_MO_layDown_90 : decode prog_7_method_12_code 90 = .ok (.goto 4, 3) := by decide +kernel
theorem d_MO_layDown_93 : decode prog_7_method_12_code 93 = .ok (.iload_n 2, 1) := by decide +kernel
theorem d_MO_layDown_94 : decode prog_7_method_12_code 94 = .ok (.iastore, 1) := by decide +kernel
theorem d_MO_layDown_95 : decode prog_7_method_12_code 95 = .ok (.return_, 1) := by decide +kernel
set_option maxHeartbeats 4000000 in
set_option maxRecDepth 100000 in
theorem w_MO_layDown_L7 (y1 : Int32)  (C : Cx prog_7_method_12_code 6 "LakeReliefModel" (Option.none : Option Jvm.ClassFile.FieldType) p s m args meth c) (hG : Geo D adr cA s) (v : Int32 × Int32) (hE : ∀ (H : Heap) (locs : List Loc) (ls : Array Slot), va_P D cls (wld adr cA μ ν) H → va_S (AA adr) s.heap H locs → lv_has ls 6 [(0, .ref (adr 63)), (1, .int y1), (2, .int v.1), (3, .int v.2)] → W p l e rm_MO_layDown s m args below meth c H locs 0 0 Q (F0 m 69 ls [])) : ∀ (n : Nat) (y2 : Int32) (y3 : Int32) (y4 : Int32), f_MO_layDown_L7 ν y1 n y2 y3 y4 = some v → ∀ {H : Heap} {locs : List Loc} {ls : Array Slot}, va_P D cls (wld adr cA μ ν) H → va_S (AA adr) s.heap H locs → lv_has ls 6 [(0, .ref (adr 63)), (1, .int y1), (2, .int y2), (3, .int y3), (4, .int y4)] → W p l e rm_MO_layDown s m args below meth c H locs 0 0 Q (F0 m 7 ls []) := by
  obtain ⟨hx, hb, hml, hown, hts, hr, hlocks⟩ := id C
  intro n
  induction n with
  | zero => intro y2 y3 y4 hf; rw [f_MO_layDown_L7.eq_1] at hf; cases hf
  | succ n ih =>
    intro y2 y3 y4 hf H locs ls hP hS hl
    rw [f_MO_layDown_L7.eq_2] at hf
    refine lv_iload hx hb d_MO_layDown_7 (lv_at hl 4 rfl) ?_
    refine lv_iconst (v := 4) hx hb d_MO_layDown_9 (by decide) ?_
    refine lv_icmp_ge (tgt := 69) hx hb d_MO_layDown_10 (by decide) (fun hc => ?_) (fun hc => ?_)
    · replace hf := if_p hc hf
      obtain rfl := Option.some.inj hf
      exact hE _ _ _ hP hS (lv_sub hl [0, 1, 2, 3] rfl)
    · replace hf := if_n hc hf
      refine lv_aload_n hx hb d_MO_layDown_13 rfl (lv_at hl 0 rfl) ?_
      refine lv_iload_n hx hb d_MO_layDown_14 rfl (lv_at hl 1 rfl) ?_
      refine lv_iload hx hb d_MO_layDown_15 (lv_at hl 4 rfl) ?_
      replace hf := B_some hf
      obtain ⟨v1, hv1, hf⟩ := hf
      refine ki (kv (As := [.int y1, .int y4]) (rest := []) ⟨hx, hb, hml, hown, hts⟩ (cw_MO_105 hts ⟨Nat.le_of_ble_eq_true rfl, Nat.le_of_ble_eq_true rfl⟩) (c_MO_beside l D adr cA μ ν y1 y4 hv1) hG hP (rc_o (q := 63) (ci := 5) hG hP (by decide) (wc_M (by decide) rfl) rfl) rfl hl.1 (Nat.le_of_ble_eq_true rfl) d_MO_layDown_17) hS (fun H locs hP hS => ?_)
      refine lv_istore (lv' := [(5, .int v1), (0, .ref (adr 63)), (1, .int y1), (2, .int y2), (3, .int y3), (4, .int y4)]) hx hb d_MO_layDown_20 hl (by decide) rfl (fun ls hl => ?_)
      refine lv_iload_n hx hb d_MO_layDown_22 rfl (lv_at hl 4 rfl) ?_
      replace hf := B_some hf
      obtain ⟨v2, hv2, hf⟩ := hf
      have hJ : ∀ (H : Heap) (locs : List Loc) (ls : Array Slot), va_P D cls (wld adr cA μ ν) H → va_S (AA adr) s.heap H locs → lv_has ls 6 [(0, .ref (adr 63)), (1, .int y1), (2, .int y2), (4, .int y4), (5, .int v1)] → W p l e rm_MO_layDown s m args below meth c H locs 0 0 Q (F0 m 40 ls [.int v2]) := by
        clear hv2
        intro H locs ls hP hS hl
        refine lv_istore_n (lv' := [(3, .int v2), (0, .ref (adr 63)), (1, .int y1), (2, .int y2), (4, .int y4), (5, .int v1)]) hx hb d_MO_layDown_40 rfl hl (by decide) rfl (fun ls hl => ?_)
        refine lv_aload_n hx hb d_MO_layDown_41 rfl (lv_at hl 1 rfl) ?_
        refine lv_iload hx hb d_MO_layDown_42 (lv_at hl 5 rfl) ?_
        replace hf := B_some hf
        obtain ⟨v4, hv4, hf⟩ := hf
        refine ki (kv (As := [.int v1]) (rest := []) ⟨hx, hb, hml, hown, hts⟩ (cw_MO_108 hts ⟨Nat.le_of_ble_eq_true rfl, Nat.le_of_ble_eq_true rfl⟩) (c_MO_isWet l D adr cA μ ν v1 hv4) hG hP (rc_o (q := 63) (ci := 5) hG hP (by decide) (wc_M (by decide) rfl) rfl) rfl hl.1 (Nat.le_of_ble_eq_true rfl) d_MO_layDown_44) hS (fun H locs hP hS => ?_)
        replace hf := B_some hf
        obtain ⟨v5, hv5, hf⟩ := hf
        have hJ : ∀ (H : Heap) (locs : List Loc) (ls : Array Slot), va_P D cls (wld adr cA μ ν) H → va_S (AA adr) s.heap H locs → lv_has ls 6 [(0, .ref (adr 63)), (1, .int y1), (2, .int v5), (3, .int v2), (4, .int y4)] → W p l e rm_MO_layDown s m args below meth c H locs 0 0 Q (F0 m 63 ls []) := by
          clear hv5
          intro H locs ls hP hS hl
          refine lv_iinc (v := (y4 + 1)) (lv' := [(4, .int (y4 + 1)), (0, .ref (adr 63)), (1, .int y1), (2, .int v5), (3, .int v2)]) hx hb d_MO_layDown_63 hl (k := 4) rfl rfl (by decide) rfl (fun ls hl => ?_)
          refine lv_goto (tgt := 7) hx hb d_MO_layDown_66 (by decide) ?_
          exact ih _ _ _ hf hP hS (lv_sub hl [1, 2, 3, 4, 0] rfl)
        clear hf
        have hf := hv5
        clear hv5
        refine lv_if_ne (tgt := 63) hx hb d_MO_layDown_47 (by decide) (fun hc => ?_) (fun hc => ?_)
        · replace hf := if_n hc hf
          obtain rfl := Option.some.inj hf
          exact hJ _ _ _ hP hS (lv_sub hl [1, 2, 3, 0, 4] rfl)
        · replace hf := if_p hc hf
          refine lv_aload_n hx hb d_MO_layDown_50 rfl (lv_at hl 1 rfl) ?_
          refine lv_iload hx hb d_MO_layDown_51 (lv_at hl 5 rfl) ?_
          refine lv_iload_n hx hb d_MO_layDown_53 rfl (lv_at hl 3 rfl) ?_
          replace hf := B_some hf
          obtain ⟨v6, hv6, hf⟩ := hf
          refine ki (kv (As := [.int v1, .int y2]) (rest := []) ⟨hx, hb, hml, hown, hts⟩ (cw_MO_111 hts ⟨Nat.le_of_ble_eq_true rfl, Nat.le_of_ble_eq_true rfl⟩) (c_MO_isLower l D adr cA μ ν v1 y2 hv6) hG hP (rc_o (q := 63) (ci := 5) hG hP (by decide) (wc_M (by decide) rfl) rfl) rfl hl.1 (Nat.le_of_ble_eq_true rfl) d_MO_layDown_54) hS (fun H locs hP hS => ?_)
          refine lv_if_eq (tgt := 63) hx hb d_MO_layDown_57 (by decide) (fun hc => ?_) (fun hc => ?_)
          · replace hf := if_p hc hf
            obtain rfl := Option.some.inj hf
            exact hJ _ _ _ hP hS (lv_sub hl [1, 2, 3, 0, 4] rfl)
          · replace hf := if_n hc hf
            refine lv_iload hx hb d_MO_layDown_60 (lv_at hl 5 rfl) ?_
            refine lv_istore_n (lv' := [(2, .int v1), (3, .int v2), (0, .ref (adr 63)), (1, .int y1), (4, .int y4), (5, .int v1)]) hx hb d_MO_layDown_62 rfl hl (by decide) rfl (fun ls hl => ?_)
            obtain rfl := Option.some.inj hf
            exact hJ _ _ _ hP hS (lv_sub hl [2, 3, 0, 1, 4] rfl)
      clear hf
      have hf := hv2
      clear hv2
      refine lv_if_ne (tgt := 35) hx hb d_MO_layDown_23 (by decide) (fun hc => ?_) (fun hc => ?_)
      · replace hf := if_n hc hf
        refine lv_iconst (v := 1) hx hb d_MO_layDown_35 (by decide) ?_
        refine lv_goto (tgt := 40) hx hb d_MO_layDown_36 (by decide) ?_
        obtain rfl := Option.some.inj hf
        exact hJ _ _ _ hP hS (lv_sub hl [1, 2, 3, 5, 0] rfl)
      · replace hf := if_p hc hf
        refine lv_aload_n hx hb d_MO_layDown_26 rfl (lv_at hl 1 rfl) ?_
        refine lv_iload hx hb d_MO_layDown_27 (lv_at hl 0 rfl) ?_
        replace hf := B_some hf
        obtain ⟨v3, hv3, hf⟩ := hf
        refine ki (kv (As := [.int v1]) (rest := []) ⟨hx, hb, hml, hown, hts⟩ (cw_MO_108 hts ⟨Nat.le_of_ble_eq_true rfl, Nat.le_of_ble_eq_true rfl⟩) (c_MO_isWet l D adr cA μ ν v1 hv3) hG hP (rc_o (q := 63) (ci := 5) hG hP (by decide) (wc_M (by decide) rfl) rfl) rfl hl.1 (Nat.le_of_ble_eq_true rfl) d_MO_layDown_29) hS (fun H locs hP hS => ?_)
        refine lv_if_eq (tgt := 39) hx hb d_MO_layDown_32 (by decide) (fun hc => ?_) (fun hc => ?_)
        · replace hf := if_p hc hf
          refine lv_iconst (v := 0) hx hb d_MO_layDown_39 (by decide) ?_
          obtain rfl := Option.some.inj hf
          exact hJ _ _ _ hP hS (lv_sub hl [1, 2, 3, 5, 0] rfl)
        · replace hf := if_n hc hf
          refine lv_iconst (v := 1) hx hb d_MO_layDown_35 (by decide) ?_
          refine lv_goto (tgt := 40) hx hb d_MO_layDown_36 (by decide) ?_
          obtain rfl := Option.some.inj hf
          exact hJ _ _ _ hP hS (lv_sub hl [1, 2, 3, 5, 0] rfl)
set_option maxHeartbeats 4000000 in
set_option maxRecDepth 100000 in
theorem w_MO_layDown (x1 : Int32)  (C : Cx prog_7_method_12_code 6 "LakeReliefModel" (Option.none : Option Jvm.ClassFile.FieldType) p s m args meth c) (hG : Geo D adr cA s) {res : Mem} (hf : f_MO_layDown ν x1 = some res) (hq : ∀ (pc : Nat) (ls : Array Slot) (H : Heap) (locs : List Loc), decode prog_7_method_12_code pc = .ok (.return_, 1) → va_P D cls (wld adr cA μ res) H → va_S (AA adr) s.heap H locs → W p l e rm_MO_layDown s m args below meth c H locs 0 0 Q (F0 m pc ls [])) {H : Heap} {locs : List Loc} {ls : Array Slot} (hP : va_P D cls (wld adr cA μ ν) H) (hS : va_S (AA adr) s.heap H locs) (hl : lv_has ls 6 [(0, .ref (adr 63)), (1, .int x1)]) : W p l e rm_MO_layDown s m args below meth c H locs 0 0 Q (F0 m 0 ls []) := by
  obtain ⟨hx, hb, hml, hown, hts, hr, hlocks⟩ := id C
  unfold f_MO_layDown at hf
  refine lv_iload_n hx hb d_MO_layDown_0 rfl (lv_at hl 1 rfl) ?_
  refine lv_istore_n (lv' := [(2, .int x1), (0, .ref (adr 63)), (1, .int x1)]) hx hb d_MO_layDown_1 rfl hl (by decide) rfl (fun ls hl => ?_)
  refine lv_iconst (v := 0) hx hb d_MO_layDown_2 (by decide) ?_
  refine lv_istore_n (lv' := [(3, .int 0), (2, .int x1), (0, .ref (adr 63)), (1, .int x1)]) hx hb d_MO_layDown_3 rfl hl (by decide) rfl (fun ls hl => ?_)
  refine lv_iconst (v := 0) hx hb d_MO_layDown_4 (by decide) ?_
  refine lv_istore (lv' := [(4, .int 0), (3, .int 0), (2, .int x1), (0, .ref (adr 63)), (1, .int x1)]) hx hb d_MO_layDown_5 hl (by decide) rfl (fun ls hl => ?_)
  replace hf := B_some hf
  obtain ⟨v7, hv7, hf⟩ := hf
  refine w_MO_layDown_L7 x1  C hG v7 ?_ FU _ _ _ hv7 hP hS (lv_sub hl [3, 4, 2, 1, 0] rfl)
  clear hv7 hP hS hl
  intro H locs ls hP hS hl
  refine lv_aload_n hx hb d_MO_layDown_69 rfl (lv_at hl 0 rfl) ?_
  refine g_MO_down hx hb hts hown hG hP (hts _ in_569) d_MO_layDown_70 ?_
  refine lv_iload_n hx hb d_MO_layDown_73 rfl (lv_at hl 1 rfl) ?_
  refine lv_iload_n hx hb d_MO_layDown_74 rfl (lv_at hl 3 rfl) ?_
  replace hf := B_some hf
  obtain ⟨v8, hv8, hf⟩ := hf
  have hJ : ∀ (H : Heap) (locs : List Loc) (ls : Array Slot), va_P D cls (wld adr cA μ ν) H → va_S (AA adr) s.heap H locs → lv_has ls 6 [] → W p l e rm_MO_layDown s m args below meth c H locs 0 0 Q (F0 m 94 ls [.int v8, .int x1, .ref (adr 69)]) := by
    clear hv8
    intro H locs ls hP hS hl
    replace hf := G_some hf
    obtain ⟨hi9, hf⟩ := hf
    refine rM_iast hx hb hG hP hS 69 64 (by decide) (by decide) (fun _ _ => rfl) hi9 d_MO_layDown_94 (fun H locs hP hS => ?_)
    obtain rfl := Option.some.inj hf
    exact hq _ _ _ _ d_MO_layDown_95 hP hS
  clear hf
  have hf := hv8
  clear hv8
  refine lv_if_eq (tgt := 83) hx hb d_MO_layDown_75 (by decide) (fun hc => ?_) (fun hc => ?_)
  · replace hf := if_p hc hf
    refine lv_iload_n hx hb d_MO_layDown_83 rfl (lv_at hl 2 rfl) ?_
    refine lv_iload_n hx hb d_MO_layDown_84 rfl (lv_at hl 1 rfl) ?_
    refine lv_icmp_ne (tgt := 93) hx hb d_MO_layDown_85 (by decide) (fun hc => ?_) (fun hc => ?_)
    · replace hf := if_n hc hf
      refine lv_iload_n hx hb d_MO_layDown_93 rfl (lv_at hl 2 rfl) ?_
      obtain rfl := Option.some.inj hf
      exact hJ _ _ _ hP hS (lv_sub hl [] rfl)
    · replace hf := if_p hc hf
      refine lv_bipush (v := (-3)) hx hb d_MO_layDown_88 (by decide) ?_
      refine lv_goto (tgt := 94) hx hb d_MO_layDown_90 (by decide) ?_
      obtain rfl := Option.some.inj hf
      exact hJ _ _ _ hP hS (lv_sub hl [] rfl)
  · replace hf := if_n hc hf
    refine lv_bipush (v := (-5)) hx hb d_MO_layDown_78 (by decide) ?_
    refine lv_goto (tgt := 94) hx hb d_MO_layDown_80 (by decide) ?_
    obtain rfl := Option.some.inj hf
    exact hJ _ _ _ hP hS (lv_sub hl [] rfl)
theorem c_MO_layDown (l : Launch) (D : va_G) (adr : Nat → Nat) (cA : Nat → ClassId) (μ ν : Mem) (x1 : Int32)  {res : Mem} (hf : f_MO_layDown ν x1 = some res) : Met l y_MO_layDown (Cond.code y_MO_layDown prog_7_method_12_code 6 (Option.none : Option Jvm.ClassFile.FieldType) :: lw_ok) rm_MO_layDown (va_Pc [.ref (adr 63), .int x1] (Wd D adr cA μ ν)) (QV D adr cA μ res) 0 0 (AA adr) :=
  met_of (own := "LakeReliefModel") rfl rfl (Nat.le_of_ble_eq_true rfl) (fun p e s m below meth c C hG hP hS ls hl => w_MO_layDown x1  C hG hf (fun pc ls H locs hd hP hS => ret_v C.1 C.2.1 C.2.2.2.2.2.1 C.2.2.2.2.2.2 hG hd hP hS) hP hS hl)
end X_MO_layDown
section X_MO_endOf
variable {p : Program} {l : Launch} {e : Env} {s : State} {m : MethodId} {args : Array Value} {below : List Frame} {meth : Method} {c : Code} {Q : State → Prop}
variable {D : va_G} {adr : Nat → Nat} {cA : Nat → ClassId} {μ ν : Mem}
theorem d_MO_endOf_0 : decode prog_7_method_13_code 0 = .ok (.iload_n 1, 1) := by decide +kernel
theorem d_MO_endOf_1 : decode prog_7_method_13_code 1 = .ok (.istore_n 2, 1) := by decide +kernel
theorem d_MO_endOf_2 : decode prog_7_method_13_code 2 = .ok (.iload_n 2, 1) := by decide +kernel
theorem d_MO_endOf_3 : decode prog_7_method_13_code 3 = .ok (.ifCond .lt 22, 3) := by decide +kernel
theorem d_MO_endOf_6 : decode prog_7_method_13_code 6 = .ok (.aload_n 0, 1) := by decide +kernel
theorem d_MO_endOf_7 : decode prog_7_method_13_code 7 = .ok (.getfield 26, 3) := by decide +kernel
theorem d_MO_endOf_10 : decode prog_7_method_13_code 10 = .ok (.iload_n 2, 1) := by decide +kernel
theorem d_MO_endOf_11 : decode prog_7_method_13_code 11 = .ok (.iaload, 1) := by decide +kernel
theorem d_MO_endOf_12 : decode prog_7_method_13_code 12 = .ok (.ifCond .lt 13, 3) := by decide +kernel
theorem d_MO_endOf_15 : decode prog_7_method_13_code 15 = .ok (.aload_n 0, 1) := by decide +kernel
theorem d_MO_endOf_16 : decode prog_7_method_13_code 16 = .ok (.getfield 26, 3) := by decide +kernel
theorem d_MO_endOf_19 : decode prog_7_method_13_code 19 = .ok (.iload_n 2, 1) := by decide +kernel
theorem d_MO_endOf_20 : decode prog_7_method_13_code 20 = .ok (.iaload, 1) := by decide +kernel
theorem d_MO_endOf_21 : decode prog_7_method_13_code 21 = .ok (.istore_n 2, 1) := by decide +kernel
theorem d_MO_endOf_22 : decode prog_7_method_13_code 22 = .ok (.goto (-20), 3) := by decide +kernel
theorem d_MO_endOf_25 : decode prog_7_method_13_code 25 = .ok (.aload_n 0, 1) := by decide +kernel
theorem d_MO_endOf_26 : decode prog_7_method_13_code 26 = .ok (.getfield 26, 3) := by decide +kernel
theorem d_MO_endOf_29 : decode prog_7_method_13_code 29 = .ok (.iload_n 2, 1) := by decide +kernel
theorem d_MO_endOf_30 : decode prog_7_method_13_code 30 = .ok (.iaload, 1) := by decide +kernel
theorem d_MO_endOf_31 : decode prog_7_method_13_code 31 = .ok (.bipush (-5), 2) := by decide +kernel
theorem d_MO_endOf_33 : decode prog_7_method_13_code 33 = .ok (.if_icmp .ne 8, 3) := by decide +kernel
theorem d_MO_endOf_36 : decode prog_7_method_13_code 36 = .ok (.bipush (-5), 2) := by decide +kernel
theorem d_MO_endOf_38 : decode prog_7_method_13_code 38 = .ok (.goto 4, 3) := by decide +kernel
theorem d_MO_endOf_41 : decode prog_7_method_13_code 41 = .ok (.iload_n 2, 1) := by decide +kernel
theorem d_MO_endOf_42 : decode prog_7_method_13_code 42 = .ok (.ireturn, 1) := by decide +kernel
set_option maxHeartbeats 4000000 in
set_option maxRecDepth 100000 in
theorem w_MO_endOf_L2   (C : Cx prog_7_method_13_code 3 "LakeReliefModel" (Option.some Jvm.ClassFile.FieldType.int) p s m args meth c) (hG : Geo D adr cA s) (v : Int32) (hE : ∀ (H : Heap) (locs : List Loc) (ls : Array Slot), va_P D cls (wld adr cA μ ν) H → va_S (AA adr) s.heap H locs → lv_has ls 3 [(0, .ref (adr 63)), (2, .int v)] → W p l e rm_MO_endOf s m args below meth c H locs 0 0 Q (F0 m 25 ls [])) : ∀ (n : Nat) (y2 : Int32), f_MO_endOf_L2 ν n y2 = some v → ∀ {H : Heap} {locs : List Loc} {ls : Array Slot}, va_P D cls (wld adr cA μ ν) H → va_S (AA adr) s.heap H locs → lv_has ls 3 [(0, .ref (adr 63)), (2, .int y2)] → W p l e rm_MO_endOf s m args below meth c H locs 0 0 Q (F0 m 2 ls []) := by
  obtain ⟨hx, hb, hml, hown, hts, hr, hlocks⟩ := id C
  intro n
  induction n with
  | zero => intro y2 hf; rw [f_MO_endOf_L2.eq_1] at hf; cases hf
  | succ n ih =>
    intro y2 hf H locs ls hP hS hl
    rw [f_MO_endOf_L2.eq_2] at hf
    refine lv_iload_n hx hb d_MO_endOf_2 rfl (lv_at hl 1 rfl) ?_
    refine lv_if_lt (tgt := 25) hx hb d_MO_endOf_3 (by decide) (fun hc => ?_) (fun hc => ?_)
    · replace hf := if_p hc hf
      obtain rfl := Option.some.inj hf
      exact hE _ _ _ hP hS (lv_sub hl [0, 1] rfl)
    · replace hf := if_n hc hf
      refine lv_aload_n hx hb d_MO_endOf_6 rfl (lv_at hl 0 rfl) ?_
      refine g_MO_down hx hb hts hown hG hP (hts _ in_569) d_MO_endOf_7 ?_
      refine lv_iload_n hx hb d_MO_endOf_10 rfl (lv_at hl 1 rfl) ?_
      replace hf := G_some hf
      obtain ⟨hi1, hf⟩ := hf
      refine r_iald hx hb hG hP 69 64 (f := ν.1 69) (by decide) (wc_M (by decide) rfl) hi1 d_MO_endOf_11 ?_
      refine lv_if_lt (tgt := 25) hx hb d_MO_endOf_12 (by decide) (fun hc => ?_) (fun hc => ?_)
      · replace hf := if_p hc hf
        obtain rfl := Option.some.inj hf
        exact hE _ _ _ hP hS (lv_sub hl [0, 1] rfl)
      · replace hf := if_n hc hf
        refine lv_aload_n hx hb d_MO_endOf_15 rfl (lv_at hl 0 rfl) ?_
        refine g_MO_down hx hb hts hown hG hP (hts _ in_569) d_MO_endOf_16 ?_
        refine lv_iload_n hx hb d_MO_endOf_19 rfl (lv_at hl 1 rfl) ?_
        replace hf := G_some hf
        obtain ⟨hi2, hf⟩ := hf
        refine r_iald hx hb hG hP 69 64 (f := ν.1 69) (by decide) (wc_M (by decide) rfl) hi2 d_MO_endOf_20 ?_
        refine lv_istore_n (lv' := [(2, .int (ν.1 69 y2.toNatClampNeg)), (0, .ref (adr 63))]) hx hb d_MO_endOf_21 rfl hl (by decide) rfl (fun ls hl => ?_)
        refine lv_goto (tgt := 2) hx hb d_MO_endOf_22 (by decide) ?_
        exact ih _ hf hP hS (lv_sub hl [1, 0] rfl)
set_option maxHeartbeats 4000000 in
set_option maxRecDepth 100000 in
theorem w_MO_endOf (x1 : Int32)  (C : Cx prog_7_method_13_code 3 "LakeReliefModel" (Option.some Jvm.ClassFile.FieldType.int) p s m args meth c) (hG : Geo D adr cA s) {res : Int32} (hf : f_MO_endOf ν x1 = some res) (hq : ∀ (pc : Nat) (ls : Array Slot) (H : Heap) (locs : List Loc), decode prog_7_method_13_code pc = .ok (.ireturn, 1) → va_P D cls (wld adr cA μ ν) H → va_S (AA adr) s.heap H locs → W p l e rm_MO_endOf s m args below meth c H locs 0 0 Q (F0 m pc ls [.int res])) {H : Heap} {locs : List Loc} {ls : Array Slot} (hP : va_P D cls (wld adr cA μ ν) H) (hS : va_S (AA adr) s.heap H locs) (hl : lv_has ls 3 [(0, .ref (adr 63)), (1, .int x1)]) : W p l e rm_MO_endOf s m args below meth c H locs 0 0 Q (F0 m 0 ls []) := by
  obtain ⟨hx, hb, hml, hown, hts, hr, hlocks⟩ := id C
  unfold f_MO_endOf at hf
  refine lv_iload_n hx hb d_MO_endOf_0 rfl (lv_at hl 1 rfl) ?_
  refine lv_istore_n (lv' := [(2, .int x1), (0, .ref (adr 63)), (1, .int x1)]) hx hb d_MO_endOf_1 rfl hl (by decide) rfl (fun ls hl => ?_)
  replace hf := B_some hf
  obtain ⟨v3, hv3, hf⟩ := hf
  refine w_MO_endOf_L2   C hG v3 ?_ FU _ hv3 hP hS (lv_sub hl [1, 0] rfl)
  clear hv3 hP hS hl
  intro H locs ls hP hS hl
  refine lv_aload_n hx hb d_MO_endOf_25 rfl (lv_at hl 0 rfl) ?_
  refine g_MO_down hx hb hts hown hG hP (hts _ in_569) d_MO_endOf_26 ?_
  refine lv_iload_n hx hb d_MO_endOf_29 rfl (lv_at hl 1 rfl) ?_
  replace hf := G_some hf
  obtain ⟨hi4, hf⟩ := hf
  refine r_iald hx hb hG hP 69 64 (f := ν.1 69) (by decide) (wc_M (by decide) rfl) hi4 d_MO_endOf_30 ?_
  refine lv_bipush (v := (-5)) hx hb d_MO_endOf_31 (by decide) ?_
  refine lv_icmp_ne (tgt := 41) hx hb d_MO_endOf_33 (by decide) (fun hc => ?_) (fun hc => ?_)
  · replace hf := if_n hc hf
    refine lv_iload_n hx hb d_MO_endOf_41 rfl (lv_at hl 1 rfl) ?_
    obtain rfl := Option.some.inj hf
    exact hq _ _ _ _ d_MO_endOf_42 hP hS
  · replace hf := if_p hc hf
    refine lv_bipush (v := (-5)) hx hb d_MO_endOf_36 (by decide) ?_
    refine lv_goto (tgt := 42) hx hb d_MO_endOf_38 (by decide) ?_
    obtain rfl := Option.some.inj hf
    exact hq _ _ _ _ d_MO_endOf_42 hP hS
theorem c_MO_endOf (l : Launch) (D : va_G) (adr : Nat → Nat) (cA : Nat → ClassId) (μ ν : Mem) (x1 : Int32)  {res : Int32} (hf : f_MO_endOf ν x1 = some res) : Met l y_MO_endOf (Cond.code y_MO_endOf prog_7_method_13_code 3 (Option.some Jvm.ClassFile.FieldType.int) :: lw_ok) rm_MO_endOf (va_Pc [.ref (adr 63), .int x1] (Wd D adr cA μ ν)) (QI D adr cA res μ ν) 0 0 (AA adr) :=
  met_of (own := "LakeReliefModel") rfl rfl (Nat.le_of_ble_eq_true rfl) (fun p e s m below meth c C hG hP hS ls hl => w_MO_endOf x1  C hG hf (fun pc ls H locs hd hP hS => ret_i C.1 C.2.1 C.2.2.2.2.2.1 C.2.2.2.2.2.2 hG hd hP hS) hP hS hl)
end X_MO_endOf
section X_MO_layFill
variable {p : Program} {l : Launch} {e : Env} {s : State} {m : MethodId} {args : Array Value} {below : List Frame} {meth : Method} {c : Code} {Q : State → Prop}
variable {D : va_G} {adr : Nat → Nat} {cA : Nat → ClassId} {μ ν : Mem}
theorem d_MO_layFill_0 : decode prog_7_method_14_code 0 = .ok (.iconst 0, 1) := by decide +kernel
theorem d_MO_layFill_1 : decode prog_7_method_14_code 1 = .ok (.istore_n 1, 1) := by decide +kernel
theorem d_MO_layFill_2 : decode prog_7_method_14_code 2 = .ok (.iload_n 1, 1) := by decide +kernel
theorem d_MO_layFill_3 : decode prog_7_method_14_code 3 = .ok (.aload_n 0, 1) := by decide +kernel
theorem d_MO_layFill_4 : decode prog_7_method_14_code 4 = .ok (.getfield 102, 3) := by decide +kernel
theorem d_MO_layFill_7 : decode prog_7_method_14_code 7 = .ok (.if_icmp .ge 17, 3) := by decide +kernel
theorem d_MO_layFill_10 : decode prog_7_method_14_code 10 = .ok (.aload_n 0, 1) := by decide +kernel
theorem d_MO_layFill_11 : decode prog_7_method_14_code 11 = .ok (.getfield 32, 3) := by decide +kernel
theorem d_MO_layFill_14 : decode prog_7_method_14_code 14 = .ok (.iload_n 1, 1) := by decide +kernel
theorem d_MO_layFill_15 : decode prog_7_method_14_code 15 = .ok (.ldc 115, 2) := by decide +kernel
theorem d_MO_layFill_17 : decode prog_7_method_14_code 17 = .ok (.iastore, 1) := by decide +kernel
theorem d_MO_layFill_18 : decode prog_7_method_14_code 18 = .ok (.iinc 1 1, 3) := by decide +kernel
theorem d_MO_layFill_21 : decode prog_7_method_14_code 21 = .ok (.goto (-19), 3) := by decide +kernel
theorem d_MO_layFill_24 : decode prog_7_method_14_code 24 = .ok (.iconst 1, 1) := by decide +kernel
theorem d_MO_layFill_25 : decode prog_7_method_14_code 25 = .ok (.istore_n 1, 1) := by decide +kernel
theorem d_MO_layFill_26 : decode prog_7_method_14_code 26 = .ok (.iload_n 1, 1) := by decide +kernel
theorem d_MO_layFill_27 : decode prog_7_method_14_code 27 = .ok (.ifCond .eq 156, 3) := by decide +kernel
theorem d_MO_layFill_30 : decode prog_7_method_14_code 30 = .ok (.iconst 0, 1) := by decide +kernel
theorem d_MO_layFill_31 : decode prog_7_method_14_code 31 = .ok (.istore_n 1, 1) := by decide +kernel
theorem d_MO_layFill_32 : decode prog_7_method_14_code 32 = .ok (.iconst 0, 1) := by decide +kernel
theorem d_MO_layFill_33 : decode prog_7_method_14_code 33 = .ok (.istore_n 2, 1) := by decide +kernel
theorem d_MO_layFill_34 : decode prog_7_method_14_code 34 = .ok (.iload_n 2, 1) := by decide +kernel
theorem d_MO_layFill_35 : decode prog_7_method_14_code 35 = .ok (.aload_n 0, 1) := by decide +kernel
theorem d_MO_layFill_36 : decode prog_7_method_14_code 36 = .ok (.getfield 102, 3) := by decide +kernel
theorem d_MO_layFill_39 : decode prog_7_method_14_code 39 = .ok (.if_icmp .ge 141, 3) := by decide +kernel
theorem d_MO_layFill_42 : decode prog_7_method_14_code 42 = .ok (.aload_n 0, 1) := by decide +kernel
theorem d_MO_layFill_43 : decode prog_7_method_14_code 43 = .ok (.getfield 32, 3) := by decide +kernel
theorem d_MO_layFill_46 : decode prog_7_method_14_code 46 = .ok (.iload_n 2, 1) := by decide +kernel
theorem d_MO_layFill_47 : decode prog_7_method_14_code 47 = .ok (.iaload, 1) := by decide +kernel
theorem d_MO_layFill_48 : decode prog_7_method_14_code 48 = .ok (.istore_n 3, 1) := by decide +kernel
theorem d_MO_layFill_49 : decode prog_7_method_14_code 49 = .ok (.iconst 0, 1) := by decide +kernel
theorem d_MO_layFill_50 : decode prog_7_method_14_code 50 = .ok (.istore 4, 2) := by decide +kernel
theorem d_MO_layFill_52 : decode prog_7_method_14_code 52 = .ok (.iload 4, 2) := by decide +kernel
theorem d_MO_layFill_54 : decode prog_7_method_14_code 54 = .ok (.iconst 4, 1) := by decide +kernel
theorem d_MO_layFill_55 : decode prog_7_method_14_code 55 = .ok (.if_icmp .ge 92, 3) := by decide +kernel
theorem d_MO_layFill_58 : decode prog_7_method_14_code 58 = .ok (.aload_n 0, 1) := by decide +kernel
theorem d_MO_layFill_59 : decode prog_7_method_14_code 59 = .ok (.getfield 19, 3) := by decide +kernel
theorem d_MO_layFill_62 : decode prog_7_method_14_code 62 = .ok (.iload_n 2, 1) := by decide +kernel
theorem d_MO_layFill_63 : decode prog_7_method_14_code 63 = .ok (.baload, 1) := by decide +kernel
theorem d_MO_layFill_64 : decode prog_7_method_14_code 64 = .ok (.ifCond .ne 83, 3) := by decide +kernel
theorem d_MO_layFill_67 : decode prog_7_method_14_code 67 = .ok (.aload_n 0, 1) := by decide +kernel
theorem d_MO_layFill_68 : decode prog_7_method_14_code 68 = .ok (.iload_n 2, 1) := by decide +kernel
theorem d_MO_layFill_69 : decode prog_7_method_14_code 69 = .ok (.iload 4, 2) := by decide +kernel
theorem d_MO_layFill_71 : decode prog_7_method_14_code 71 = .ok (.invokevirtual 105, 3) := by decide +kernel
theorem d_MO_layFill_74 : decode prog_7_method_14_code 74 = .ok (.istore 5, 2) := by decide +kernel
theorem d_MO_layFill_76 : decode prog_7_method_14_code 76 = .ok (.aload_n 0, 1) := by decide +kernel
theorem d_MO_layFill_77 : decode prog_7_method_14_code 77 = .ok (.iload 5, 2) := by decide +kernel
theorem d_MO_layFill_79 : decode prog_7_method_14_code 79 = .ok (.invokevirtual 108, 3) := by decide +kernel
theorem d_MO_layFill_82 : decode prog_7_method_14_code 82 = .ok (.ifCond .eq 12, 3) := by decide +kernel
theorem d_MO_layFill_85 : decode prog_7_method_14_code 85 = .ok (.aload_n 0, 1) := by decide +kernel
theorem d_MO_layFill_86 : decode prog_7_method_14_code 86 = .ok (.getfield 23, 3) := by decide +kernel
theorem d_MO_layFill_89 : decode prog_7_method_14_code 89 = .ok (.iload_n 2, 1) := by decide +kernel
theorem d_MO_layFill_90 : decode prog_7_method_14_code 90 = .ok (.iaload, 1) := by decide +kernel
theorem d_MO_layFill_91 : decode prog_7_method_14_code 91 = .ok (.goto 35, 3) := by decide +kernel
theorem d_MO_layFill_94 : decode prog_7_method_14_code 94 = .ok (.aload_n 0, 1) := by decide +kernel
theorem d_MO_layFill_95 : decode prog_7_method_14_code 95 = .ok (.getfield 32, 3) := by decide +kernel
theorem d_MO_layFill_98 : decode prog_7_method_14_code 98 = .ok (.iload 5, 2) := by decide +kernel
theorem d_MO_layFill_100 : decode prog_7_method_14_code 100 = .ok (.iaload, 1) := by decide +kernel
theorem d_MO_layFill_101 : decode prog_7_method_14_code 101 = .ok (.aload_n 0, 1) := by decide +kernel
theorem d_MO_layFill_102 : decode prog_7_method_14_code 102 = .ok (.getfield 23, 3) := by decide +kernel
theorem d_MO_layFill_105 : decode prog_7_method_14_code 105 = .ok (.iload_n 2, 1) := by decide +kernel
theorem d_MO_layFill_106 : decode prog_7_method_14_code 106 = .ok (.iaload, 1) := by decide +kernel
theorem d_MO_layFill_107 : decode prog_7_method_14_code 107 = .ok (.if_icmp .le 13, 3) := by decide +kernel
theorem d_MO_layFill_110 : decode prog_7_method_14_code 110 = .ok (.aload_n 0, 1) := by decide +kernel
theorem d_MO_layFill_111 : decode prog_7_method_14_code 111 = .ok (.getfield 32, 3) := by decide +kernel
theorem d_MO_layFill_114 : decode prog_7_method_14_code 114 = .ok (.iload 5, 2) := by decide +kernel
theorem d_MO_layFill_116 : decode prog_7_method_14_code 116 = .ok (.iaload, 1) := by decide +kernel
theorem d_MO_layFill_117 : decode prog_7_method_14_code 117 = .ok (.goto 9, 3) := by decide +kernel
theorem d_MO_layFill_120 : decode prog_7_method_14_code 120 = .ok (.aload_n 0, 1) := by decide +kernel
theorem d_MO_layFill_121 : decode prog_7_method_14_code 121 = .ok (.getfield 23, 3) := by decide +kernel
theorem d_MO_layFill_124 : decode prog_7_method_14_code 124 = .ok (.iload_n 2, 1) := by decide +kernel
theorem d_MO_layFill_125 : decode prog_7_method_14_code 125 = .ok (.iaload, 1) := by decide +kernel
theorem d_MO_layFill_126 : decode prog_7_method_14_code 126 = .ok (.istore 6, 2) := by decide +kernel
theorem d_MO_layFill_128 : decode prog_7_method_14_code 128 = .ok (.iload 6, 2) := by decide +kernel
theorem d_MO_layFill_130 : decode prog_7_method_14_code 130 = .ok (.iload_n 3, 1) := by decide +kernel
theorem d_MO_layFill_131 : decode prog_7_method_14_code 131 = .ok (.if_icmp .ge 8, 3) := by decide +kernel
theorem d_MO_layFill_134 : decode prog_7_method_14_code 134 = .ok (.iload 6, 2) := by decide +kernel
theorem d_MO_layFill_136 : decode prog_7_method_14_code 136 = .ok (.goto 4, 3) := by decide +kernel
theorem d_MO_layFill_139 : decode prog_7_method_14_code 139 = .ok (.iload_n 3, 1) := by decide +kernel
theorem d_MO_layFill_140 : decode prog_7_method_14_code 140 = .ok (.istore_n 3, 1) := by decide +kernel
theorem d_MO_layFill_141 : decode prog_7_method_14_code 141 = .ok (.iinc 4 1, 3) := by decide +kernel
theorem d_MO_layFill_144 : decode prog_7_method_14_code 144 = .ok (.goto (-92), 3) := by decide +kernel
theorem d_MO_layFill_147 : decode prog_7_method_14_code 147 = .ok (.iload_n 1, 1) := by decide +kernel
theorem d_MO_layFill_148 : decode prog_7_method_14_code 148 = .ok (.ifCond .ne 13, 3) := by decide +kernel
theorem d_MO_layFill_151 : decode prog_7_method_14_code 151 = .ok (.iload_n 3, 1) := by decide +kernel
theorem d_MO_layFill_152 : decode prog_7_method_14_code 152 = .ok (.aload_n 0, 1) := by decide +kernel
theorem d_MO_layFill_153 : decode prog_7_method_14_code 153 = .ok (.getfield 32, 3) := by decide +kernel
theorem d_MO_layFill_156 : decode prog_7_method_14_code 156 = .ok (.iload_n 2, 1) := by decide +kernel
theorem d_MO_layFill_157 : decode prog_7_method_14_code 157 = .ok (.iaload, 1) := by decide +kernel
theorem d_MO_layFill_158 : decode prog_7_method_14_code 158 = .ok (.if_icmp .ge 7, 3) := by decide +kernel
theorem d_MO_layFill_161 : decode prog_7_method_14_code 161 = .ok (.iconst 1, 1) := by decide +kernel
theorem d_MO_layFill_162 : decode prog_7_method_14_code 162 = .ok (.goto 4, 3) := by decide +kernel
theorem d_MO_layFill_165 : decode prog_7_method_14_code 165 = .ok (.iconst 0, 1) := by decide +kernel
theorem d_MO_layFill_166 : decode prog_7_method_14_code 166 = .ok (.istore_n 1, 1) := by decide +kernel
theorem d_MO_layFill_167 : decode prog_7_method_14_code 167 = .ok (.aload_n 0, 1) := by decide +kernel
theorem d_MO_layFill_168 : decode prog_7_method_14_code 168 = .ok (.getfield 32, 3) := by decide +kernel
theorem d_MO_layFill_171 : decode prog_7_method_14_code 171 = .ok (.iload_n 2, 1) := by decide +kernel
theorem d_MO_layFill_172 : decode prog_7_method_14_code 172 = .ok (.iload_n 3, 1) := by decide +kernel
theorem d_MO_layFill_173 : decode prog_7_method_14_code 173 = .ok (.iastore, 1) := by decide +kernel
theorem d_MO_layFill_174 : decode prog_7_method_14_code 174 = .ok (.iinc 2 1, 3) := by decide +kernel
theorem d_MO_layFill_177 : decode prog_7_method_14_code 177 = .ok (.goto (-143), 3) := by decide +kernel
theorem d_MO_layFill_180 : decode prog_7_method_14_code 180 = .ok (.goto (-154), 3) := by decide +kernel
theorem d_MO_layFill_183 : decode prog_7_method_14_code 183 = .ok (.return_, 1) := by decide +kernel
set_option maxHeartbeats 4000000 in
set_option maxRecDepth 100000 in
theorem w_MO_layFill_L2   (C : Cx prog_7_method_14_code 7 "LakeReliefModel" (Option.none : Option Jvm.ClassFile.FieldType) p s m args meth c) (hG : Geo D adr cA s) (v : Mem) (hE : ∀ (H : Heap) (locs : List Loc) (ls : Array Slot), va_P D cls (wld adr cA μ v) H → va_S (AA adr) s.heap H locs → lv_has ls 7 [(0, .ref (adr 63))] → W p l e rm_MO_layFill s m args below meth c H locs 0 0 Q (F0 m 24 ls [])) : ∀ (n : Nat) (ν : Mem) (y1 : Int32), f_MO_layFill_L2 n ν y1 = some v → ∀ {H : Heap} {locs : List Loc} {ls : Array Slot}, va_P D cls (wld adr cA μ ν) H → va_S (AA adr) s.heap H locs → lv_has ls 7 [(0, .ref (adr 63)), (1, .int y1)] → W p l e rm_MO_layFill s m args below meth c H locs 0 0 Q (F0 m 2 ls []) := by
  obtain ⟨hx, hb, hml, hown, hts, hr, hlocks⟩ := id C
  intro n
  induction n with
  | zero => intro ν y1 hf; rw [f_MO_layFill_L2.eq_1] at hf; cases hf
  | succ n ih =>
    intro ν y1 hf H locs ls hP hS hl
    rw [f_MO_layFill_L2.eq_2] at hf
    refine lv_iload_n hx hb d_MO_layFill_2 rfl (lv_at hl 1 rfl) ?_
    refine lv_aload_n hx hb d_MO_layFill_3 rfl (lv_at hl 0 rfl) ?_
    refine g_MO_fields hx hb hts hown hG hP (hts _ in_566) d_MO_layFill_4 ?_
    refine lv_icmp_ge (tgt := 24) hx hb d_MO_layFill_7 (by decide) (fun hc => ?_) (fun hc => ?_)
    · replace hf := if_p hc hf
      obtain rfl := Option.some.inj hf
      exact hE _ _ _ hP hS (lv_sub hl [0] rfl)
    · replace hf := if_n hc hf
      refine lv_aload_n hx hb d_MO_layFill_10 rfl (lv_at hl 0 rfl) ?_
      refine g_MO_fill hx hb hts hown hG hP (hts _ in_571) d_MO_layFill_11 ?_
      refine lv_iload_n hx hb d_MO_layFill_14 rfl (lv_at hl 1 rfl) ?_
      refine lv_ldc (v := 3000000) hx hb hown (hts _ in_720) d_MO_layFill_15 ?_
      replace hf := G_some hf
      obtain ⟨hi1, hf⟩ := hf
      refine rM_iast hx hb hG hP hS 71 64 (by decide) (by decide) (fun _ _ => rfl) hi1 d_MO_layFill_17 (fun H locs hP hS => ?_)
      refine lv_iinc (v := (y1 + 1)) (lv' := [(1, .int (y1 + 1)), (0, .ref (adr 63))]) hx hb d_MO_layFill_18 hl (k := 1) rfl rfl (by decide) rfl (fun ls hl => ?_)
      refine lv_goto (tgt := 2) hx hb d_MO_layFill_21 (by decide) ?_
      exact ih _ _ hf hP hS (lv_sub hl [1, 0] rfl)
set_option maxHeartbeats 4000000 in
set_option maxRecDepth 100000 in
theorem w_MO_layFill_L52 (y1 : Int32) (y2 : Int32)  (C : Cx prog_7_method_14_code 7 "LakeReliefModel" (Option.none : Option Jvm.ClassFile.FieldType) p s m args meth c) (hG : Geo D adr cA s) (v : Int32) (hE : ∀ (H : Heap) (locs : List Loc) (ls : Array Slot), va_P D cls (wld adr cA μ ν) H → va_S (AA adr) s.heap H locs → lv_has ls 7 [(0, .ref (adr 63)), (1, .int y1), (2, .int y2), (3, .int v)] → W p l e rm_MO_layFill s m args below meth c H locs 0 0 Q (F0 m 147 ls [])) : ∀ (n : Nat) (y3 : Int32) (y4 : Int32), f_MO_layFill_L52 ν y1 y2 n y3 y4 = some v → ∀ {H : Heap} {locs : List Loc} {ls : Array Slot}, va_P D cls (wld adr cA μ ν) H → va_S (AA adr) s.heap H locs → lv_has ls 7 [(0, .ref (adr 63)), (1, .int y1), (2, .int y2), (3, .int y3), (4, .int y4)] → W p l e rm_MO_layFill s m args below meth c H locs 0 0 Q (F0 m 52 ls []) := by
  obtain ⟨hx, hb, hml, hown, hts, hr, hlocks⟩ := id C
  intro n
  induction n with
  | zero => intro y3 y4 hf; rw [f_MO_layFill_L52.eq_1] at hf; cases hf
  | succ n ih =>
    intro y3 y4 hf H locs ls hP hS hl
    rw [f_MO_layFill_L52.eq_2] at hf
    refine lv_iload hx hb d_MO_layFill_52 (lv_at hl 4 rfl) ?_
    refine lv_iconst (v := 4) hx hb d_MO_layFill_54 (by decide) ?_
    refine lv_icmp_ge (tgt := 147) hx hb d_MO_layFill_55 (by decide) (fun hc => ?_) (fun hc => ?_)
    · replace hf := if_p hc hf
      obtain rfl := Option.some.inj hf
      exact hE _ _ _ hP hS (lv_sub hl [0, 1, 2, 3] rfl)
    · replace hf := if_n hc hf
      refine lv_aload_n hx hb d_MO_layFill_58 rfl (lv_at hl 0 rfl) ?_
      refine g_MO_isSea hx hb hts hown hG hP (hts _ in_567) d_MO_layFill_59 ?_
      refine lv_iload_n hx hb d_MO_layFill_62 rfl (lv_at hl 2 rfl) ?_
      replace hf := G_some hf
      obtain ⟨hi4, hf⟩ := hf
      refine r_zald hx hb hG hP 67 64 (f := ν.1 67) (by decide) (wc_M (by decide) rfl) hi4 d_MO_layFill_63 ?_
      refine lv_if_ne (tgt := 147) hx hb d_MO_layFill_64 (by decide) (fun hc => ?_) (fun hc => ?_)
      · replace hf := if_n hc hf
        obtain rfl := Option.some.inj hf
        exact hE _ _ _ hP hS (lv_sub hl [0, 1, 2, 3] rfl)
      · replace hf := if_p hc hf
        refine lv_aload_n hx hb d_MO_layFill_67 rfl (lv_at hl 0 rfl) ?_
        refine lv_iload_n hx hb d_MO_layFill_68 rfl (lv_at hl 2 rfl) ?_
        refine lv_iload hx hb d_MO_layFill_69 (lv_at hl 4 rfl) ?_
        replace hf := B_some hf
        obtain ⟨v5, hv5, hf⟩ := hf
        refine ki (kv (As := [.int y2, .int y4]) (rest := []) ⟨hx, hb, hml, hown, hts⟩ (cw_MO_105 hts ⟨Nat.le_of_ble_eq_true rfl, Nat.le_of_ble_eq_true rfl⟩) (c_MO_beside l D adr cA μ ν y2 y4 hv5) hG hP (rc_o (q := 63) (ci := 5) hG hP (by decide) (wc_M (by decide) rfl) rfl) rfl hl.1 (Nat.le_of_ble_eq_true rfl) d_MO_layFill_71) hS (fun H locs hP hS => ?_)
        refine lv_istore (lv' := [(5, .int v5), (0, .ref (adr 63)), (1, .int y1), (2, .int y2), (3, .int y3), (4, .int y4)]) hx hb d_MO_layFill_74 hl (by decide) rfl (fun ls hl => ?_)
        refine lv_aload_n hx hb d_MO_layFill_76 rfl (lv_at hl 1 rfl) ?_
        refine lv_iload hx hb d_MO_layFill_77 (lv_at hl 0 rfl) ?_
        replace hf := B_some hf
        obtain ⟨v6, hv6, hf⟩ := hf
        refine ki (kv (As := [.int v5]) (rest := []) ⟨hx, hb, hml, hown, hts⟩ (cw_MO_108 hts ⟨Nat.le_of_ble_eq_true rfl, Nat.le_of_ble_eq_true rfl⟩) (c_MO_isWet l D adr cA μ ν v5 hv6) hG hP (rc_o (q := 63) (ci := 5) hG hP (by decide) (wc_M (by decide) rfl) rfl) rfl hl.1 (Nat.le_of_ble_eq_true rfl) d_MO_layFill_79) hS (fun H locs hP hS => ?_)
        replace hf := B_some hf
        obtain ⟨v7, hv7, hf⟩ := hf
        have hJ : ∀ (H : Heap) (locs : List Loc) (ls : Array Slot), va_P D cls (wld adr cA μ ν) H → va_S (AA adr) s.heap H locs → lv_has ls 7 [(0, .ref (adr 63)), (1, .int y1), (2, .int y2), (3, .int y3), (4, .int y4)] → W p l e rm_MO_layFill s m args below meth c H locs 0 0 Q (F0 m 126 ls [.int v7]) := by
          clear hv7
          intro H locs ls hP hS hl
          refine lv_istore (lv' := [(6, .int v7), (0, .ref (adr 63)), (1, .int y1), (2, .int y2), (3, .int y3), (4, .int y4)]) hx hb d_MO_layFill_126 hl (by decide) rfl (fun ls hl => ?_)
          refine lv_iload hx hb d_MO_layFill_128 (lv_at hl 0 rfl) ?_
          refine lv_iload_n hx hb d_MO_layFill_130 rfl (lv_at hl 4 rfl) ?_
          replace hf := B_some hf
          obtain ⟨v13, hv13, hf⟩ := hf
          have hJ : ∀ (H : Heap) (locs : List Loc) (ls : Array Slot), va_P D cls (wld adr cA μ ν) H → va_S (AA adr) s.heap H locs → lv_has ls 7 [(0, .ref (adr 63)), (1, .int y1), (2, .int y2), (4, .int y4)] → W p l e rm_MO_layFill s m args below meth c H locs 0 0 Q (F0 m 140 ls [.int v13]) := by
            clear hv13
            intro H locs ls hP hS hl
            refine lv_istore_n (lv' := [(3, .int v13), (0, .ref (adr 63)), (1, .int y1), (2, .int y2), (4, .int y4)]) hx hb d_MO_layFill_140 rfl hl (by decide) rfl (fun ls hl => ?_)
            refine lv_iinc (v := (y4 + 1)) (lv' := [(4, .int (y4 + 1)), (3, .int v13), (0, .ref (adr 63)), (1, .int y1), (2, .int y2)]) hx hb d_MO_layFill_141 hl (k := 4) rfl rfl (by decide) rfl (fun ls hl => ?_)
            refine lv_goto (tgt := 52) hx hb d_MO_layFill_144 (by decide) ?_
            exact ih _ _ hf hP hS (lv_sub hl [2, 3, 4, 1, 0] rfl)
          clear hf
          have hf := hv13
          clear hv13
          refine lv_icmp_ge (tgt := 139) hx hb d_MO_layFill_131 (by decide) (fun hc => ?_) (fun hc => ?_)
          · replace hf := if_p hc hf
            refine lv_iload_n hx hb d_MO_layFill_139 rfl (lv_at hl 4 rfl) ?_
            obtain rfl := Option.some.inj hf
            exact hJ _ _ _ hP hS (lv_sub hl [1, 2, 3, 5] rfl)
          · replace hf := if_n hc hf
            refine lv_iload hx hb d_MO_layFill_134 (lv_at hl 0 rfl) ?_
            refine lv_goto (tgt := 140) hx hb d_MO_layFill_136 (by decide) ?_
            obtain rfl := Option.some.inj hf
            exact hJ _ _ _ hP hS (lv_sub hl [1, 2, 3, 5] rfl)
        clear hf
        have hf := hv7
        clear hv7
        refine lv_if_eq (tgt := 94) hx hb d_MO_layFill_82 (by decide) (fun hc => ?_) (fun hc => ?_)
        · replace hf := if_p hc hf
          refine lv_aload_n hx hb d_MO_layFill_94 rfl (lv_at hl 1 rfl) ?_
          refine g_MO_fill hx hb hts hown hG hP (hts _ in_571) d_MO_layFill_95 ?_
          refine lv_iload hx hb d_MO_layFill_98 (lv_at hl 0 rfl) ?_
          replace hf := G_some hf
          obtain ⟨hi8, hf⟩ := hf
          refine r_iald hx hb hG hP 71 64 (f := ν.1 71) (by decide) (wc_M (by decide) rfl) hi8 d_MO_layFill_100 ?_
          refine lv_aload_n hx hb d_MO_layFill_101 rfl (lv_at hl 1 rfl) ?_
          refine g_MO_height hx hb hts hown hG hP (hts _ in_568) d_MO_layFill_102 ?_
          refine lv_iload_n hx hb d_MO_layFill_105 rfl (lv_at hl 3 rfl) ?_
          replace hf := G_some hf
          obtain ⟨hi9, hf⟩ := hf
          refine r_iald hx hb hG hP 68 64 (f := ν.1 68) (by decide) (wc_M (by decide) rfl) hi9 d_MO_layFill_106 ?_
          refine lv_icmp_le (tgt := 120) hx hb d_MO_layFill_107 (by decide) (fun hc => ?_) (fun hc => ?_)
          · replace hf := if_p hc hf
            refine lv_aload_n hx hb d_MO_layFill_120 rfl (lv_at hl 1 rfl) ?_
            refine g_MO_height hx hb hts hown hG hP (hts _ in_568) d_MO_layFill_121 ?_
            refine lv_iload_n hx hb d_MO_layFill_124 rfl (lv_at hl 3 rfl) ?_
            replace hf := G_some hf
            obtain ⟨hi10, hf⟩ := hf
            refine r_iald hx hb hG hP 68 64 (f := ν.1 68) (by decide) (wc_M (by decide) rfl) hi10 d_MO_layFill_125 ?_
            obtain rfl := Option.some.inj hf
            exact hJ _ _ _ hP hS (lv_sub hl [1, 2, 3, 4, 5] rfl)
          · replace hf := if_n hc hf
            refine lv_aload_n hx hb d_MO_layFill_110 rfl (lv_at hl 1 rfl) ?_
            refine g_MO_fill hx hb hts hown hG hP (hts _ in_571) d_MO_layFill_111 ?_
            refine lv_iload hx hb d_MO_layFill_114 (lv_at hl 0 rfl) ?_
            replace hf := G_some hf
            obtain ⟨hi11, hf⟩ := hf
            refine r_iald hx hb hG hP 71 64 (f := ν.1 71) (by decide) (wc_M (by decide) rfl) hi11 d_MO_layFill_116 ?_
            refine lv_goto (tgt := 126) hx hb d_MO_layFill_117 (by decide) ?_
            obtain rfl := Option.some.inj hf
            exact hJ _ _ _ hP hS (lv_sub hl [1, 2, 3, 4, 5] rfl)
        · replace hf := if_n hc hf
          refine lv_aload_n hx hb d_MO_layFill_85 rfl (lv_at hl 1 rfl) ?_
          refine g_MO_height hx hb hts hown hG hP (hts _ in_568) d_MO_layFill_86 ?_
          refine lv_iload_n hx hb d_MO_layFill_89 rfl (lv_at hl 3 rfl) ?_
          replace hf := G_some hf
          obtain ⟨hi12, hf⟩ := hf
          refine r_iald hx hb hG hP 68 64 (f := ν.1 68) (by decide) (wc_M (by decide) rfl) hi12 d_MO_layFill_90 ?_
          refine lv_goto (tgt := 126) hx hb d_MO_layFill_91 (by decide) ?_
          obtain rfl := Option.some.inj hf
          exact hJ _ _ _ hP hS (lv_sub hl [1, 2, 3, 4, 5] rfl)
set_option maxHeartbeats 4000000 in
set_option maxRecDepth 100000 in
theorem w_MO_layFill_L34   (C : Cx prog_7_method_14_code 7 "LakeReliefModel" (Option.none : Option Jvm.ClassFile.FieldType) p s m args meth c) (hG : Geo D adr cA s) (v : Int32 × Mem) (hE : ∀ (H : Heap) (locs : List Loc) (ls : Array Slot), va_P D cls (wld adr cA μ v.2) H → va_S (AA adr) s.heap H locs → lv_has ls 7 [(0, .ref (adr 63)), (1, .int v.1)] → W p l e rm_MO_layFill s m args below meth c H locs 0 0 Q (F0 m 180 ls [])) : ∀ (n : Nat) (ν : Mem) (y1 : Int32) (y2 : Int32), f_MO_layFill_L34 n ν y1 y2 = some v → ∀ {H : Heap} {locs : List Loc} {ls : Array Slot}, va_P D cls (wld adr cA μ ν) H → va_S (AA adr) s.heap H locs → lv_has ls 7 [(0, .ref (adr 63)), (1, .int y1), (2, .int y2)] → W p l e rm_MO_layFill s m args below meth c H locs 0 0 Q (F0 m 34 ls []) := by
  obtain ⟨hx, hb, hml, hown, hts, hr, hlocks⟩ := id C
  intro n
  induction n with
  | zero => intro ν y1 y2 hf; rw [f_MO_layFill_L34.eq_1] at hf; cases hf
  | succ n ih =>
    intro ν y1 y2 hf H locs ls hP hS hl
    rw [f_MO_layFill_L34.eq_2] at hf
    refine lv_iload_n hx hb d_MO_layFill_34 rfl (lv_at hl 2 rfl) ?_
    refine lv_aload_n hx hb d_MO_layFill_35 rfl (lv_at hl 0 rfl) ?_
    refine g_MO_fields hx hb hts hown hG hP (hts _ in_566) d_MO_layFill_36 ?_
    refine lv_icmp_ge (tgt := 180) hx hb d_MO_layFill_39 (by decide) (fun hc => ?_) (fun hc => ?_)
    · replace hf := if_p hc hf
      obtain rfl := Option.some.inj hf
      exact hE _ _ _ hP hS (lv_sub hl [0, 1] rfl)
    · replace hf := if_n hc hf
      refine lv_aload_n hx hb d_MO_layFill_42 rfl (lv_at hl 0 rfl) ?_
      refine g_MO_fill hx hb hts hown hG hP (hts _ in_571) d_MO_layFill_43 ?_
      refine lv_iload_n hx hb d_MO_layFill_46 rfl (lv_at hl 2 rfl) ?_
      replace hf := G_some hf
      obtain ⟨hi3, hf⟩ := hf
      refine r_iald hx hb hG hP 71 64 (f := ν.1 71) (by decide) (wc_M (by decide) rfl) hi3 d_MO_layFill_47 ?_
      refine lv_istore_n (lv' := [(3, .int (ν.1 71 y2.toNatClampNeg)), (0, .ref (adr 63)), (1, .int y1), (2, .int y2)]) hx hb d_MO_layFill_48 rfl hl (by decide) rfl (fun ls hl => ?_)
      refine lv_iconst (v := 0) hx hb d_MO_layFill_49 (by decide) ?_
      refine lv_istore (lv' := [(4, .int 0), (3, .int (ν.1 71 y2.toNatClampNeg)), (0, .ref (adr 63)), (1, .int y1), (2, .int y2)]) hx hb d_MO_layFill_50 hl (by decide) rfl (fun ls hl => ?_)
      replace hf := B_some hf
      obtain ⟨v14, hv14, hf⟩ := hf
      refine w_MO_layFill_L52 y1 y2  C hG v14 ?_ FU _ _ hv14 hP hS (lv_sub hl [2, 3, 4, 1, 0] rfl)
      clear hv14 hP hS hl
      intro H locs ls hP hS hl
      refine lv_iload_n hx hb d_MO_layFill_147 rfl (lv_at hl 1 rfl) ?_
      replace hf := B_some hf
      obtain ⟨v15, hv15, hf⟩ := hf
      have hJ : ∀ (H : Heap) (locs : List Loc) (ls : Array Slot), va_P D cls (wld adr cA μ ν) H → va_S (AA adr) s.heap H locs → lv_has ls 7 [(0, .ref (adr 63)), (2, .int y2), (3, .int v14)] → W p l e rm_MO_layFill s m args below meth c H locs 0 0 Q (F0 m 166 ls [.int v15]) := by
        clear hv15
        intro H locs ls hP hS hl
        refine lv_istore_n (lv' := [(1, .int v15), (0, .ref (adr 63)), (2, .int y2), (3, .int v14)]) hx hb d_MO_layFill_166 rfl hl (by decide) rfl (fun ls hl => ?_)
        refine lv_aload_n hx hb d_MO_layFill_167 rfl (lv_at hl 1 rfl) ?_
        refine g_MO_fill hx hb hts hown hG hP (hts _ in_571) d_MO_layFill_168 ?_
        refine lv_iload_n hx hb d_MO_layFill_171 rfl (lv_at hl 2 rfl) ?_
        refine lv_iload_n hx hb d_MO_layFill_172 rfl (lv_at hl 3 rfl) ?_
        replace hf := G_some hf
        obtain ⟨hi17, hf⟩ := hf
        refine rM_iast hx hb hG hP hS 71 64 (by decide) (by decide) (fun _ _ => rfl) hi17 d_MO_layFill_173 (fun H locs hP hS => ?_)
        refine lv_iinc (v := (y2 + 1)) (lv' := [(2, .int (y2 + 1)), (1, .int v15), (0, .ref (adr 63)), (3, .int v14)]) hx hb d_MO_layFill_174 hl (k := 2) rfl rfl (by decide) rfl (fun ls hl => ?_)
        refine lv_goto (tgt := 34) hx hb d_MO_layFill_177 (by decide) ?_
        exact ih _ _ _ hf hP hS (lv_sub hl [2, 1, 0] rfl)
      clear hf
      have hf := hv15
      clear hv15
      refine lv_if_ne (tgt := 161) hx hb d_MO_layFill_148 (by decide) (fun hc => ?_) (fun hc => ?_)
      · replace hf := if_n hc hf
        refine lv_iconst (v := 1) hx hb d_MO_layFill_161 (by decide) ?_
        refine lv_goto (tgt := 166) hx hb d_MO_layFill_162 (by decide) ?_
        obtain rfl := Option.some.inj hf
        exact hJ _ _ _ hP hS (lv_sub hl [0, 2, 3] rfl)
      · replace hf := if_p hc hf
        refine lv_iload_n hx hb d_MO_layFill_151 rfl (lv_at hl 3 rfl) ?_
        refine lv_aload_n hx hb d_MO_layFill_152 rfl (lv_at hl 0 rfl) ?_
        refine g_MO_fill hx hb hts hown hG hP (hts _ in_571) d_MO_layFill_153 ?_
        refine lv_iload_n hx hb d_MO_layFill_156 rfl (lv_at hl 2 rfl) ?_
        replace hf := G_some hf
        obtain ⟨hi16, hf⟩ := hf
        refine r_iald hx hb hG hP 71 64 (f := ν.1 71) (by decide) (wc_M (by decide) rfl) hi16 d_MO_layFill_157 ?_
        refine lv_icmp_ge (tgt := 165) hx hb d_MO_layFill_158 (by decide) (fun hc => ?_) (fun hc => ?_)
        · replace hf := if_p hc hf
          refine lv_iconst (v := 0) hx hb d_MO_layFill_165 (by decide) ?_
          obtain rfl := Option.some.inj hf
          exact hJ _ _ _ hP hS (lv_sub hl [0, 2, 3] rfl)
        · replace hf := if_n hc hf
          refine lv_iconst (v := 1) hx hb d_MO_layFill_161 (by decide) ?_
          refine lv_goto (tgt := 166) hx hb d_MO_layFill_162 (by decide) ?_
          obtain rfl := Option.some.inj hf
          exact hJ _ _ _ hP hS (lv_sub hl [0, 2, 3] rfl)
set_option maxHeartbeats 4000000 in
set_option maxRecDepth 100000 in
theorem w_MO_layFill_L26   (C : Cx prog_7_method_14_code 7 "LakeReliefModel" (Option.none : Option Jvm.ClassFile.FieldType) p s m args meth c) (hG : Geo D adr cA s) (v : Mem) (hE : ∀ (H : Heap) (locs : List Loc) (ls : Array Slot), va_P D cls (wld adr cA μ v) H → va_S (AA adr) s.heap H locs → lv_has ls 7 [] → W p l e rm_MO_layFill s m args below meth c H locs 0 0 Q (F0 m 183 ls [])) : ∀ (n : Nat) (ν : Mem) (y1 : Int32), f_MO_layFill_L26 n ν y1 = some v → ∀ {H : Heap} {locs : List Loc} {ls : Array Slot}, va_P D cls (wld adr cA μ ν) H → va_S (AA adr) s.heap H locs → lv_has ls 7 [(0, .ref (adr 63)), (1, .int y1)] → W p l e rm_MO_layFill s m args below meth c H locs 0 0 Q (F0 m 26 ls []) := by
  obtain ⟨hx, hb, hml, hown, hts, hr, hlocks⟩ := id C
  intro n
  induction n with
  | zero => intro ν y1 hf; rw [f_MO_layFill_L26.eq_1] at hf; cases hf
  | succ n ih =>
    intro ν y1 hf H locs ls hP hS hl
    rw [f_MO_layFill_L26.eq_2] at hf
    refine lv_iload_n hx hb d_MO_layFill_26 rfl (lv_at hl 1 rfl) ?_
    refine lv_if_eq (tgt := 183) hx hb d_MO_layFill_27 (by decide) (fun hc => ?_) (fun hc => ?_)
    · replace hf := if_p hc hf
      obtain rfl := Option.some.inj hf
      exact hE _ _ _ hP hS (lv_sub hl [] rfl)
    · replace hf := if_n hc hf
      refine lv_iconst (v := 0) hx hb d_MO_layFill_30 (by decide) ?_
      refine lv_istore_n (lv' := [(1, .int 0), (0, .ref (adr 63))]) hx hb d_MO_layFill_31 rfl hl (by decide) rfl (fun ls hl => ?_)
      refine lv_iconst (v := 0) hx hb d_MO_layFill_32 (by decide) ?_
      refine lv_istore_n (lv' := [(2, .int 0), (1, .int 0), (0, .ref (adr 63))]) hx hb d_MO_layFill_33 rfl hl (by decide) rfl (fun ls hl => ?_)
      replace hf := B_some hf
      obtain ⟨v18, hv18, hf⟩ := hf
      refine w_MO_layFill_L34   C hG v18 ?_ FU _ _ _ hv18 hP hS (lv_sub hl [2, 1, 0] rfl)
      clear hv18 hP hS hl
      intro H locs ls hP hS hl
      refine lv_goto (tgt := 26) hx hb d_MO_layFill_180 (by decide) ?_
      exact ih _ _ hf hP hS (lv_sub hl [0, 1] rfl)
set_option maxHeartbeats 4000000 in
set_option maxRecDepth 100000 in
theorem w_MO_layFill   (C : Cx prog_7_method_14_code 7 "LakeReliefModel" (Option.none : Option Jvm.ClassFile.FieldType) p s m args meth c) (hG : Geo D adr cA s) {res : Mem} (hf : f_MO_layFill ν  = some res) (hq : ∀ (pc : Nat) (ls : Array Slot) (H : Heap) (locs : List Loc), decode prog_7_method_14_code pc = .ok (.return_, 1) → va_P D cls (wld adr cA μ res) H → va_S (AA adr) s.heap H locs → W p l e rm_MO_layFill s m args below meth c H locs 0 0 Q (F0 m pc ls [])) {H : Heap} {locs : List Loc} {ls : Array Slot} (hP : va_P D cls (wld adr cA μ ν) H) (hS : va_S (AA adr) s.heap H locs) (hl : lv_has ls 7 [(0, .ref (adr 63))]) : W p l e rm_MO_layFill s m args below meth c H locs 0 0 Q (F0 m 0 ls []) := by
  obtain ⟨hx, hb, hml, hown, hts, hr, hlocks⟩ := id C
  unfold f_MO_layFill at hf
  refine lv_iconst (v := 0) hx hb d_MO_layFill_0 (by decide) ?_
  refine lv_istore_n (lv' := [(1, .int 0), (0, .ref (adr 63))]) hx hb d_MO_layFill_1 rfl hl (by decide) rfl (fun ls hl => ?_)
  replace hf := B_some hf
  obtain ⟨v2, hv2, hf⟩ := hf
  refine w_MO_layFill_L2   C hG v2 ?_ FU _ _ hv2 hP hS (lv_sub hl [1, 0] rfl)
  clear hv2 hP hS hl
  intro H locs ls hP hS hl
  refine lv_iconst (v := 1) hx hb d_MO_layFill_24 (by decide) ?_
  refine lv_istore_n (lv' := [(1, .int 1), (0, .ref (adr 63))]) hx hb d_MO_layFill_25 rfl hl (by decide) rfl (fun ls hl => ?_)
  replace hf := B_some hf
  obtain ⟨v19, hv19, hf⟩ := hf
  refine w_MO_layFill_L26   C hG v19 ?_ FU _ _ hv19 hP hS (lv_sub hl [1, 0] rfl)
  clear hv19 hP hS hl
  intro H locs ls hP hS hl
  obtain rfl := Option.some.inj hf
  exact hq _ _ _ _ d_MO_layFill_183 hP hS
theorem c_MO_layFill (l : Launch) (D : va_G) (adr : Nat → Nat) (cA : Nat → ClassId) (μ ν : Mem)   {res : Mem} (hf : f_MO_layFill ν  = some res) : Met l y_MO_layFill (Cond.code y_MO_layFill prog_7_method_14_code 7 (Option.none : Option Jvm.ClassFile.FieldType) :: lw_ok) rm_MO_layFill (va_Pc [.ref (adr 63)] (Wd D adr cA μ ν)) (QV D adr cA μ res) 0 0 (AA adr) :=
  met_of (own := "LakeReliefModel") rfl rfl (Nat.le_of_ble_eq_true rfl) (fun p e s m below meth c C hG hP hS ls hl => w_MO_layFill   C hG hf (fun pc ls H locs hd hP hS => ret_v C.1 C.2.1 C.2.2.2.2.2.1 C.2.2.2.2.2.2 hG hd hP hS) hP hS hl)
end X_MO_layFill
