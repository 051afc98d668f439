section X_LR_strip
variable {p : Program} {l : Launch} {e : Env} {s : State} {m : MethodId} {args : Array Value} {below : List Frame} {meth : Method} {c : Code} {Q : State → Prop}
variable {D : va_G} {adr : Nat → Nat} {cA : Nat → ClassId} {μ ν : Mem}
theorem d_LR_strip_0 : decode prog_1_method_2_code 0 = .ok (.iload_n 1, 1) := by decide +kernel
theorem d_LR_strip_1 : decode prog_1_method_2_code 1 = .ok (.invokestatic 36, 3) := by decide +kernel
theorem d_LR_strip_4 : decode prog_1_method_2_code 4 = .ok (.ifCond .eq 13, 3) := by decide +kernel
theorem d_LR_strip_7 : decode prog_1_method_2_code 7 = .ok (.iload_n 2, 1) := by decide +kernel
theorem d_LR_strip_8 : decode prog_1_method_2_code 8 = .ok (.iconst (-1), 1) := by decide +kernel
theorem d_LR_strip_9 : decode prog_1_method_2_code 9 = .ok (.if_icmp .lt 8, 3) := by decide +kernel
theorem d_LR_strip_12 : decode prog_1_method_2_code 12 = .ok (.iload_n 2, 1) := by decide +kernel
theorem d_LR_strip_13 : decode prog_1_method_2_code 13 = .ok (.iconst 2, 1) := by decide +kernel
theorem d_LR_strip_14 : decode prog_1_method_2_code 14 = .ok (.if_icmp .le 5, 3) := by decide +kernel
theorem d_LR_strip_17 : decode prog_1_method_2_code 17 = .ok (.iconst (-1), 1) := by decide +kernel
theorem d_LR_strip_18 : decode prog_1_method_2_code 18 = .ok (.ireturn, 1) := by decide +kernel
theorem d_LR_strip_19 : decode prog_1_method_2_code 19 = .ok (.iload_n 2, 1) := by decide +kernel
theorem d_LR_strip_20 : decode prog_1_method_2_code 20 = .ok (.iconst (-1), 1) := by decide +kernel
theorem d_LR_strip_21 : decode prog_1_method_2_code 21 = .ok (.if_icmp .ne 16, 3) := by decide +kernel
theorem d_LR_strip_24 : decode prog_1_method_2_code 24 = .ok (.aload_n 0, 1) := by decide +kernel
theorem d_LR_strip_25 : decode prog_1_method_2_code 25 = .ok (.getfield 11, 3) := by decide +kernel
theorem d_LR_strip_28 : decode prog_1_method_2_code 28 = .ok (.iload_n 1, 1) := by decide +kernel
theorem d_LR_strip_29 : decode prog_1_method_2_code 29 = .ok (.aaload, 1) := by decide +kernel
theorem d_LR_strip_30 : decode prog_1_method_2_code 30 = .ok (.iconst (-1), 1) := by decide +kernel
theorem d_LR_strip_31 : decode prog_1_method_2_code 31 = .ok (.iconst 0, 1) := by decide +kernel
theorem d_LR_strip_32 : decode prog_1_method_2_code 32 = .ok (.invokevirtual 40, 3) := by decide +kernel
theorem d_LR_strip_35 : decode prog_1_method_2_code 35 = .ok (.iconst 0, 1) := by decide +kernel
theorem d_LR_strip_36 : decode prog_1_method_2_code 36 = .ok (.ireturn, 1) := by decide +kernel
theorem d_LR_strip_37 : decode prog_1_method_2_code 37 = .ok (.iload_n 3, 1) := by decide +kernel
theorem d_LR_strip_38 : decode prog_1_method_2_code 38 = .ok (.bipush 12, 2) := by decide +kernel
theorem d_LR_strip_40 : decode prog_1_method_2_code 40 = .ok (.if_icmp .le 5, 3) := by decide +kernel
theorem d_LR_strip_43 : decode prog_1_method_2_code 43 = .ok (.iconst (-1), 1) := by decide +kernel
theorem d_LR_strip_44 : decode prog_1_method_2_code 44 = .ok (.ireturn, 1) := by decide +kernel
theorem d_LR_strip_45 : decode prog_1_method_2_code 45 = .ok (.iload_n 3, 1) := by decide +kernel
theorem d_LR_strip_46 : decode prog_1_method_2_code 46 = .ok (.ifCond .ge 6, 3) := by decide +kernel
theorem d_LR_strip_49 : decode prog_1_method_2_code 49 = .ok (.bipush (-13), 2) := by decide +kernel
theorem d_LR_strip_51 : decode prog_1_method_2_code 51 = .ok (.ireturn, 1) := by decide +kernel
theorem d_LR_strip_52 : decode prog_1_method_2_code 52 = .ok (.aload_n 0, 1) := by decide +kernel
theorem d_LR_strip_53 : decode prog_1_method_2_code 53 = .ok (.getfield 11, 3) := by decide +kernel
theorem d_LR_strip_56 : decode prog_1_method_2_code 56 = .ok (.iload_n 1, 1) := by decide +kernel
theorem d_LR_strip_57 : decode prog_1_method_2_code 57 = .ok (.aaload, 1) := by decide +kernel
theorem d_LR_strip_58 : decode prog_1_method_2_code 58 = .ok (.iload_n 2, 1) := by decide +kernel
theorem d_LR_strip_59 : decode prog_1_method_2_code 59 = .ok (.iload_n 3, 1) := by decide +kernel
theorem d_LR_strip_60 : decode prog_1_method_2_code 60 = .ok (.invokevirtual 40, 3) := by decide +kernel
theorem d_LR_strip_63 : decode prog_1_method_2_code 63 = .ok (.iconst 0, 1) := by decide +kernel
theorem d_LR_strip_64 : decode prog_1_method_2_code 64 = .ok (.ireturn, 1) := by decide +kernel
set_option maxHeartbeats 4000000 in
set_option maxRecDepth 100000 in
theorem w_LR_strip (x1 : Int32) (x2 : Int32) (x3 : Int32)  (C : Cx prog_1_method_2_code 4 "LakeRelief" (Option.some Jvm.ClassFile.FieldType.int) p s m args meth c) (hG : Geo D adr cA s) {res : Int32 × Mem} (hf : f_LR_strip μ x1 x2 x3 = some res) (hq : ∀ (pc : Nat) (ls : Array Slot) (H : Heap) (locs : List Loc), decode prog_1_method_2_code pc = .ok (.ireturn, 1) → va_P D cls (wld adr cA res.2 ν) H → va_S (AA adr) s.heap H locs → W p l e rm_LR_strip s m args below meth c H locs 0 0 Q (F0 m pc ls [.int res.1])) {H : Heap} {locs : List Loc} {ls : Array Slot} (hP : va_P D cls (wld adr cA μ ν) H) (hS : va_S (AA adr) s.heap H locs) (hl : lv_has ls 4 [(0, .ref (adr 0)), (1, .int x1), (2, .int x2), (3, .int x3)]) : W p l e rm_LR_strip s m args below meth c H locs 0 0 Q (F0 m 0 ls []) := by
  obtain ⟨hx, hb, hml, hown, hts, hr, hlocks⟩ := id C
  unfold f_LR_strip at hf
  refine lv_iload_n hx hb d_LR_strip_0 rfl (lv_at hl 1 rfl) ?_
  refine ki (ks (As := [.int x1]) (rest := []) ⟨hx, hb, hml, hown, hts⟩ (cw_LR_36 hts ⟨Nat.le_of_ble_eq_true rfl, Nat.le_of_ble_eq_true rfl⟩) (c_LR_isStrip l D adr cA μ ν x1) hG hP rfl hl.1 (Nat.le_of_ble_eq_true rfl) d_LR_strip_1) hS (fun H locs hP hS => ?_)
  refine lv_if_eq (tgt := 17) hx hb d_LR_strip_4 (by decide) (fun hc => ?_) (fun hc => ?_)
  · replace hf := if_p hc hf
    refine lv_iconst (v := (-1)) hx hb d_LR_strip_17 (by decide) ?_
    obtain rfl := Option.some.inj hf
    exact hq _ _ _ _ d_LR_strip_18 hP hS
  · replace hf := if_n hc hf
    refine lv_iload_n hx hb d_LR_strip_7 rfl (lv_at hl 2 rfl) ?_
    refine lv_iconst (v := (-1)) hx hb d_LR_strip_8 (by decide) ?_
    refine lv_icmp_lt (tgt := 17) hx hb d_LR_strip_9 (by decide) (fun hc => ?_) (fun hc => ?_)
    · replace hf := if_p hc hf
      refine lv_iconst (v := (-1)) hx hb d_LR_strip_17 (by decide) ?_
      obtain rfl := Option.some.inj hf
      exact hq _ _ _ _ d_LR_strip_18 hP hS
    · replace hf := if_n hc hf
      refine lv_iload_n hx hb d_LR_strip_12 rfl (lv_at hl 2 rfl) ?_
      refine lv_iconst (v := 2) hx hb d_LR_strip_13 (by decide) ?_
      refine lv_icmp_le (tgt := 19) hx hb d_LR_strip_14 (by decide) (fun hc => ?_) (fun hc => ?_)
      · replace hf := if_p hc hf
        refine lv_iload_n hx hb d_LR_strip_19 rfl (lv_at hl 2 rfl) ?_
        refine lv_iconst (v := (-1)) hx hb d_LR_strip_20 (by decide) ?_
        refine lv_icmp_ne (tgt := 37) hx hb d_LR_strip_21 (by decide) (fun hc => ?_) (fun hc => ?_)
        · replace hf := if_n hc hf
          refine lv_iload_n hx hb d_LR_strip_37 rfl (lv_at hl 3 rfl) ?_
          refine lv_bipush (v := 12) hx hb d_LR_strip_38 (by decide) ?_
          refine lv_icmp_le (tgt := 45) hx hb d_LR_strip_40 (by decide) (fun hc => ?_) (fun hc => ?_)
          · replace hf := if_p hc hf
            refine lv_iload_n hx hb d_LR_strip_45 rfl (lv_at hl 3 rfl) ?_
            refine lv_if_ge (tgt := 52) hx hb d_LR_strip_46 (by decide) (fun hc => ?_) (fun hc => ?_)
            · replace hf := if_p hc hf
              refine lv_aload_n hx hb d_LR_strip_52 rfl (lv_at hl 0 rfl) ?_
              refine g_LR_strips hx hb hts hown hG hP (hts _ in_175) d_LR_strip_53 ?_
              refine lv_iload_n hx hb d_LR_strip_56 rfl (lv_at hl 1 rfl) ?_
              replace hf := G_some hf
              obtain ⟨hi1, hf⟩ := hf
              refine r_aST hx hb hG hP hi1 d_LR_strip_57 ?_
              refine lv_iload_n hx hb d_LR_strip_58 rfl (lv_at hl 2 rfl) ?_
              refine lv_iload_n hx hb d_LR_strip_59 rfl (lv_at hl 3 rfl) ?_
              replace hf := B_some hf
              obtain ⟨v2, hv2, hf⟩ := hf
              refine kw (kv (As := [.int x2, .int x3]) (rest := []) ⟨hx, hb, hml, hown, hts⟩ (cw_LR_40 hts ⟨Nat.le_of_ble_eq_true rfl, Nat.le_of_ble_eq_true rfl⟩) (c_ST_become l D adr cA μ ν x1.toNatClampNeg x2 x3 (vin_lt hi1) hv2) hG hP (rc_o (q := (2 + x1.toNatClampNeg)) (ci := 3) hG hP (by have := (vin_lt hi1); omega) (wc_C (by have := (vin_lt hi1); omega) (sh_ST (vin_lt hi1))) rfl) rfl hl.1 (Nat.le_of_ble_eq_true rfl) d_LR_strip_60) hS (fun H locs hP hS => ?_)
              refine lv_iconst (v := 0) hx hb d_LR_strip_63 (by decide) ?_
              obtain rfl := Option.some.inj hf
              exact hq _ _ _ _ d_LR_strip_64 hP hS
            · replace hf := if_n hc hf
              refine lv_bipush (v := (-13)) hx hb d_LR_strip_49 (by decide) ?_
              obtain rfl := Option.some.inj hf
              exact hq _ _ _ _ d_LR_strip_51 hP hS
          · replace hf := if_n hc hf
            refine lv_iconst (v := (-1)) hx hb d_LR_strip_43 (by decide) ?_
            obtain rfl := Option.some.inj hf
            exact hq _ _ _ _ d_LR_strip_44 hP hS
        · replace hf := if_p hc hf
          refine lv_aload_n hx hb d_LR_strip_24 rfl (lv_at hl 0 rfl) ?_
          refine g_LR_strips hx hb hts hown hG hP (hts _ in_175) d_LR_strip_25 ?_
          refine lv_iload_n hx hb d_LR_strip_28 rfl (lv_at hl 1 rfl) ?_
          replace hf := G_some hf
          obtain ⟨hi3, hf⟩ := hf
          refine r_aST hx hb hG hP hi3 d_LR_strip_29 ?_
          refine lv_iconst (v := (-1)) hx hb d_LR_strip_30 (by decide) ?_
          refine lv_iconst (v := 0) hx hb d_LR_strip_31 (by decide) ?_
          replace hf := B_some hf
          obtain ⟨v4, hv4, hf⟩ := hf
          refine kw (kv (As := [.int (-1), .int 0]) (rest := []) ⟨hx, hb, hml, hown, hts⟩ (cw_LR_40 hts ⟨Nat.le_of_ble_eq_true rfl, Nat.le_of_ble_eq_true rfl⟩) (c_ST_become l D adr cA μ ν x1.toNatClampNeg (-1) 0 (vin_lt hi3) hv4) hG hP (rc_o (q := (2 + x1.toNatClampNeg)) (ci := 3) hG hP (by have := (vin_lt hi3); omega) (wc_C (by have := (vin_lt hi3); omega) (sh_ST (vin_lt hi3))) rfl) rfl hl.1 (Nat.le_of_ble_eq_true rfl) d_LR_strip_32) hS (fun H locs hP hS => ?_)
          refine lv_iconst (v := 0) hx hb d_LR_strip_35 (by decide) ?_
          obtain rfl := Option.some.inj hf
          exact hq _ _ _ _ d_LR_strip_36 hP hS
      · replace hf := if_n hc hf
        refine lv_iconst (v := (-1)) hx hb d_LR_strip_17 (by decide) ?_
        obtain rfl := Option.some.inj hf
        exact hq _ _ _ _ d_LR_strip_18 hP hS
theorem c_LR_strip (l : Launch) (D : va_G) (adr : Nat → Nat) (cA : Nat → ClassId) (μ ν : Mem) (x1 : Int32) (x2 : Int32) (x3 : Int32)  {res : Int32 × Mem} (hf : f_LR_strip μ x1 x2 x3 = some res) : Met l y_LR_strip (Cond.code y_LR_strip prog_1_method_2_code 4 (Option.some Jvm.ClassFile.FieldType.int) :: lw_ok) rm_LR_strip (va_Pc [.ref (adr 0), .int x1, .int x2, .int x3] (Wd D adr cA μ ν)) (QI D adr cA res.1 res.2 ν) 0 0 (AA adr) :=
  met_of (own := "LakeRelief") rfl rfl (Nat.le_of_ble_eq_true rfl) (fun p e s m below meth c C hG hP hS ls hl => w_LR_strip x1 x2 x3  C hG hf (fun pc ls H locs hd hP hS => ret_i C.1 C.2.1 C.2.2.2.2.2.1 C.2.2.2.2.2.2 hG hd hP hS) hP hS hl)
end X_LR_strip
section X_LR_refusalOfPlace
variable {p : Program} {l : Launch} {e : Env} {s : State} {m : MethodId} {args : Array Value} {below : List Frame} {meth : Method} {c : Code} {Q : State → Prop}
variable {D : va_G} {adr : Nat → Nat} {cA : Nat → ClassId} {μ ν : Mem}
theorem d_LR_refusalOfPlace_0 : decode prog_1_method_19_code 0 = .ok (.iload_n 1, 1) := by decide +kernel
theorem d_LR_refusalOfPlace_1 : decode prog_1_method_19_code 1 = .ok (.invokestatic 36, 3) := by decide +kernel
theorem d_LR_refusalOfPlace_4 : decode prog_1_method_19_code 4 = .ok (.ifCond .ne 5, 3) := by decide +kernel
theorem d_LR_refusalOfPlace_7 : decode prog_1_method_19_code 7 = .ok (.iconst (-1), 1) := by decide +kernel
theorem d_LR_refusalOfPlace_8 : decode prog_1_method_19_code 8 = .ok (.ireturn, 1) := by decide +kernel
theorem d_LR_refusalOfPlace_9 : decode prog_1_method_19_code 9 = .ok (.aload_n 0, 1) := by decide +kernel
theorem d_LR_refusalOfPlace_10 : decode prog_1_method_19_code 10 = .ok (.getfield 11, 3) := by decide +kernel
theorem d_LR_refusalOfPlace_13 : decode prog_1_method_19_code 13 = .ok (.iload_n 1, 1) := by decide +kernel
theorem d_LR_refusalOfPlace_14 : decode prog_1_method_19_code 14 = .ok (.aaload, 1) := by decide +kernel
theorem d_LR_refusalOfPlace_15 : decode prog_1_method_19_code 15 = .ok (.getfield 51, 3) := by decide +kernel
theorem d_LR_refusalOfPlace_18 : decode prog_1_method_19_code 18 = .ok (.iconst (-1), 1) := by decide +kernel
theorem d_LR_refusalOfPlace_19 : decode prog_1_method_19_code 19 = .ok (.if_icmp .ne 6, 3) := by decide +kernel
theorem d_LR_refusalOfPlace_22 : decode prog_1_method_19_code 22 = .ok (.bipush (-11), 2) := by decide +kernel
theorem d_LR_refusalOfPlace_24 : decode prog_1_method_19_code 24 = .ok (.ireturn, 1) := by decide +kernel
theorem d_LR_refusalOfPlace_25 : decode prog_1_method_19_code 25 = .ok (.aload_n 0, 1) := by decide +kernel
theorem d_LR_refusalOfPlace_26 : decode prog_1_method_19_code 26 = .ok (.getfield 11, 3) := by decide +kernel
theorem d_LR_refusalOfPlace_29 : decode prog_1_method_19_code 29 = .ok (.iload_n 1, 1) := by decide +kernel
theorem d_LR_refusalOfPlace_30 : decode prog_1_method_19_code 30 = .ok (.aaload, 1) := by decide +kernel
theorem d_LR_refusalOfPlace_31 : decode prog_1_method_19_code 31 = .ok (.iload_n 2, 1) := by decide +kernel
theorem d_LR_refusalOfPlace_32 : decode prog_1_method_19_code 32 = .ok (.invokevirtual 222, 3) := by decide +kernel
theorem d_LR_refusalOfPlace_35 : decode prog_1_method_19_code 35 = .ok (.ifCond .eq 7, 3) := by decide +kernel
theorem d_LR_refusalOfPlace_38 : decode prog_1_method_19_code 38 = .ok (.iconst 0, 1) := by decide +kernel
theorem d_LR_refusalOfPlace_39 : decode prog_1_method_19_code 39 = .ok (.goto 5, 3) := by decide +kernel
theorem d_LR_refusalOfPlace_42 : decode prog_1_method_19_code 42 = .ok (.bipush (-12), 2) := by decide +kernel
theorem d_LR_refusalOfPlace_44 : decode prog_1_method_19_code 44 = .ok (.ireturn, 1) := by decide +kernel
set_option maxHeartbeats 4000000 in
set_option maxRecDepth 100000 in
theorem w_LR_refusalOfPlace (x1 : Int32) (x2 : Int32)  (C : Cx prog_1_method_19_code 3 "LakeRelief" (Option.some Jvm.ClassFile.FieldType.int) p s m args meth c) (hG : Geo D adr cA s) {res : Int32} (hf : f_LR_refusalOfPlace μ x1 x2 = some res) (hq : ∀ (pc : Nat) (ls : Array Slot) (H : Heap) (locs : List Loc), decode prog_1_method_19_code pc = .ok (.ireturn, 1) → va_P D cls (wld adr cA μ ν) H → va_S (AA adr) s.heap H locs → W p l e rm_LR_refusalOfPlace s m args below meth c H locs 0 0 Q (F0 m pc ls [.int res])) {H : Heap} {locs : List Loc} {ls : Array Slot} (hP : va_P D cls (wld adr cA μ ν) H) (hS : va_S (AA adr) s.heap H locs) (hl : lv_has ls 3 [(0, .ref (adr 0)), (1, .int x1), (2, .int x2)]) : W p l e rm_LR_refusalOfPlace s m args below meth c H locs 0 0 Q (F0 m 0 ls []) := by
  obtain ⟨hx, hb, hml, hown, hts, hr, hlocks⟩ := id C
  unfold f_LR_refusalOfPlace at hf
  refine lv_iload_n hx hb d_LR_refusalOfPlace_0 rfl (lv_at hl 1 rfl) ?_
  refine ki (ks (As := [.int x1]) (rest := []) ⟨hx, hb, hml, hown, hts⟩ (cw_LR_36 hts ⟨Nat.le_of_ble_eq_true rfl, Nat.le_of_ble_eq_true rfl⟩) (c_LR_isStrip l D adr cA μ ν x1) hG hP rfl hl.1 (Nat.le_of_ble_eq_true rfl) d_LR_refusalOfPlace_1) hS (fun H locs hP hS => ?_)
  refine lv_if_ne (tgt := 9) hx hb d_LR_refusalOfPlace_4 (by decide) (fun hc => ?_) (fun hc => ?_)
  · replace hf := if_n hc hf
    refine lv_aload_n hx hb d_LR_refusalOfPlace_9 rfl (lv_at hl 0 rfl) ?_
    refine g_LR_strips hx hb hts hown hG hP (hts _ in_175) d_LR_refusalOfPlace_10 ?_
    refine lv_iload_n hx hb d_LR_refusalOfPlace_13 rfl (lv_at hl 1 rfl) ?_
    replace hf := G_some hf
    obtain ⟨hi1, hf⟩ := hf
    refine r_aST hx hb hG hP hi1 d_LR_refusalOfPlace_14 ?_
    refine g_ST_kind hx hb hts hown hG hP (vin_lt hi1) (hts _ in_28) d_LR_refusalOfPlace_15 ?_
    refine lv_iconst (v := (-1)) hx hb d_LR_refusalOfPlace_18 (by decide) ?_
    refine lv_icmp_ne (tgt := 25) hx hb d_LR_refusalOfPlace_19 (by decide) (fun hc => ?_) (fun hc => ?_)
    · replace hf := if_n hc hf
      refine lv_aload_n hx hb d_LR_refusalOfPlace_25 rfl (lv_at hl 0 rfl) ?_
      refine g_LR_strips hx hb hts hown hG hP (hts _ in_175) d_LR_refusalOfPlace_26 ?_
      refine lv_iload_n hx hb d_LR_refusalOfPlace_29 rfl (lv_at hl 1 rfl) ?_
      replace hf := G_some hf
      obtain ⟨hi2, hf⟩ := hf
      refine r_aST hx hb hG hP hi2 d_LR_refusalOfPlace_30 ?_
      refine lv_iload_n hx hb d_LR_refusalOfPlace_31 rfl (lv_at hl 2 rfl) ?_
      refine ki (kv (As := [.int x2]) (rest := []) ⟨hx, hb, hml, hown, hts⟩ (cw_LR_222 hts ⟨Nat.le_of_ble_eq_true rfl, Nat.le_of_ble_eq_true rfl⟩) (c_ST_hasPlace l D adr cA μ ν x1.toNatClampNeg x2 (vin_lt hi2)) hG hP (rc_o (q := (2 + x1.toNatClampNeg)) (ci := 3) hG hP (by have := (vin_lt hi2); omega) (wc_C (by have := (vin_lt hi2); omega) (sh_ST (vin_lt hi2))) rfl) rfl hl.1 (Nat.le_of_ble_eq_true rfl) d_LR_refusalOfPlace_32) hS (fun H locs hP hS => ?_)
      refine lv_if_eq (tgt := 42) hx hb d_LR_refusalOfPlace_35 (by decide) (fun hc => ?_) (fun hc => ?_)
      · replace hf := if_p hc hf
        refine lv_bipush (v := (-12)) hx hb d_LR_refusalOfPlace_42 (by decide) ?_
        obtain rfl := Option.some.inj hf
        exact hq _ _ _ _ d_LR_refusalOfPlace_44 hP hS
      · replace hf := if_n hc hf
        refine lv_iconst (v := 0) hx hb d_LR_refusalOfPlace_38 (by decide) ?_
        refine lv_goto (tgt := 44) hx hb d_LR_refusalOfPlace_39 (by decide) ?_
        obtain rfl := Option.some.inj hf
        exact hq _ _ _ _ d_LR_refusalOfPlace_44 hP hS
    · replace hf := if_p hc hf
      refine lv_bipush (v := (-11)) hx hb d_LR_refusalOfPlace_22 (by decide) ?_
      obtain rfl := Option.some.inj hf
      exact hq _ _ _ _ d_LR_refusalOfPlace_24 hP hS
  · replace hf := if_p hc hf
    refine lv_iconst (v := (-1)) hx hb d_LR_refusalOfPlace_7 (by decide) ?_
    obtain rfl := Option.some.inj hf
    exact hq _ _ _ _ d_LR_refusalOfPlace_8 hP hS
theorem c_LR_refusalOfPlace (l : Launch) (D : va_G) (adr : Nat → Nat) (cA : Nat → ClassId) (μ ν : Mem) (x1 : Int32) (x2 : Int32)  {res : Int32} (hf : f_LR_refusalOfPlace μ x1 x2 = some res) : Met l y_LR_refusalOfPlace (Cond.code y_LR_refusalOfPlace prog_1_method_19_code 3 (Option.some Jvm.ClassFile.FieldType.int) :: lw_ok) rm_LR_refusalOfPlace (va_Pc [.ref (adr 0), .int x1, .int x2] (Wd D adr cA μ ν)) (QI D adr cA res μ ν) 0 0 (AA adr) :=
  met_of (own := "LakeRelief") rfl rfl (Nat.le_of_ble_eq_true rfl) (fun p e s m below meth c C hG hP hS ls hl => w_LR_refusalOfPlace x1 x2  C hG hf (fun pc ls H locs hd hP hS => ret_i C.1 C.2.1 C.2.2.2.2.2.1 C.2.2.2.2.2.2 hG hd hP hS) hP hS hl)
end X_LR_refusalOfPlace
section X_LR_put
variable {p : Program} {l : Launch} {e : Env} {s : State} {m : MethodId} {args : Array Value} {below : List Frame} {meth : Method} {c : Code} {Q : State → Prop}
variable {D : va_G} {adr : Nat → Nat} {cA : Nat → ClassId} {μ ν : Mem}
theorem d_LR_put_0 : decode prog_1_method_3_code 0 = .ok (.aload_n 0, 1) := by decide +kernel
theorem d_LR_put_1 : decode prog_1_method_3_code 1 = .ok (.iload_n 1, 1) := by decide +kernel
theorem d_LR_put_2 : decode prog_1_method_3_code 2 = .ok (.iload_n 2, 1) := by decide +kernel
theorem d_LR_put_3 : decode prog_1_method_3_code 3 = .ok (.invokevirtual 44, 3) := by decide +kernel
theorem d_LR_put_6 : decode prog_1_method_3_code 6 = .ok (.istore 4, 2) := by decide +kernel
theorem d_LR_put_8 : decode prog_1_method_3_code 8 = .ok (.iload 4, 2) := by decide +kernel
theorem d_LR_put_10 : decode prog_1_method_3_code 10 = .ok (.ifCond .eq 6, 3) := by decide +kernel
theorem d_LR_put_13 : decode prog_1_method_3_code 13 = .ok (.iload 4, 2) := by decide +kernel
theorem d_LR_put_15 : decode prog_1_method_3_code 15 = .ok (.ireturn, 1) := by decide +kernel
theorem d_LR_put_16 : decode prog_1_method_3_code 16 = .ok (.aload_n 0, 1) := by decide +kernel
theorem d_LR_put_17 : decode prog_1_method_3_code 17 = .ok (.getfield 11, 3) := by decide +kernel
theorem d_LR_put_20 : decode prog_1_method_3_code 20 = .ok (.iload_n 1, 1) := by decide +kernel
theorem d_LR_put_21 : decode prog_1_method_3_code 21 = .ok (.aaload, 1) := by decide +kernel
theorem d_LR_put_22 : decode prog_1_method_3_code 22 = .ok (.iload_n 2, 1) := by decide +kernel
theorem d_LR_put_23 : decode prog_1_method_3_code 23 = .ok (.iload_n 3, 1) := by decide +kernel
theorem d_LR_put_24 : decode prog_1_method_3_code 24 = .ok (.invokevirtual 48, 3) := by decide +kernel
theorem d_LR_put_27 : decode prog_1_method_3_code 27 = .ok (.iconst 0, 1) := by decide +kernel
theorem d_LR_put_28 : decode prog_1_method_3_code 28 = .ok (.ireturn, 1) := by decide +kernel
set_option maxHeartbeats 4000000 in
set_option maxRecDepth 100000 in
theorem w_LR_put (x1 : Int32) (x2 : Int32) (x3 : Int32)  (C : Cx prog_1_method_3_code 5 "LakeRelief" (Option.some Jvm.ClassFile.FieldType.int) p s m args meth c) (hG : Geo D adr cA s) {res : Int32 × Mem} (hf : f_LR_put μ x1 x2 x3 = some res) (hq : ∀ (pc : Nat) (ls : Array Slot) (H : Heap) (locs : List Loc), decode prog_1_method_3_code pc = .ok (.ireturn, 1) → va_P D cls (wld adr cA res.2 ν) H → va_S (AA adr) s.heap H locs → W p l e rm_LR_put s m args below meth c H locs 0 0 Q (F0 m pc ls [.int res.1])) {H : Heap} {locs : List Loc} {ls : Array Slot} (hP : va_P D cls (wld adr cA μ ν) H) (hS : va_S (AA adr) s.heap H locs) (hl : lv_has ls 5 [(0, .ref (adr 0)), (1, .int x1), (2, .int x2), (3, .int x3)]) : W p l e rm_LR_put s m args below meth c H locs 0 0 Q (F0 m 0 ls []) := by
  obtain ⟨hx, hb, hml, hown, hts, hr, hlocks⟩ := id C
  unfold f_LR_put at hf
  refine lv_aload_n hx hb d_LR_put_0 rfl (lv_at hl 0 rfl) ?_
  refine lv_iload_n hx hb d_LR_put_1 rfl (lv_at hl 1 rfl) ?_
  refine lv_iload_n hx hb d_LR_put_2 rfl (lv_at hl 2 rfl) ?_
  replace hf := B_some hf
  obtain ⟨v1, hv1, hf⟩ := hf
  refine ki (kv (As := [.int x1, .int x2]) (rest := []) ⟨hx, hb, hml, hown, hts⟩ (cw_LR_44 hts ⟨Nat.le_of_ble_eq_true rfl, Nat.le_of_ble_eq_true rfl⟩) (c_LR_refusalOfPlace l D adr cA μ ν x1 x2 hv1) hG hP (rc_o (q := 0) (ci := 4) hG hP (by decide) (wc_C (by decide) rfl) rfl) rfl hl.1 (Nat.le_of_ble_eq_true rfl) d_LR_put_3) hS (fun H locs hP hS => ?_)
  refine lv_istore (lv' := [(4, .int v1), (0, .ref (adr 0)), (1, .int x1), (2, .int x2), (3, .int x3)]) hx hb d_LR_put_6 hl (by decide) rfl (fun ls hl => ?_)
  refine lv_iload hx hb d_LR_put_8 (lv_at hl 0 rfl) ?_
  refine lv_if_eq (tgt := 16) hx hb d_LR_put_10 (by decide) (fun hc => ?_) (fun hc => ?_)
  · replace hf := if_p hc hf
    refine lv_aload_n hx hb d_LR_put_16 rfl (lv_at hl 1 rfl) ?_
    refine g_LR_strips hx hb hts hown hG hP (hts _ in_175) d_LR_put_17 ?_
    refine lv_iload_n hx hb d_LR_put_20 rfl (lv_at hl 2 rfl) ?_
    replace hf := G_some hf
    obtain ⟨hi2, hf⟩ := hf
    refine r_aST hx hb hG hP hi2 d_LR_put_21 ?_
    refine lv_iload_n hx hb d_LR_put_22 rfl (lv_at hl 3 rfl) ?_
    refine lv_iload_n hx hb d_LR_put_23 rfl (lv_at hl 4 rfl) ?_
    replace hf := B_some hf
    obtain ⟨v3, hv3, hf⟩ := hf
    refine kw (kv (As := [.int x2, .int x3]) (rest := []) ⟨hx, hb, hml, hown, hts⟩ (cw_LR_48 hts ⟨Nat.le_of_ble_eq_true rfl, Nat.le_of_ble_eq_true rfl⟩) (c_ST_keep l D adr cA μ ν x1.toNatClampNeg x2 x3 (vin_lt hi2) hv3) hG hP (rc_o (q := (2 + x1.toNatClampNeg)) (ci := 3) hG hP (by have := (vin_lt hi2); omega) (wc_C (by have := (vin_lt hi2); omega) (sh_ST (vin_lt hi2))) rfl) rfl hl.1 (Nat.le_of_ble_eq_true rfl) d_LR_put_24) hS (fun H locs hP hS => ?_)
    refine lv_iconst (v := 0) hx hb d_LR_put_27 (by decide) ?_
    obtain rfl := Option.some.inj hf
    exact hq _ _ _ _ d_LR_put_28 hP hS
  · replace hf := if_n hc hf
    refine lv_iload hx hb d_LR_put_13 (lv_at hl 0 rfl) ?_
    obtain rfl := Option.some.inj hf
    exact hq _ _ _ _ d_LR_put_15 hP hS
theorem c_LR_put (l : Launch) (D : va_G) (adr : Nat → Nat) (cA : Nat → ClassId) (μ ν : Mem) (x1 : Int32) (x2 : Int32) (x3 : Int32)  {res : Int32 × Mem} (hf : f_LR_put μ x1 x2 x3 = some res) : Met l y_LR_put (Cond.code y_LR_put prog_1_method_3_code 5 (Option.some Jvm.ClassFile.FieldType.int) :: lw_ok) rm_LR_put (va_Pc [.ref (adr 0), .int x1, .int x2, .int x3] (Wd D adr cA μ ν)) (QI D adr cA res.1 res.2 ν) 0 0 (AA adr) :=
  met_of (own := "LakeRelief") rfl rfl (Nat.le_of_ble_eq_true rfl) (fun p e s m below meth c C hG hP hS ls hl => w_LR_put x1 x2 x3  C hG hf (fun pc ls H locs hd hP hS => ret_i C.1 C.2.1 C.2.2.2.2.2.1 C.2.2.2.2.2.2 hG hd hP hS) hP hS hl)
end X_LR_put
section X_LR_copy
variable {p : Program} {l : Launch} {e : Env} {s : State} {m : MethodId} {args : Array Value} {below : List Frame} {meth : Method} {c : Code} {Q : State → Prop}
variable {D : va_G} {adr : Nat → Nat} {cA : Nat → ClassId} {μ ν : Mem}
theorem d_LR_copy_0 : decode prog_1_method_4_code 0 = .ok (.iload_n 1, 1) := by decide +kernel
theorem d_LR_copy_1 : decode prog_1_method_4_code 1 = .ok (.invokestatic 36, 3) := by decide +kernel
theorem d_LR_copy_4 : decode prog_1_method_4_code 4 = .ok (.ifCond .eq 10, 3) := by decide +kernel
theorem d_LR_copy_7 : decode prog_1_method_4_code 7 = .ok (.iload_n 3, 1) := by decide +kernel
theorem d_LR_copy_8 : decode prog_1_method_4_code 8 = .ok (.invokestatic 36, 3) := by decide +kernel
theorem d_LR_copy_11 : decode prog_1_method_4_code 11 = .ok (.ifCond .ne 5, 3) := by decide +kernel
theorem d_LR_copy_14 : decode prog_1_method_4_code 14 = .ok (.iconst (-1), 1) := by decide +kernel
theorem d_LR_copy_15 : decode prog_1_method_4_code 15 = .ok (.ireturn, 1) := by decide +kernel
theorem d_LR_copy_16 : decode prog_1_method_4_code 16 = .ok (.aload_n 0, 1) := by decide +kernel
theorem d_LR_copy_17 : decode prog_1_method_4_code 17 = .ok (.getfield 11, 3) := by decide +kernel
theorem d_LR_copy_20 : decode prog_1_method_4_code 20 = .ok (.iload_n 1, 1) := by decide +kernel
theorem d_LR_copy_21 : decode prog_1_method_4_code 21 = .ok (.aaload, 1) := by decide +kernel
theorem d_LR_copy_22 : decode prog_1_method_4_code 22 = .ok (.astore 6, 2) := by decide +kernel
theorem d_LR_copy_24 : decode prog_1_method_4_code 24 = .ok (.aload_n 0, 1) := by decide +kernel
theorem d_LR_copy_25 : decode prog_1_method_4_code 25 = .ok (.getfield 11, 3) := by decide +kernel
theorem d_LR_copy_28 : decode prog_1_method_4_code 28 = .ok (.iload_n 3, 1) := by decide +kernel
theorem d_LR_copy_29 : decode prog_1_method_4_code 29 = .ok (.aaload, 1) := by decide +kernel
theorem d_LR_copy_30 : decode prog_1_method_4_code 30 = .ok (.astore 7, 2) := by decide +kernel
theorem d_LR_copy_32 : decode prog_1_method_4_code 32 = .ok (.aload 6, 2) := by decide +kernel
theorem d_LR_copy_34 : decode prog_1_method_4_code 34 = .ok (.getfield 51, 3) := by decide +kernel
theorem d_LR_copy_37 : decode prog_1_method_4_code 37 = .ok (.iconst (-1), 1) := by decide +kernel
theorem d_LR_copy_38 : decode prog_1_method_4_code 38 = .ok (.if_icmp .eq 12, 3) := by decide +kernel
theorem d_LR_copy_41 : decode prog_1_method_4_code 41 = .ok (.aload 7, 2) := by decide +kernel
theorem d_LR_copy_43 : decode prog_1_method_4_code 43 = .ok (.getfield 51, 3) := by decide +kernel
theorem d_LR_copy_46 : decode prog_1_method_4_code 46 = .ok (.iconst (-1), 1) := by decide +kernel
theorem d_LR_copy_47 : decode prog_1_method_4_code 47 = .ok (.if_icmp .ne 6, 3) := by decide +kernel
theorem d_LR_copy_50 : decode prog_1_method_4_code 50 = .ok (.bipush (-11), 2) := by decide +kernel
theorem d_LR_copy_52 : decode prog_1_method_4_code 52 = .ok (.ireturn, 1) := by decide +kernel
theorem d_LR_copy_53 : decode prog_1_method_4_code 53 = .ok (.aload 6, 2) := by decide +kernel
theorem d_LR_copy_55 : decode prog_1_method_4_code 55 = .ok (.getfield 51, 3) := by decide +kernel
theorem d_LR_copy_58 : decode prog_1_method_4_code 58 = .ok (.aload 7, 2) := by decide +kernel
theorem d_LR_copy_60 : decode prog_1_method_4_code 60 = .ok (.getfield 51, 3) := by decide +kernel
theorem d_LR_copy_63 : decode prog_1_method_4_code 63 = .ok (.if_icmp .eq 6, 3) := by decide +kernel
theorem d_LR_copy_66 : decode prog_1_method_4_code 66 = .ok (.bipush (-14), 2) := by decide +kernel
theorem d_LR_copy_68 : decode prog_1_method_4_code 68 = .ok (.ireturn, 1) := by decide +kernel
theorem d_LR_copy_69 : decode prog_1_method_4_code 69 = .ok (.aload 6, 2) := by decide +kernel
theorem d_LR_copy_71 : decode prog_1_method_4_code 71 = .ok (.iload_n 2, 1) := by decide +kernel
theorem d_LR_copy_72 : decode prog_1_method_4_code 72 = .ok (.iload 5, 2) := by decide +kernel
theorem d_LR_copy_74 : decode prog_1_method_4_code 74 = .ok (.invokevirtual 55, 3) := by decide +kernel
theorem d_LR_copy_77 : decode prog_1_method_4_code 77 = .ok (.ifCond .eq 15, 3) := by decide +kernel
theorem d_LR_copy_80 : decode prog_1_method_4_code 80 = .ok (.aload 7, 2) := by decide +kernel
theorem d_LR_copy_82 : decode prog_1_method_4_code 82 = .ok (.iload 4, 2) := by decide +kernel
theorem d_LR_copy_84 : decode prog_1_method_4_code 84 = .ok (.iload 5, 2) := by decide +kernel
theorem d_LR_copy_86 : decode prog_1_method_4_code 86 = .ok (.invokevirtual 55, 3) := by decide +kernel
theorem d_LR_copy_89 : decode prog_1_method_4_code 89 = .ok (.ifCond .ne 6, 3) := by decide +kernel
theorem d_LR_copy_92 : decode prog_1_method_4_code 92 = .ok (.bipush (-12), 2) := by decide +kernel
theorem d_LR_copy_94 : decode prog_1_method_4_code 94 = .ok (.ireturn, 1) := by decide +kernel
theorem d_LR_copy_95 : decode prog_1_method_4_code 95 = .ok (.aload 6, 2) := by decide +kernel
theorem d_LR_copy_97 : decode prog_1_method_4_code 97 = .ok (.getfield 59, 3) := by decide +kernel
theorem d_LR_copy_100 : decode prog_1_method_4_code 100 = .ok (.iload_n 2, 1) := by decide +kernel
theorem d_LR_copy_101 : decode prog_1_method_4_code 101 = .ok (.aload 7, 2) := by decide +kernel
theorem d_LR_copy_103 : decode prog_1_method_4_code 103 = .ok (.getfield 59, 3) := by decide +kernel
theorem d_LR_copy_106 : decode prog_1_method_4_code 106 = .ok (.iload 4, 2) := by decide +kernel
theorem d_LR_copy_108 : decode prog_1_method_4_code 108 = .ok (.iload 5, 2) := by decide +kernel
theorem d_LR_copy_110 : decode prog_1_method_4_code 110 = .ok (.invokestatic 63, 3) := by decide +kernel
theorem d_LR_copy_113 : decode prog_1_method_4_code 113 = .ok (.iconst 0, 1) := by decide +kernel
theorem d_LR_copy_114 : decode prog_1_method_4_code 114 = .ok (.ireturn, 1) := by decide +kernel
set_option maxHeartbeats 4000000 in
set_option maxRecDepth 100000 in
theorem w_LR_copy (x1 : Int32) (x2 : Int32) (x3 : Int32) (x4 : Int32) (x5 : Int32)  (C : Cx prog_1_method_4_code 8 "LakeRelief" (Option.some Jvm.ClassFile.FieldType.int) p s m args meth c) (hG : Geo D adr cA s) {res : Int32 × Mem} (hf : f_LR_copy μ x1 x2 x3 x4 x5 = some res) (hq : ∀ (pc : Nat) (ls : Array Slot) (H : Heap) (locs : List Loc), decode prog_1_method_4_code pc = .ok (.ireturn, 1) → va_P D cls (wld adr cA res.2 ν) H → va_S (AA adr) s.heap H locs → W p l e rm_LR_copy s m args below meth c H locs 0 0 Q (F0 m pc ls [.int res.1])) {H : Heap} {locs : List Loc} {ls : Array Slot} (hP : va_P D cls (wld adr cA μ ν) H) (hS : va_S (AA adr) s.heap H locs) (hl : lv_has ls 8 [(0, .ref (adr 0)), (1, .int x1), (2, .int x2), (3, .int x3), (4, .int x4), (5, .int x5)]) : W p l e rm_LR_copy s m args below meth c H locs 0 0 Q (F0 m 0 ls []) := by
  obtain ⟨hx, hb, hml, hown, hts, hr, hlocks⟩ := id C
  unfold f_LR_copy at hf
  refine lv_iload_n hx hb d_LR_copy_0 rfl (lv_at hl 1 rfl) ?_
  refine ki (ks (As := [.int x1]) (rest := []) ⟨hx, hb, hml, hown, hts⟩ (cw_LR_36 hts ⟨Nat.le_of_ble_eq_true rfl, Nat.le_of_ble_eq_true rfl⟩) (c_LR_isStrip l D adr cA μ ν x1) hG hP rfl hl.1 (Nat.le_of_ble_eq_true rfl) d_LR_copy_1) hS (fun H locs hP hS => ?_)
  refine lv_if_eq (tgt := 14) hx hb d_LR_copy_4 (by decide) (fun hc => ?_) (fun hc => ?_)
  · replace hf := if_p hc hf
    refine lv_iconst (v := (-1)) hx hb d_LR_copy_14 (by decide) ?_
    obtain rfl := Option.some.inj hf
    exact hq _ _ _ _ d_LR_copy_15 hP hS
  · replace hf := if_n hc hf
    refine lv_iload_n hx hb d_LR_copy_7 rfl (lv_at hl 3 rfl) ?_
    refine ki (ks (As := [.int x3]) (rest := []) ⟨hx, hb, hml, hown, hts⟩ (cw_LR_36 hts ⟨Nat.le_of_ble_eq_true rfl, Nat.le_of_ble_eq_true rfl⟩) (c_LR_isStrip l D adr cA μ ν x3) hG hP rfl hl.1 (Nat.le_of_ble_eq_true rfl) d_LR_copy_8) hS (fun H locs hP hS => ?_)
    refine lv_if_ne (tgt := 16) hx hb d_LR_copy_11 (by decide) (fun hc => ?_) (fun hc => ?_)
    · replace hf := if_n hc hf
      refine lv_aload_n hx hb d_LR_copy_16 rfl (lv_at hl 0 rfl) ?_
      refine g_LR_strips hx hb hts hown hG hP (hts _ in_175) d_LR_copy_17 ?_
      refine lv_iload_n hx hb d_LR_copy_20 rfl (lv_at hl 1 rfl) ?_
      replace hf := G_some hf
      obtain ⟨hi1, hf⟩ := hf
      refine r_aST hx hb hG hP hi1 d_LR_copy_21 ?_
      refine lv_astore (lv' := [(6, .ref (adr (2 + x1.toNatClampNeg))), (0, .ref (adr 0)), (1, .int x1), (2, .int x2), (3, .int x3), (4, .int x4), (5, .int x5)]) hx hb d_LR_copy_22 hl (by decide) rfl (fun ls hl => ?_)
      refine lv_aload_n hx hb d_LR_copy_24 rfl (lv_at hl 1 rfl) ?_
      refine g_LR_strips hx hb hts hown hG hP (hts _ in_175) d_LR_copy_25 ?_
      refine lv_iload_n hx hb d_LR_copy_28 rfl (lv_at hl 4 rfl) ?_
      replace hf := G_some hf
      obtain ⟨hi2, hf⟩ := hf
      refine r_aST hx hb hG hP hi2 d_LR_copy_29 ?_
      refine lv_astore (lv' := [(7, .ref (adr (2 + x3.toNatClampNeg))), (6, .ref (adr (2 + x1.toNatClampNeg))), (0, .ref (adr 0)), (1, .int x1), (2, .int x2), (3, .int x3), (4, .int x4), (5, .int x5)]) hx hb d_LR_copy_30 hl (by decide) rfl (fun ls hl => ?_)
      refine lv_aload hx hb d_LR_copy_32 (lv_at hl 1 rfl) ?_
      refine g_ST_kind hx hb hts hown hG hP (vin_lt hi1) (hts _ in_28) d_LR_copy_34 ?_
      refine lv_iconst (v := (-1)) hx hb d_LR_copy_37 (by decide) ?_
      refine lv_icmp_eq (tgt := 50) hx hb d_LR_copy_38 (by decide) (fun hc => ?_) (fun hc => ?_)
      · replace hf := if_p hc hf
        refine lv_bipush (v := (-11)) hx hb d_LR_copy_50 (by decide) ?_
        obtain rfl := Option.some.inj hf
        exact hq _ _ _ _ d_LR_copy_52 hP hS
      · replace hf := if_n hc hf
        refine lv_aload hx hb d_LR_copy_41 (lv_at hl 0 rfl) ?_
        refine g_ST_kind hx hb hts hown hG hP (vin_lt hi2) (hts _ in_28) d_LR_copy_43 ?_
        refine lv_iconst (v := (-1)) hx hb d_LR_copy_46 (by decide) ?_
        refine lv_icmp_ne (tgt := 53) hx hb d_LR_copy_47 (by decide) (fun hc => ?_) (fun hc => ?_)
        · replace hf := if_n hc hf
          refine lv_aload hx hb d_LR_copy_53 (lv_at hl 1 rfl) ?_
          refine g_ST_kind hx hb hts hown hG hP (vin_lt hi1) (hts _ in_28) d_LR_copy_55 ?_
          refine lv_aload hx hb d_LR_copy_58 (lv_at hl 0 rfl) ?_
          refine g_ST_kind hx hb hts hown hG hP (vin_lt hi2) (hts _ in_28) d_LR_copy_60 ?_
          refine lv_icmp_eq (tgt := 69) hx hb d_LR_copy_63 (by decide) (fun hc => ?_) (fun hc => ?_)
          · replace hf := if_p hc hf
            refine lv_aload hx hb d_LR_copy_69 (lv_at hl 1 rfl) ?_
            refine lv_iload_n hx hb d_LR_copy_71 rfl (lv_at hl 4 rfl) ?_
            refine lv_iload hx hb d_LR_copy_72 (lv_at hl 7 rfl) ?_
            refine ki (kv (As := [.int x2, .int x5]) (rest := []) ⟨hx, hb, hml, hown, hts⟩ (cw_LR_55 hts ⟨Nat.le_of_ble_eq_true rfl, Nat.le_of_ble_eq_true rfl⟩) (c_ST_hasRun l D adr cA μ ν x1.toNatClampNeg x2 x5 (vin_lt hi1)) hG hP (rc_o (q := (2 + x1.toNatClampNeg)) (ci := 3) hG hP (by have := (vin_lt hi1); omega) (wc_C (by have := (vin_lt hi1); omega) (sh_ST (vin_lt hi1))) rfl) rfl hl.1 (Nat.le_of_ble_eq_true rfl) d_LR_copy_74) hS (fun H locs hP hS => ?_)
            refine lv_if_eq (tgt := 92) hx hb d_LR_copy_77 (by decide) (fun hc => ?_) (fun hc => ?_)
            · replace hf := if_p hc hf
              refine lv_bipush (v := (-12)) hx hb d_LR_copy_92 (by decide) ?_
              obtain rfl := Option.some.inj hf
              exact hq _ _ _ _ d_LR_copy_94 hP hS
            · replace hf := if_n hc hf
              refine lv_aload hx hb d_LR_copy_80 (lv_at hl 0 rfl) ?_
              refine lv_iload hx hb d_LR_copy_82 (lv_at hl 6 rfl) ?_
              refine lv_iload hx hb d_LR_copy_84 (lv_at hl 7 rfl) ?_
              refine ki (kv (As := [.int x4, .int x5]) (rest := []) ⟨hx, hb, hml, hown, hts⟩ (cw_LR_55 hts ⟨Nat.le_of_ble_eq_true rfl, Nat.le_of_ble_eq_true rfl⟩) (c_ST_hasRun l D adr cA μ ν x3.toNatClampNeg x4 x5 (vin_lt hi2)) hG hP (rc_o (q := (2 + x3.toNatClampNeg)) (ci := 3) hG hP (by have := (vin_lt hi2); omega) (wc_C (by have := (vin_lt hi2); omega) (sh_ST (vin_lt hi2))) rfl) rfl hl.1 (Nat.le_of_ble_eq_true rfl) d_LR_copy_86) hS (fun H locs hP hS => ?_)
              refine lv_if_ne (tgt := 95) hx hb d_LR_copy_89 (by decide) (fun hc => ?_) (fun hc => ?_)
              · replace hf := if_n hc hf
                refine lv_aload hx hb d_LR_copy_95 (lv_at hl 1 rfl) ?_
                refine g_ST_places hx hb hts hown hG hP (vin_lt hi1) (hts _ in_26) d_LR_copy_97 ?_
                refine lv_iload_n hx hb d_LR_copy_100 rfl (lv_at hl 4 rfl) ?_
                refine lv_aload hx hb d_LR_copy_101 (lv_at hl 0 rfl) ?_
                refine g_ST_places hx hb hts hown hG hP (vin_lt hi2) (hts _ in_26) d_LR_copy_103 ?_
                refine lv_iload hx hb d_LR_copy_106 (lv_at hl 6 rfl) ?_
                refine lv_iload hx hb d_LR_copy_108 (lv_at hl 7 rfl) ?_
                replace hf := Cg_some hf
                obtain ⟨hc3, hf⟩ := hf
                refine r_copy hx hb (hml.trans hl.1.symm) hts hown (hts _ in_223) hG hP hS (vin_lt hi1) (vin_lt hi2) hc3 (hts _ in_225) (hts _ in_224) (hts _ in_8) (Nat.le_of_ble_eq_true rfl) (Nat.le_of_ble_eq_true rfl) d_LR_copy_110 (fun H locs hP hS => ?_)
                refine lv_iconst (v := 0) hx hb d_LR_copy_113 (by decide) ?_
                obtain rfl := Option.some.inj hf
                exact hq _ _ _ _ d_LR_copy_114 hP hS
              · replace hf := if_p hc hf
                refine lv_bipush (v := (-12)) hx hb d_LR_copy_92 (by decide) ?_
                obtain rfl := Option.some.inj hf
                exact hq _ _ _ _ d_LR_copy_94 hP hS
          · replace hf := if_n hc hf
            refine lv_bipush (v := (-14)) hx hb d_LR_copy_66 (by decide) ?_
            obtain rfl := Option.some.inj hf
            exact hq _ _ _ _ d_LR_copy_68 hP hS
        · replace hf := if_p hc hf
          refine lv_bipush (v := (-11)) hx hb d_LR_copy_50 (by decide) ?_
          obtain rfl := Option.some.inj hf
          exact hq _ _ _ _ d_LR_copy_52 hP hS
    · replace hf := if_p hc hf
      refine lv_iconst (v := (-1)) hx hb d_LR_copy_14 (by decide) ?_
      obtain rfl := Option.some.inj hf
      exact hq _ _ _ _ d_LR_copy_15 hP hS
theorem c_LR_copy (l : Launch) (D : va_G) (adr : Nat → Nat) (cA : Nat → ClassId) (μ ν : Mem) (x1 : Int32) (x2 : Int32) (x3 : Int32) (x4 : Int32) (x5 : Int32)  {res : Int32 × Mem} (hf : f_LR_copy μ x1 x2 x3 x4 x5 = some res) : Met l y_LR_copy (Cond.code y_LR_copy prog_1_method_4_code 8 (Option.some Jvm.ClassFile.FieldType.int) :: lw_ok) rm_LR_copy (va_Pc [.ref (adr 0), .int x1, .int x2, .int x3, .int x4, .int x5] (Wd D adr cA μ ν)) (QI D adr cA res.1 res.2 ν) 0 0 (AA adr) :=
  met_of (own := "LakeRelief") rfl rfl (Nat.le_of_ble_eq_true rfl) (fun p e s m below meth c C hG hP hS ls hl => w_LR_copy x1 x2 x3 x4 x5  C hG hf (fun pc ls H locs hd hP hS => ret_i C.1 C.2.1 C.2.2.2.2.2.1 C.2.2.2.2.2.2 hG hd hP hS) hP hS hl)
end X_LR_copy
section X_LR_told
variable {p : Program} {l : Launch} {e : Env} {s : State} {m : MethodId} {args : Array Value} {below : List Frame} {meth : Method} {c : Code} {Q : State → Prop}
variable {D : va_G} {adr : Nat → Nat} {cA : Nat → ClassId} {μ ν : Mem}
theorem d_LR_told_0 : decode prog_1_method_5_code 0 = .ok (.aload_n 0, 1) := by decide +kernel
theorem d_LR_told_1 : decode prog_1_method_5_code 1 = .ok (.iload_n 1, 1) := by decide +kernel
theorem d_LR_told_2 : decode prog_1_method_5_code 2 = .ok (.iload_n 2, 1) := by decide +kernel
theorem d_LR_told_3 : decode prog_1_method_5_code 3 = .ok (.invokevirtual 44, 3) := by decide +kernel
theorem d_LR_told_6 : decode prog_1_method_5_code 6 = .ok (.istore_n 3, 1) := by decide +kernel
theorem d_LR_told_7 : decode prog_1_method_5_code 7 = .ok (.iload_n 3, 1) := by decide +kernel
theorem d_LR_told_8 : decode prog_1_method_5_code 8 = .ok (.ifCond .eq 10, 3) := by decide +kernel
theorem d_LR_told_11 : decode prog_1_method_5_code 11 = .ok (.ldc2_w 69, 3) := by decide +kernel
theorem d_LR_told_14 : decode prog_1_method_5_code 14 = .ok (.iload_n 3, 1) := by decide +kernel
theorem d_LR_told_15 : decode prog_1_method_5_code 15 = .ok (.i2l, 1) := by decide +kernel
theorem d_LR_told_16 : decode prog_1_method_5_code 16 = .ok (.lsub, 1) := by decide +kernel
theorem d_LR_told_17 : decode prog_1_method_5_code 17 = .ok (.lreturn, 1) := by decide +kernel
theorem d_LR_told_18 : decode prog_1_method_5_code 18 = .ok (.aload_n 0, 1) := by decide +kernel
theorem d_LR_told_19 : decode prog_1_method_5_code 19 = .ok (.getfield 11, 3) := by decide +kernel
theorem d_LR_told_22 : decode prog_1_method_5_code 22 = .ok (.iload_n 1, 1) := by decide +kernel
theorem d_LR_told_23 : decode prog_1_method_5_code 23 = .ok (.aaload, 1) := by decide +kernel
theorem d_LR_told_24 : decode prog_1_method_5_code 24 = .ok (.getfield 59, 3) := by decide +kernel
theorem d_LR_told_27 : decode prog_1_method_5_code 27 = .ok (.iload_n 2, 1) := by decide +kernel
theorem d_LR_told_28 : decode prog_1_method_5_code 28 = .ok (.iaload, 1) := by decide +kernel
theorem d_LR_told_29 : decode prog_1_method_5_code 29 = .ok (.i2l, 1) := by decide +kernel
theorem d_LR_told_30 : decode prog_1_method_5_code 30 = .ok (.lreturn, 1) := by decide +kernel
set_option maxHeartbeats 4000000 in
set_option maxRecDepth 100000 in
theorem w_LR_told (x1 : Int32) (x2 : Int32)  (C : Cx prog_1_method_5_code 4 "LakeRelief" (Option.some Jvm.ClassFile.FieldType.long) p s m args meth c) (hG : Geo D adr cA s) {res : Int64} (hf : f_LR_told μ x1 x2 = some res) (hq : ∀ (pc : Nat) (ls : Array Slot) (H : Heap) (locs : List Loc), decode prog_1_method_5_code pc = .ok (.lreturn, 1) → va_P D cls (wld adr cA μ ν) H → va_S (AA adr) s.heap H locs → W p l e rm_LR_told s m args below meth c H locs 0 0 Q (F0 m pc ls [.long res])) {H : Heap} {locs : List Loc} {ls : Array Slot} (hP : va_P D cls (wld adr cA μ ν) H) (hS : va_S (AA adr) s.heap H locs) (hl : lv_has ls 4 [(0, .ref (adr 0)), (1, .int x1), (2, .int x2)]) : W p l e rm_LR_told s m args below meth c H locs 0 0 Q (F0 m 0 ls []) := by
  obtain ⟨hx, hb, hml, hown, hts, hr, hlocks⟩ := id C
  unfold f_LR_told at hf
  refine lv_aload_n hx hb d_LR_told_0 rfl (lv_at hl 0 rfl) ?_
  refine lv_iload_n hx hb d_LR_told_1 rfl (lv_at hl 1 rfl) ?_
  refine lv_iload_n hx hb d_LR_told_2 rfl (lv_at hl 2 rfl) ?_
  replace hf := B_some hf
  obtain ⟨v1, hv1, hf⟩ := hf
  refine ki (kv (As := [.int x1, .int x2]) (rest := []) ⟨hx, hb, hml, hown, hts⟩ (cw_LR_44 hts ⟨Nat.le_of_ble_eq_true rfl, Nat.le_of_ble_eq_true rfl⟩) (c_LR_refusalOfPlace l D adr cA μ ν x1 x2 hv1) hG hP (rc_o (q := 0) (ci := 4) hG hP (by decide) (wc_C (by decide) rfl) rfl) rfl hl.1 (Nat.le_of_ble_eq_true rfl) d_LR_told_3) hS (fun H locs hP hS => ?_)
  refine lv_istore_n (lv' := [(3, .int v1), (0, .ref (adr 0)), (1, .int x1), (2, .int x2)]) hx hb d_LR_told_6 rfl hl (by decide) rfl (fun ls hl => ?_)
  refine lv_iload_n hx hb d_LR_told_7 rfl (lv_at hl 0 rfl) ?_
  refine lv_if_eq (tgt := 18) hx hb d_LR_told_8 (by decide) (fun hc => ?_) (fun hc => ?_)
  · replace hf := if_p hc hf
    refine lv_aload_n hx hb d_LR_told_18 rfl (lv_at hl 1 rfl) ?_
    refine g_LR_strips hx hb hts hown hG hP (hts _ in_175) d_LR_told_19 ?_
    refine lv_iload_n hx hb d_LR_told_22 rfl (lv_at hl 2 rfl) ?_
    replace hf := G_some hf
    obtain ⟨hi2, hf⟩ := hf
    refine r_aST hx hb hG hP hi2 d_LR_told_23 ?_
    refine g_ST_places hx hb hts hown hG hP (vin_lt hi2) (hts _ in_26) d_LR_told_24 ?_
    refine lv_iload_n hx hb d_LR_told_27 rfl (lv_at hl 3 rfl) ?_
    replace hf := G_some hf
    obtain ⟨hi3, hf⟩ := hf
    refine r_iald hx hb hG hP (10 + x1.toNatClampNeg) 12 (f := μ.1 (10 + x1.toNatClampNeg)) (by have := (vin_lt hi2); omega) (wc_C (by have := (vin_lt hi2); omega) (sh_PL (vin_lt hi2))) hi3 d_LR_told_28 ?_
    refine lv_i2l hx hb d_LR_told_29 rfl ?_
    obtain rfl := Option.some.inj hf
    exact hq _ _ _ _ d_LR_told_30 hP hS
  · replace hf := if_n hc hf
    refine lv_ldc2 (v := 10000000000) hx hb hown (hts _ in_230) d_LR_told_11 ?_
    refine lv_iload_n hx hb d_LR_told_14 rfl (lv_at hl 0 rfl) ?_
    refine lv_i2l hx hb d_LR_told_15 rfl ?_
    refine lv_lsub hx hb d_LR_told_16 ?_
    obtain rfl := Option.some.inj hf
    exact hq _ _ _ _ d_LR_told_17 hP hS
theorem c_LR_told (l : Launch) (D : va_G) (adr : Nat → Nat) (cA : Nat → ClassId) (μ ν : Mem) (x1 : Int32) (x2 : Int32)  {res : Int64} (hf : f_LR_told μ x1 x2 = some res) : Met l y_LR_told (Cond.code y_LR_told prog_1_method_5_code 4 (Option.some Jvm.ClassFile.FieldType.long) :: lw_ok) rm_LR_told (va_Pc [.ref (adr 0), .int x1, .int x2] (Wd D adr cA μ ν)) (QL D adr cA res μ ν) 0 0 (AA adr) :=
  met_of (own := "LakeRelief") rfl rfl (Nat.le_of_ble_eq_true rfl) (fun p e s m below meth c C hG hP hS ls hl => w_LR_told x1 x2  C hG hf (fun pc ls H locs hd hP hS => ret_l C.1 C.2.1 C.2.2.2.2.2.1 C.2.2.2.2.2.2 hG hd hP hS) hP hS hl)
end X_LR_told
section X_LR_isHeight
variable {p : Program} {l : Launch} {e : Env} {s : State} {m : MethodId} {args : Array Value} {below : List Frame} {meth : Method} {c : Code} {Q : State → Prop}
variable {D : va_G} {adr : Nat → Nat} {cA : Nat → ClassId} {μ ν : Mem}
theorem d_LR_isHeight_0 : decode prog_1_method_22_code 0 = .ok (.iload_n 0, 1) := by decide +kernel
theorem d_LR_isHeight_1 : decode prog_1_method_22_code 1 = .ok (.ldc 231, 2) := by decide +kernel
theorem d_LR_isHeight_3 : decode prog_1_method_22_code 3 = .ok (.if_icmp .lt 13, 3) := by decide +kernel
theorem d_LR_isHeight_6 : decode prog_1_method_22_code 6 = .ok (.iload_n 0, 1) := by decide +kernel
theorem d_LR_isHeight_7 : decode prog_1_method_22_code 7 = .ok (.ldc 177, 2) := by decide +kernel
theorem d_LR_isHeight_9 : decode prog_1_method_22_code 9 = .ok (.if_icmp .gt 7, 3) := by decide +kernel
theorem d_LR_isHeight_12 : decode prog_1_method_22_code 12 = .ok (.iconst 1, 1) := by decide +kernel
theorem d_LR_isHeight_13 : decode prog_1_method_22_code 13 = .ok (.goto 4, 3) := by decide +kernel
theorem d_LR_isHeight_16 : decode prog_1_method_22_code 16 = .ok (.iconst 0, 1) := by decide +kernel
theorem d_LR_isHeight_17 : decode prog_1_method_22_code 17 = .ok (.ireturn, 1) := by decide +kernel
set_option maxHeartbeats 4000000 in
set_option maxRecDepth 100000 in
theorem w_LR_isHeight (x0 : Int32)  (C : Cx prog_1_method_22_code 1 "LakeRelief" (Option.some Jvm.ClassFile.FieldType.boolean) p s m args meth c) (hG : Geo D adr cA s) {res : Int32} (hf : f_LR_isHeight x0 = res) (hq : ∀ (pc : Nat) (ls : Array Slot) (H : Heap) (locs : List Loc), res &&& 1 = res → decode prog_1_method_22_code pc = .ok (.ireturn, 1) → va_P D cls (wld adr cA μ ν) H → va_S (AA adr) s.heap H locs → W p l e rm_LR_isHeight s m args below meth c H locs 0 0 Q (F0 m pc ls [.int res])) {H : Heap} {locs : List Loc} {ls : Array Slot} (hP : va_P D cls (wld adr cA μ ν) H) (hS : va_S (AA adr) s.heap H locs) (hl : lv_has ls 1 [(0, .int x0)]) : W p l e rm_LR_isHeight s m args below meth c H locs 0 0 Q (F0 m 0 ls []) := by
  obtain ⟨hx, hb, hml, hown, hts, hr, hlocks⟩ := id C
  unfold f_LR_isHeight at hf
  refine lv_iload_n hx hb d_LR_isHeight_0 rfl (lv_at hl 0 rfl) ?_
  refine lv_ldc (v := (-1000000)) hx hb hown (hts _ in_242) d_LR_isHeight_1 ?_
  refine lv_icmp_lt (tgt := 16) hx hb d_LR_isHeight_3 (by decide) (fun hc => ?_) (fun hc => ?_)
  · replace hf := if_p hc hf
    refine lv_iconst (v := 0) hx hb d_LR_isHeight_16 (by decide) ?_
    subst hf
    exact hq _ _ _ _ (by decide) d_LR_isHeight_17 hP hS
  · replace hf := if_n hc hf
    refine lv_iload_n hx hb d_LR_isHeight_6 rfl (lv_at hl 0 rfl) ?_
    refine lv_ldc (v := 1000000) hx hb hown (hts _ in_243) d_LR_isHeight_7 ?_
    refine lv_icmp_gt (tgt := 16) hx hb d_LR_isHeight_9 (by decide) (fun hc => ?_) (fun hc => ?_)
    · replace hf := if_p hc hf
      refine lv_iconst (v := 0) hx hb d_LR_isHeight_16 (by decide) ?_
      subst hf
      exact hq _ _ _ _ (by decide) d_LR_isHeight_17 hP hS
    · replace hf := if_n hc hf
      refine lv_iconst (v := 1) hx hb d_LR_isHeight_12 (by decide) ?_
      refine lv_goto (tgt := 17) hx hb d_LR_isHeight_13 (by decide) ?_
      subst hf
      exact hq _ _ _ _ (by decide) d_LR_isHeight_17 hP hS
theorem c_LR_isHeight (l : Launch) (D : va_G) (adr : Nat → Nat) (cA : Nat → ClassId) (μ ν : Mem) (x0 : Int32)  : Met l y_LR_isHeight (Cond.code y_LR_isHeight prog_1_method_22_code 1 (Option.some Jvm.ClassFile.FieldType.boolean) :: lw_ok) rm_LR_isHeight (va_Pc [.int x0] (Wd D adr cA μ ν)) (QI D adr cA (f_LR_isHeight x0) μ ν) 0 0 (AA adr) :=
  met_of (own := "LakeRelief") rfl rfl (Nat.le_of_ble_eq_true rfl) (fun p e s m below meth c C hG hP hS ls hl => w_LR_isHeight x0  C hG rfl (fun pc ls H locs hz hd hP hS => ret_z C.1 C.2.1 C.2.2.2.2.2.1 C.2.2.2.2.2.2 hG hz hd hP hS) hP hS hl)
end X_LR_isHeight
section X_LR_canBeLaid
variable {p : Program} {l : Launch} {e : Env} {s : State} {m : MethodId} {args : Array Value} {below : List Frame} {meth : Method} {c : Code} {Q : State → Prop}
variable {D : va_G} {adr : Nat → Nat} {cA : Nat → ClassId} {μ ν : Mem}
theorem d_LR_canBeLaid_0 : decode prog_1_method_20_code 0 = .ok (.iconst 0, 1) := by decide +kernel
theorem d_LR_canBeLaid_1 : decode prog_1_method_20_code 1 = .ok (.istore_n 3, 1) := by decide +kernel
theorem d_LR_canBeLaid_2 : decode prog_1_method_20_code 2 = .ok (.iload_n 3, 1) := by decide +kernel
theorem d_LR_canBeLaid_3 : decode prog_1_method_20_code 3 = .ok (.iload_n 2, 1) := by decide +kernel
theorem d_LR_canBeLaid_4 : decode prog_1_method_20_code 4 = .ok (.if_icmp .ge 58, 3) := by decide +kernel
theorem d_LR_canBeLaid_7 : decode prog_1_method_20_code 7 = .ok (.iconst 0, 1) := by decide +kernel
theorem d_LR_canBeLaid_8 : decode prog_1_method_20_code 8 = .ok (.istore 4, 2) := by decide +kernel
theorem d_LR_canBeLaid_10 : decode prog_1_method_20_code 10 = .ok (.iload 4, 2) := by decide +kernel
theorem d_LR_canBeLaid_12 : decode prog_1_method_20_code 12 = .ok (.iload_n 1, 1) := by decide +kernel
theorem d_LR_canBeLaid_13 : decode prog_1_method_20_code 13 = .ok (.if_icmp .ge 43, 3) := by decide +kernel
theorem d_LR_canBeLaid_16 : decode prog_1_method_20_code 16 = .ok (.aload_n 0, 1) := by decide +kernel
theorem d_LR_canBeLaid_17 : decode prog_1_method_20_code 17 = .ok (.getfield 11, 3) := by decide +kernel
theorem d_LR_canBeLaid_20 : decode prog_1_method_20_code 20 = .ok (.iload_n 3, 1) := by decide +kernel
theorem d_LR_canBeLaid_21 : decode prog_1_method_20_code 21 = .ok (.aaload, 1) := by decide +kernel
theorem d_LR_canBeLaid_22 : decode prog_1_method_20_code 22 = .ok (.iload 4, 2) := by decide +kernel
theorem d_LR_canBeLaid_24 : decode prog_1_method_20_code 24 = .ok (.invokevirtual 222, 3) := by decide +kernel
theorem d_LR_canBeLaid_27 : decode prog_1_method_20_code 27 = .ok (.ifCond .eq 23, 3) := by decide +kernel
theorem d_LR_canBeLaid_30 : decode prog_1_method_20_code 30 = .ok (.aload_n 0, 1) := by decide +kernel
theorem d_LR_canBeLaid_31 : decode prog_1_method_20_code 31 = .ok (.getfield 11, 3) := by decide +kernel
theorem d_LR_canBeLaid_34 : decode prog_1_method_20_code 34 = .ok (.iload_n 3, 1) := by decide +kernel
theorem d_LR_canBeLaid_35 : decode prog_1_method_20_code 35 = .ok (.aaload, 1) := by decide +kernel
theorem d_LR_canBeLaid_36 : decode prog_1_method_20_code 36 = .ok (.getfield 59, 3) := by decide +kernel
theorem d_LR_canBeLaid_39 : decode prog_1_method_20_code 39 = .ok (.iload 4, 2) := by decide +kernel
theorem d_LR_canBeLaid_41 : decode prog_1_method_20_code 41 = .ok (.iaload, 1) := by decide +kernel
theorem d_LR_canBeLaid_42 : decode prog_1_method_20_code 42 = .ok (.invokestatic 225, 3) := by decide +kernel
theorem d_LR_canBeLaid_45 : decode prog_1_method_20_code 45 = .ok (.ifCond .ne 5, 3) := by decide +kernel
theorem d_LR_canBeLaid_48 : decode prog_1_method_20_code 48 = .ok (.iconst 0, 1) := by decide +kernel
theorem d_LR_canBeLaid_49 : decode prog_1_method_20_code 49 = .ok (.ireturn, 1) := by decide +kernel
theorem d_LR_canBeLaid_50 : decode prog_1_method_20_code 50 = .ok (.iinc 4 1, 3) := by decide +kernel
theorem d_LR_canBeLaid_53 : decode prog_1_method_20_code 53 = .ok (.goto (-43), 3) := by decide +kernel
theorem d_LR_canBeLaid_56 : decode prog_1_method_20_code 56 = .ok (.iinc 3 1, 3) := by decide +kernel
theorem d_LR_canBeLaid_59 : decode prog_1_method_20_code 59 = .ok (.goto (-57), 3) := by decide +kernel
theorem d_LR_canBeLaid_62 : decode prog_1_method_20_code 62 = .ok (.iconst 1, 1) := by decide +kernel
theorem d_LR_canBeLaid_63 : decode prog_1_method_20_code 63 = .ok (.ireturn, 1) := by decide +kernel
set_option maxHeartbeats 4000000 in
set_option maxRecDepth 100000 in
theorem w_LR_canBeLaid_L10 (y1 : Int32) (y2 : Int32) (y3 : Int32)  (C : Cx prog_1_method_20_code 5 "LakeRelief" (Option.some Jvm.ClassFile.FieldType.boolean) p s m args meth c) (hG : Geo D adr cA s) (K : Unit → Option (Int32)) {res : Int32} (hq : ∀ (pc : Nat) (ls : Array Slot) (H : Heap) (locs : List Loc), res &&& 1 = res → decode prog_1_method_20_code pc = .ok (.ireturn, 1) → va_P D cls (wld adr cA μ ν) H → va_S (AA adr) s.heap H locs → W p l e rm_LR_canBeLaid s m args below meth c H locs 0 0 Q (F0 m pc ls [.int res])) (hE : ∀ (u : Unit), K u = some res → ∀ (H : Heap) (locs : List Loc) (ls : Array Slot), va_P D cls (wld adr cA μ ν) H → va_S (AA adr) s.heap H locs → lv_has ls 5 [(0, .ref (adr 0)), (1, .int y1), (2, .int y2), (3, .int y3)] → W p l e rm_LR_canBeLaid s m args below meth c H locs 0 0 Q (F0 m 56 ls [])) : ∀ (n : Nat) (y4 : Int32), f_LR_canBeLaid_L10 μ y1 y2 y3 K n y4 = some res → ∀ {H : Heap} {locs : List Loc} {ls : Array Slot}, va_P D cls (wld adr cA μ ν) H → va_S (AA adr) s.heap H locs → lv_has ls 5 [(0, .ref (adr 0)), (1, .int y1), (2, .int y2), (3, .int y3), (4, .int y4)] → W p l e rm_LR_canBeLaid s m args below meth c H locs 0 0 Q (F0 m 10 ls []) := by
  obtain ⟨hx, hb, hml, hown, hts, hr, hlocks⟩ := id C
  intro n
  induction n with
  | zero => intro y4 hf; rw [f_LR_canBeLaid_L10.eq_1] at hf; cases hf
  | succ n ih =>
    intro y4 hf H locs ls hP hS hl
    rw [f_LR_canBeLaid_L10.eq_2] at hf
    refine lv_iload hx hb d_LR_canBeLaid_10 (lv_at hl 4 rfl) ?_
    refine lv_iload_n hx hb d_LR_canBeLaid_12 rfl (lv_at hl 1 rfl) ?_
    refine lv_icmp_ge (tgt := 56) hx hb d_LR_canBeLaid_13 (by decide) (fun hc => ?_) (fun hc => ?_)
    · replace hf := if_p hc hf
      exact hE _ hf _ _ _ hP hS (lv_sub hl [0, 1, 2, 3] rfl)
    · replace hf := if_n hc hf
      refine lv_aload_n hx hb d_LR_canBeLaid_16 rfl (lv_at hl 0 rfl) ?_
      refine g_LR_strips hx hb hts hown hG hP (hts _ in_175) d_LR_canBeLaid_17 ?_
      refine lv_iload_n hx hb d_LR_canBeLaid_20 rfl (lv_at hl 3 rfl) ?_
      replace hf := G_some hf
      obtain ⟨hi1, hf⟩ := hf
      refine r_aST hx hb hG hP hi1 d_LR_canBeLaid_21 ?_
      refine lv_iload hx hb d_LR_canBeLaid_22 (lv_at hl 4 rfl) ?_
      refine ki (kv (As := [.int y4]) (rest := []) ⟨hx, hb, hml, hown, hts⟩ (cw_LR_222 hts ⟨Nat.le_of_ble_eq_true rfl, Nat.le_of_ble_eq_true rfl⟩) (c_ST_hasPlace l D adr cA μ ν y3.toNatClampNeg y4 (vin_lt hi1)) hG hP (rc_o (q := (2 + y3.toNatClampNeg)) (ci := 3) hG hP (by have := (vin_lt hi1); omega) (wc_C (by have := (vin_lt hi1); omega) (sh_ST (vin_lt hi1))) rfl) rfl hl.1 (Nat.le_of_ble_eq_true rfl) d_LR_canBeLaid_24) hS (fun H locs hP hS => ?_)
      refine lv_if_eq (tgt := 50) hx hb d_LR_canBeLaid_27 (by decide) (fun hc => ?_) (fun hc => ?_)
      · replace hf := if_p hc hf
        refine lv_iinc (v := (y4 + 1)) (lv' := [(4, .int (y4 + 1)), (0, .ref (adr 0)), (1, .int y1), (2, .int y2), (3, .int y3)]) hx hb d_LR_canBeLaid_50 hl (k := 4) rfl rfl (by decide) rfl (fun ls hl => ?_)
        refine lv_goto (tgt := 10) hx hb d_LR_canBeLaid_53 (by decide) ?_
        exact ih _ hf hP hS (lv_sub hl [1, 2, 3, 4, 0] rfl)
      · replace hf := if_n hc hf
        refine lv_aload_n hx hb d_LR_canBeLaid_30 rfl (lv_at hl 0 rfl) ?_
        refine g_LR_strips hx hb hts hown hG hP (hts _ in_175) d_LR_canBeLaid_31 ?_
        refine lv_iload_n hx hb d_LR_canBeLaid_34 rfl (lv_at hl 3 rfl) ?_
        replace hf := G_some hf
        obtain ⟨hi2, hf⟩ := hf
        refine r_aST hx hb hG hP hi2 d_LR_canBeLaid_35 ?_
        refine g_ST_places hx hb hts hown hG hP (vin_lt hi2) (hts _ in_26) d_LR_canBeLaid_36 ?_
        refine lv_iload hx hb d_LR_canBeLaid_39 (lv_at hl 4 rfl) ?_
        replace hf := G_some hf
        obtain ⟨hi3, hf⟩ := hf
        refine r_iald hx hb hG hP (10 + y3.toNatClampNeg) 12 (f := μ.1 (10 + y3.toNatClampNeg)) (by have := (vin_lt hi2); omega) (wc_C (by have := (vin_lt hi2); omega) (sh_PL (vin_lt hi2))) hi3 d_LR_canBeLaid_41 ?_
        refine ki (ks (As := [.int (μ.1 (10 + y3.toNatClampNeg) y4.toNatClampNeg)]) (rest := []) ⟨hx, hb, hml, hown, hts⟩ (cw_LR_225 hts ⟨Nat.le_of_ble_eq_true rfl, Nat.le_of_ble_eq_true rfl⟩) (c_LR_isHeight l D adr cA μ ν (μ.1 (10 + y3.toNatClampNeg) y4.toNatClampNeg)) hG hP rfl hl.1 (Nat.le_of_ble_eq_true rfl) d_LR_canBeLaid_42) hS (fun H locs hP hS => ?_)
        refine lv_if_ne (tgt := 50) hx hb d_LR_canBeLaid_45 (by decide) (fun hc => ?_) (fun hc => ?_)
        · replace hf := if_n hc hf
          refine lv_iinc (v := (y4 + 1)) (lv' := [(4, .int (y4 + 1)), (0, .ref (adr 0)), (1, .int y1), (2, .int y2), (3, .int y3)]) hx hb d_LR_canBeLaid_50 hl (k := 4) rfl rfl (by decide) rfl (fun ls hl => ?_)
          refine lv_goto (tgt := 10) hx hb d_LR_canBeLaid_53 (by decide) ?_
          exact ih _ hf hP hS (lv_sub hl [1, 2, 3, 4, 0] rfl)
        · replace hf := if_p hc hf
          refine lv_iconst (v := 0) hx hb d_LR_canBeLaid_48 (by decide) ?_
          obtain rfl := Option.some.inj hf
          exact hq _ _ _ _ (by decide) d_LR_canBeLaid_49 hP hS
set_option maxHeartbeats 4000000 in
set_option maxRecDepth 100000 in
theorem w_LR_canBeLaid_L2 (y1 : Int32) (y2 : Int32)  (C : Cx prog_1_method_20_code 5 "LakeRelief" (Option.some Jvm.ClassFile.FieldType.boolean) p s m args meth c) (hG : Geo D adr cA s) (K : Unit → Option (Int32)) {res : Int32} (hq : ∀ (pc : Nat) (ls : Array Slot) (H : Heap) (locs : List Loc), res &&& 1 = res → decode prog_1_method_20_code pc = .ok (.ireturn, 1) → va_P D cls (wld adr cA μ ν) H → va_S (AA adr) s.heap H locs → W p l e rm_LR_canBeLaid s m args below meth c H locs 0 0 Q (F0 m pc ls [.int res])) (hE : ∀ (u : Unit), K u = some res → ∀ (H : Heap) (locs : List Loc) (ls : Array Slot), va_P D cls (wld adr cA μ ν) H → va_S (AA adr) s.heap H locs → lv_has ls 5 [] → W p l e rm_LR_canBeLaid s m args below meth c H locs 0 0 Q (F0 m 62 ls [])) : ∀ (n : Nat) (y3 : Int32), f_LR_canBeLaid_L2 μ y1 y2 K n y3 = some res → ∀ {H : Heap} {locs : List Loc} {ls : Array Slot}, va_P D cls (wld adr cA μ ν) H → va_S (AA adr) s.heap H locs → lv_has ls 5 [(0, .ref (adr 0)), (1, .int y1), (2, .int y2), (3, .int y3)] → W p l e rm_LR_canBeLaid s m args below meth c H locs 0 0 Q (F0 m 2 ls []) := by
  obtain ⟨hx, hb, hml, hown, hts, hr, hlocks⟩ := id C
  intro n
  induction n with
  | zero => intro y3 hf; rw [f_LR_canBeLaid_L2.eq_1] at hf; cases hf
  | succ n ih =>
    intro y3 hf H locs ls hP hS hl
    rw [f_LR_canBeLaid_L2.eq_2] at hf
    refine lv_iload_n hx hb d_LR_canBeLaid_2 rfl (lv_at hl 3 rfl) ?_
    refine lv_iload_n hx hb d_LR_canBeLaid_3 rfl (lv_at hl 2 rfl) ?_
    refine lv_icmp_ge (tgt := 62) hx hb d_LR_canBeLaid_4 (by decide) (fun hc => ?_) (fun hc => ?_)
    · replace hf := if_p hc hf
      exact hE _ hf _ _ _ hP hS (lv_sub hl [] rfl)
    · replace hf := if_n hc hf
      refine lv_iconst (v := 0) hx hb d_LR_canBeLaid_7 (by decide) ?_
      refine lv_istore (lv' := [(4, .int 0), (0, .ref (adr 0)), (1, .int y1), (2, .int y2), (3, .int y3)]) hx hb d_LR_canBeLaid_8 hl (by decide) rfl (fun ls hl => ?_)
      refine w_LR_canBeLaid_L10 y1 y2 y3  C hG _ hq ?_ FU _ hf hP hS (lv_sub hl [1, 2, 3, 4, 0] rfl)
      clear hf hP hS hl
      intro u hf H locs ls hP hS hl
      refine lv_iinc (v := (y3 + 1)) (lv' := [(3, .int (y3 + 1)), (0, .ref (adr 0)), (1, .int y1), (2, .int y2)]) hx hb d_LR_canBeLaid_56 hl (k := 3) rfl rfl (by decide) rfl (fun ls hl => ?_)
      refine lv_goto (tgt := 2) hx hb d_LR_canBeLaid_59 (by decide) ?_
      exact ih _ hf hP hS (lv_sub hl [1, 2, 3, 0] rfl)
set_option maxHeartbeats 4000000 in
set_option maxRecDepth 100000 in
theorem w_LR_canBeLaid (x1 : Int32) (x2 : Int32)  (C : Cx prog_1_method_20_code 5 "LakeRelief" (Option.some Jvm.ClassFile.FieldType.boolean) p s m args meth c) (hG : Geo D adr cA s) {res : Int32} (hf : f_LR_canBeLaid μ x1 x2 = some res) (hq : ∀ (pc : Nat) (ls : Array Slot) (H : Heap) (locs : List Loc), res &&& 1 = res → decode prog_1_method_20_code pc = .ok (.ireturn, 1) → va_P D cls (wld adr cA μ ν) H → va_S (AA adr) s.heap H locs → W p l e rm_LR_canBeLaid s m args below meth c H locs 0 0 Q (F0 m pc ls [.int res])) {H : Heap} {locs : List Loc} {ls : Array Slot} (hP : va_P D cls (wld adr cA μ ν) H) (hS : va_S (AA adr) s.heap H locs) (hl : lv_has ls 5 [(0, .ref (adr 0)), (1, .int x1), (2, .int x2)]) : W p l e rm_LR_canBeLaid s m args below meth c H locs 0 0 Q (F0 m 0 ls []) := by
  obtain ⟨hx, hb, hml, hown, hts, hr, hlocks⟩ := id C
  unfold f_LR_canBeLaid at hf
  refine lv_iconst (v := 0) hx hb d_LR_canBeLaid_0 (by decide) ?_
  refine lv_istore_n (lv' := [(3, .int 0), (0, .ref (adr 0)), (1, .int x1), (2, .int x2)]) hx hb d_LR_canBeLaid_1 rfl hl (by decide) rfl (fun ls hl => ?_)
  refine w_LR_canBeLaid_L2 x1 x2  C hG _ hq ?_ FU _ hf hP hS (lv_sub hl [1, 2, 3, 0] rfl)
  clear hf hP hS hl
  intro u hf H locs ls hP hS hl
  refine lv_iconst (v := 1) hx hb d_LR_canBeLaid_62 (by decide) ?_
  obtain rfl := Option.some.inj hf
  exact hq _ _ _ _ (by decide) d_LR_canBeLaid_63 hP hS
theorem c_LR_canBeLaid (l : Launch) (D : va_G) (adr : Nat → Nat) (cA : Nat → ClassId) (μ ν : Mem) (x1 : Int32) (x2 : Int32)  {res : Int32} (hf : f_LR_canBeLaid μ x1 x2 = some res) : Met l y_LR_canBeLaid (Cond.code y_LR_canBeLaid prog_1_method_20_code 5 (Option.some Jvm.ClassFile.FieldType.boolean) :: lw_ok) rm_LR_canBeLaid (va_Pc [.ref (adr 0), .int x1, .int x2] (Wd D adr cA μ ν)) (QI D adr cA res μ ν) 0 0 (AA adr) :=
  met_of (own := "LakeRelief") rfl rfl (Nat.le_of_ble_eq_true rfl) (fun p e s m below meth c C hG hP hS ls hl => w_LR_canBeLaid x1 x2  C hG hf (fun pc ls H locs hz hd hP hS => ret_z C.1 C.2.1 C.2.2.2.2.2.1 C.2.2.2.2.2.2 hG hz hd hP hS) hP hS hl)
end X_LR_canBeLaid
section X_LR_layLine
variable {p : Program} {l : Launch} {e : Env} {s : State} {m : MethodId} {args : Array Value} {below : List Frame} {meth : Method} {c : Code} {Q : State → Prop}
variable {D : va_G} {adr : Nat → Nat} {cA : Nat → ClassId} {μ ν : Mem}
theorem d_LR_layLine_0 : decode prog_1_method_21_code 0 = .ok (.iconst 0, 1) := by decide +kernel
theorem d_LR_layLine_1 : decode prog_1_method_21_code 1 = .ok (.istore_n 3, 1) := by decide +kernel
theorem d_LR_layLine_2 : decode prog_1_method_21_code 2 = .ok (.iload_n 3, 1) := by decide +kernel
theorem d_LR_layLine_3 : decode prog_1_method_21_code 3 = .ok (.iload_n 2, 1) := by decide +kernel
theorem d_LR_layLine_4 : decode prog_1_method_21_code 4 = .ok (.if_icmp .ge 45, 3) := by decide +kernel
theorem d_LR_layLine_7 : decode prog_1_method_21_code 7 = .ok (.aload_n 0, 1) := by decide +kernel
theorem d_LR_layLine_8 : decode prog_1_method_21_code 8 = .ok (.getfield 11, 3) := by decide +kernel
theorem d_LR_layLine_11 : decode prog_1_method_21_code 11 = .ok (.iload_n 1, 1) := by decide +kernel
theorem d_LR_layLine_12 : decode prog_1_method_21_code 12 = .ok (.aaload, 1) := by decide +kernel
theorem d_LR_layLine_13 : decode prog_1_method_21_code 13 = .ok (.iload_n 3, 1) := by decide +kernel
theorem d_LR_layLine_14 : decode prog_1_method_21_code 14 = .ok (.invokevirtual 222, 3) := by decide +kernel
theorem d_LR_layLine_17 : decode prog_1_method_21_code 17 = .ok (.ifCond .eq 26, 3) := by decide +kernel
theorem d_LR_layLine_20 : decode prog_1_method_21_code 20 = .ok (.aload_n 0, 1) := by decide +kernel
theorem d_LR_layLine_21 : decode prog_1_method_21_code 21 = .ok (.getfield 19, 3) := by decide +kernel
theorem d_LR_layLine_24 : decode prog_1_method_21_code 24 = .ok (.iload_n 2, 1) := by decide +kernel
theorem d_LR_layLine_25 : decode prog_1_method_21_code 25 = .ok (.iload_n 1, 1) := by decide +kernel
theorem d_LR_layLine_26 : decode prog_1_method_21_code 26 = .ok (.imul, 1) := by decide +kernel
theorem d_LR_layLine_27 : decode prog_1_method_21_code 27 = .ok (.iload_n 3, 1) := by decide +kernel
theorem d_LR_layLine_28 : decode prog_1_method_21_code 28 = .ok (.iadd, 1) := by decide +kernel
theorem d_LR_layLine_29 : decode prog_1_method_21_code 29 = .ok (.aload_n 0, 1) := by decide +kernel
theorem d_LR_layLine_30 : decode prog_1_method_21_code 30 = .ok (.getfield 11, 3) := by decide +kernel
theorem d_LR_layLine_33 : decode prog_1_method_21_code 33 = .ok (.iload_n 1, 1) := by decide +kernel
theorem d_LR_layLine_34 : decode prog_1_method_21_code 34 = .ok (.aaload, 1) := by decide +kernel
theorem d_LR_layLine_35 : decode prog_1_method_21_code 35 = .ok (.getfield 59, 3) := by decide +kernel
theorem d_LR_layLine_38 : decode prog_1_method_21_code 38 = .ok (.iload_n 3, 1) := by decide +kernel
theorem d_LR_layLine_39 : decode prog_1_method_21_code 39 = .ok (.iaload, 1) := by decide +kernel
theorem d_LR_layLine_40 : decode prog_1_method_21_code 40 = .ok (.invokevirtual 228, 3) := by decide +kernel
theorem d_LR_layLine_43 : decode prog_1_method_21_code 43 = .ok (.iinc 3 1, 3) := by decide +kernel
theorem d_LR_layLine_46 : decode prog_1_method_21_code 46 = .ok (.goto (-44), 3) := by decide +kernel
theorem d_LR_layLine_49 : decode prog_1_method_21_code 49 = .ok (.return_, 1) := by decide +kernel
set_option maxHeartbeats 4000000 in
set_option maxRecDepth 100000 in
theorem w_LR_layLine_L2 (y1 : Int32) (y2 : Int32)  (C : Cx prog_1_method_21_code 4 "LakeRelief" (Option.none : Option Jvm.ClassFile.FieldType) p s m args meth c) (hG : Geo D adr cA s) (v : Mem) (hE : ∀ (H : Heap) (locs : List Loc) (ls : Array Slot), va_P D cls (wld adr cA v ν) H → va_S (AA adr) s.heap H locs → lv_has ls 4 [] → W p l e rm_LR_layLine s m args below meth c H locs 0 0 Q (F0 m 49 ls [])) : ∀ (n : Nat) (μ : Mem) (y3 : Int32), f_LR_layLine_L2 y1 y2 n μ y3 = some v → ∀ {H : Heap} {locs : List Loc} {ls : Array Slot}, va_P D cls (wld adr cA μ ν) H → va_S (AA adr) s.heap H locs → lv_has ls 4 [(0, .ref (adr 0)), (1, .int y1), (2, .int y2), (3, .int y3)] → W p l e rm_LR_layLine s m args below meth c H locs 0 0 Q (F0 m 2 ls []) := by
  obtain ⟨hx, hb, hml, hown, hts, hr, hlocks⟩ := id C
  intro n
  induction n with
  | zero => intro μ y3 hf; rw [f_LR_layLine_L2.eq_1] at hf; cases hf
  | succ n ih =>
    intro μ y3 hf H locs ls hP hS hl
    rw [f_LR_layLine_L2.eq_2] at hf
    refine lv_iload_n hx hb d_LR_layLine_2 rfl (lv_at hl 3 rfl) ?_
    refine lv_iload_n hx hb d_LR_layLine_3 rfl (lv_at hl 2 rfl) ?_
    refine lv_icmp_ge (tgt := 49) hx hb d_LR_layLine_4 (by decide) (fun hc => ?_) (fun hc => ?_)
    · replace hf := if_p hc hf
      obtain rfl := Option.some.inj hf
      exact hE _ _ _ hP hS (lv_sub hl [] rfl)
    · replace hf := if_n hc hf
      refine lv_aload_n hx hb d_LR_layLine_7 rfl (lv_at hl 0 rfl) ?_
      refine g_LR_strips hx hb hts hown hG hP (hts _ in_175) d_LR_layLine_8 ?_
      refine lv_iload_n hx hb d_LR_layLine_11 rfl (lv_at hl 1 rfl) ?_
      replace hf := G_some hf
      obtain ⟨hi1, hf⟩ := hf
      refine r_aST hx hb hG hP hi1 d_LR_layLine_12 ?_
      refine lv_iload_n hx hb d_LR_layLine_13 rfl (lv_at hl 3 rfl) ?_
      refine ki (kv (As := [.int y3]) (rest := []) ⟨hx, hb, hml, hown, hts⟩ (cw_LR_222 hts ⟨Nat.le_of_ble_eq_true rfl, Nat.le_of_ble_eq_true rfl⟩) (c_ST_hasPlace l D adr cA μ ν y1.toNatClampNeg y3 (vin_lt hi1)) hG hP (rc_o (q := (2 + y1.toNatClampNeg)) (ci := 3) hG hP (by have := (vin_lt hi1); omega) (wc_C (by have := (vin_lt hi1); omega) (sh_ST (vin_lt hi1))) rfl) rfl hl.1 (Nat.le_of_ble_eq_true rfl) d_LR_layLine_14) hS (fun H locs hP hS => ?_)
      replace hf := B_some hf
      obtain ⟨v2, hv2, hf⟩ := hf
      have hJ : ∀ (H : Heap) (locs : List Loc) (ls : Array Slot), va_P D cls (wld adr cA v2 ν) H → va_S (AA adr) s.heap H locs → lv_has ls 4 [(0, .ref (adr 0)), (1, .int y1), (2, .int y2), (3, .int y3)] → W p l e rm_LR_layLine s m args below meth c H locs 0 0 Q (F0 m 43 ls []) := by
        clear hv2
        intro H locs ls hP hS hl
        refine lv_iinc (v := (y3 + 1)) (lv' := [(3, .int (y3 + 1)), (0, .ref (adr 0)), (1, .int y1), (2, .int y2)]) hx hb d_LR_layLine_43 hl (k := 3) rfl rfl (by decide) rfl (fun ls hl => ?_)
        refine lv_goto (tgt := 2) hx hb d_LR_layLine_46 (by decide) ?_
        exact ih _ _ hf hP hS (lv_sub hl [1, 2, 3, 0] rfl)
      clear hf
      have hf := hv2
      clear hv2
      refine lv_if_eq (tgt := 43) hx hb d_LR_layLine_17 (by decide) (fun hc => ?_) (fun hc => ?_)
      · replace hf := if_p hc hf
        obtain rfl := Option.some.inj hf
        exact hJ _ _ _ hP hS (lv_sub hl [0, 1, 2, 3] rfl)
      · replace hf := if_n hc hf
        refine lv_aload_n hx hb d_LR_layLine_20 rfl (lv_at hl 0 rfl) ?_
        refine g_LR_relief hx hb hts hown hG hP (hts _ in_176) d_LR_layLine_21 ?_
        refine lv_iload_n hx hb d_LR_layLine_24 rfl (lv_at hl 2 rfl) ?_
        refine lv_iload_n hx hb d_LR_layLine_25 rfl (lv_at hl 1 rfl) ?_
        refine lv_imul hx hb d_LR_layLine_26 ?_
        refine lv_iload_n hx hb d_LR_layLine_27 rfl (lv_at hl 3 rfl) ?_
        refine lv_iadd hx hb d_LR_layLine_28 ?_
        refine lv_aload_n hx hb d_LR_layLine_29 rfl (lv_at hl 0 rfl) ?_
        refine g_LR_strips hx hb hts hown hG hP (hts _ in_175) d_LR_layLine_30 ?_
        refine lv_iload_n hx hb d_LR_layLine_33 rfl (lv_at hl 1 rfl) ?_
        replace hf := G_some hf
        obtain ⟨hi3, hf⟩ := hf
        refine r_aST hx hb hG hP hi3 d_LR_layLine_34 ?_
        refine g_ST_places hx hb hts hown hG hP (vin_lt hi3) (hts _ in_26) d_LR_layLine_35 ?_
        refine lv_iload_n hx hb d_LR_layLine_38 rfl (lv_at hl 3 rfl) ?_
        replace hf := G_some hf
        obtain ⟨hi4, hf⟩ := hf
        refine r_iald hx hb hG hP (10 + y1.toNatClampNeg) 12 (f := μ.1 (10 + y1.toNatClampNeg)) (by have := (vin_lt hi3); omega) (wc_C (by have := (vin_lt hi3); omega) (sh_PL (vin_lt hi3))) hi4 d_LR_layLine_39 ?_
        replace hf := B_some hf
        obtain ⟨v5, hv5, hf⟩ := hf
        refine kw (kv (As := [.int ((y2 * y1) + y3), .int (μ.1 (10 + y1.toNatClampNeg) y3.toNatClampNeg)]) (rest := []) ⟨hx, hb, hml, hown, hts⟩ (cw_LR_228 hts ⟨Nat.le_of_ble_eq_true rfl, Nat.le_of_ble_eq_true rfl⟩) (c_RE_raiseLand l D adr cA μ ν ((y2 * y1) + y3) (μ.1 (10 + y1.toNatClampNeg) y3.toNatClampNeg) hv5) hG hP (rc_o (q := 18) (ci := 2) hG hP (by decide) (wc_C (by decide) rfl) rfl) rfl hl.1 (Nat.le_of_ble_eq_true rfl) d_LR_layLine_40) hS (fun H locs hP hS => ?_)
        obtain rfl := Option.some.inj hf
        exact hJ _ _ _ hP hS (lv_sub hl [0, 1, 2, 3] rfl)
set_option maxHeartbeats 4000000 in
set_option maxRecDepth 100000 in
theorem w_LR_layLine (x1 : Int32) (x2 : Int32)  (C : Cx prog_1_method_21_code 4 "LakeRelief" (Option.none : Option Jvm.ClassFile.FieldType) p s m args meth c) (hG : Geo D adr cA s) {res : Mem} (hf : f_LR_layLine μ x1 x2 = some res) (hq : ∀ (pc : Nat) (ls : Array Slot) (H : Heap) (locs : List Loc), decode prog_1_method_21_code pc = .ok (.return_, 1) → va_P D cls (wld adr cA res ν) H → va_S (AA adr) s.heap H locs → W p l e rm_LR_layLine s m args below meth c H locs 0 0 Q (F0 m pc ls [])) {H : Heap} {locs : List Loc} {ls : Array Slot} (hP : va_P D cls (wld adr cA μ ν) H) (hS : va_S (AA adr) s.heap H locs) (hl : lv_has ls 4 [(0, .ref (adr 0)), (1, .int x1), (2, .int x2)]) : W p l e rm_LR_layLine s m args below meth c H locs 0 0 Q (F0 m 0 ls []) := by
  obtain ⟨hx, hb, hml, hown, hts, hr, hlocks⟩ := id C
  unfold f_LR_layLine at hf
  refine lv_iconst (v := 0) hx hb d_LR_layLine_0 (by decide) ?_
  refine lv_istore_n (lv' := [(3, .int 0), (0, .ref (adr 0)), (1, .int x1), (2, .int x2)]) hx hb d_LR_layLine_1 rfl hl (by decide) rfl (fun ls hl => ?_)
  replace hf := B_some hf
  obtain ⟨v6, hv6, hf⟩ := hf
  refine w_LR_layLine_L2 x1 x2  C hG v6 ?_ FU _ _ hv6 hP hS (lv_sub hl [1, 2, 3, 0] rfl)
  clear hv6 hP hS hl
  intro H locs ls hP hS hl
  obtain rfl := Option.some.inj hf
  exact hq _ _ _ _ d_LR_layLine_49 hP hS
theorem c_LR_layLine (l : Launch) (D : va_G) (adr : Nat → Nat) (cA : Nat → ClassId) (μ ν : Mem) (x1 : Int32) (x2 : Int32)  {res : Mem} (hf : f_LR_layLine μ x1 x2 = some res) : Met l y_LR_layLine (Cond.code y_LR_layLine prog_1_method_21_code 4 (Option.none : Option Jvm.ClassFile.FieldType) :: lw_ok) rm_LR_layLine (va_Pc [.ref (adr 0), .int x1, .int x2] (Wd D adr cA μ ν)) (QV D adr cA res ν) 0 0 (AA adr) :=
  met_of (own := "LakeRelief") rfl rfl (Nat.le_of_ble_eq_true rfl) (fun p e s m below meth c C hG hP hS ls hl => w_LR_layLine x1 x2  C hG hf (fun pc ls H locs hd hP hS => ret_v C.1 C.2.1 C.2.2.2.2.2.1 C.2.2.2.2.2.2 hG hd hP hS) hP hS hl)
end X_LR_layLine
section X_LR_lay
variable {p : Program} {l : Launch} {e : Env} {s : State} {m : MethodId} {args : Array Value} {below : List Frame} {meth : Method} {c : Code} {Q : State → Prop}
variable {D : va_G} {adr : Nat → Nat} {cA : Nat → ClassId} {μ ν : Mem}
theorem d_LR_lay_0 : decode prog_1_method_6_code 0 = .ok (.iload_n 1, 1) := by decide +kernel
theorem d_LR_lay_1 : decode prog_1_method_6_code 1 = .ok (.iconst 1, 1) := by decide +kernel
theorem d_LR_lay_2 : decode prog_1_method_6_code 2 = .ok (.if_icmp .lt 29, 3) := by decide +kernel
theorem d_LR_lay_5 : decode prog_1_method_6_code 5 = .ok (.iload_n 1, 1) := by decide +kernel
theorem d_LR_lay_6 : decode prog_1_method_6_code 6 = .ok (.bipush 8, 2) := by decide +kernel
theorem d_LR_lay_8 : decode prog_1_method_6_code 8 = .ok (.if_icmp .gt 23, 3) := by decide +kernel
theorem d_LR_lay_11 : decode prog_1_method_6_code 11 = .ok (.iload_n 2, 1) := by decide +kernel
theorem d_LR_lay_12 : decode prog_1_method_6_code 12 = .ok (.iconst 1, 1) := by decide +kernel
theorem d_LR_lay_13 : decode prog_1_method_6_code 13 = .ok (.if_icmp .lt 18, 3) := by decide +kernel
theorem d_LR_lay_16 : decode prog_1_method_6_code 16 = .ok (.iload_n 2, 1) := by decide +kernel
theorem d_LR_lay_17 : decode prog_1_method_6_code 17 = .ok (.bipush 8, 2) := by decide +kernel
theorem d_LR_lay_19 : decode prog_1_method_6_code 19 = .ok (.if_icmp .gt 12, 3) := by decide +kernel
theorem d_LR_lay_22 : decode prog_1_method_6_code 22 = .ok (.aload_n 0, 1) := by decide +kernel
theorem d_LR_lay_23 : decode prog_1_method_6_code 23 = .ok (.iload_n 1, 1) := by decide +kernel
theorem d_LR_lay_24 : decode prog_1_method_6_code 24 = .ok (.iload_n 2, 1) := by decide +kernel
theorem d_LR_lay_25 : decode prog_1_method_6_code 25 = .ok (.invokevirtual 71, 3) := by decide +kernel
theorem d_LR_lay_28 : decode prog_1_method_6_code 28 = .ok (.ifCond .ne 5, 3) := by decide +kernel
theorem d_LR_lay_31 : decode prog_1_method_6_code 31 = .ok (.iconst (-1), 1) := by decide +kernel
theorem d_LR_lay_32 : decode prog_1_method_6_code 32 = .ok (.ireturn, 1) := by decide +kernel
theorem d_LR_lay_33 : decode prog_1_method_6_code 33 = .ok (.aload_n 0, 1) := by decide +kernel
theorem d_LR_lay_34 : decode prog_1_method_6_code 34 = .ok (.getfield 19, 3) := by decide +kernel
theorem d_LR_lay_37 : decode prog_1_method_6_code 37 = .ok (.iload_n 1, 1) := by decide +kernel
theorem d_LR_lay_38 : decode prog_1_method_6_code 38 = .ok (.iload_n 2, 1) := by decide +kernel
theorem d_LR_lay_39 : decode prog_1_method_6_code 39 = .ok (.invokevirtual 74, 3) := by decide +kernel
theorem d_LR_lay_42 : decode prog_1_method_6_code 42 = .ok (.iconst 0, 1) := by decide +kernel
theorem d_LR_lay_43 : decode prog_1_method_6_code 43 = .ok (.istore_n 3, 1) := by decide +kernel
theorem d_LR_lay_44 : decode prog_1_method_6_code 44 = .ok (.iload_n 3, 1) := by decide +kernel
theorem d_LR_lay_45 : decode prog_1_method_6_code 45 = .ok (.iload_n 2, 1) := by decide +kernel
theorem d_LR_lay_46 : decode prog_1_method_6_code 46 = .ok (.if_icmp .ge 15, 3) := by decide +kernel
theorem d_LR_lay_49 : decode prog_1_method_6_code 49 = .ok (.aload_n 0, 1) := by decide +kernel
theorem d_LR_lay_50 : decode prog_1_method_6_code 50 = .ok (.iload_n 3, 1) := by decide +kernel
theorem d_LR_lay_51 : decode prog_1_method_6_code 51 = .ok (.iload_n 1, 1) := by decide +kernel
theorem d_LR_lay_52 : decode prog_1_method_6_code 52 = .ok (.invokevirtual 77, 3) := by decide +kernel
theorem d_LR_lay_55 : decode prog_1_method_6_code 55 = .ok (.iinc 3 1, 3) := by decide +kernel
theorem d_LR_lay_58 : decode prog_1_method_6_code 58 = .ok (.goto (-14), 3) := by decide +kernel
theorem d_LR_lay_61 : decode prog_1_method_6_code 61 = .ok (.aload_n 0, 1) := by decide +kernel
theorem d_LR_lay_62 : decode prog_1_method_6_code 62 = .ok (.getfield 19, 3) := by decide +kernel
theorem d_LR_lay_65 : decode prog_1_method_6_code 65 = .ok (.invokevirtual 80, 3) := by decide +kernel
theorem d_LR_lay_68 : decode prog_1_method_6_code 68 = .ok (.aload_n 0, 1) := by decide +kernel
theorem d_LR_lay_69 : decode prog_1_method_6_code 69 = .ok (.getfield 28, 3) := by decide +kernel
theorem d_LR_lay_72 : decode prog_1_method_6_code 72 = .ok (.invokevirtual 83, 3) := by decide +kernel
theorem d_LR_lay_75 : decode prog_1_method_6_code 75 = .ok (.aload_n 0, 1) := by decide +kernel
theorem d_LR_lay_76 : decode prog_1_method_6_code 76 = .ok (.iconst 1, 1) := by decide +kernel
theorem d_LR_lay_77 : decode prog_1_method_6_code 77 = .ok (.putfield 32, 3) := by decide +kernel
theorem d_LR_lay_80 : decode prog_1_method_6_code 80 = .ok (.aload_n 0, 1) := by decide +kernel
theorem d_LR_lay_81 : decode prog_1_method_6_code 81 = .ok (.getfield 19, 3) := by decide +kernel
theorem d_LR_lay_84 : decode prog_1_method_6_code 84 = .ok (.getfield 86, 3) := by decide +kernel
theorem d_LR_lay_87 : decode prog_1_method_6_code 87 = .ok (.ireturn, 1) := by decide +kernel
set_option maxHeartbeats 4000000 in
set_option maxRecDepth 100000 in
theorem w_LR_lay_L44 (y1 : Int32) (y2 : Int32)  (C : Cx prog_1_method_6_code 4 "LakeRelief" (Option.some Jvm.ClassFile.FieldType.int) p s m args meth c) (hG : Geo D adr cA s) (v : Mem) (hE : ∀ (H : Heap) (locs : List Loc) (ls : Array Slot), va_P D cls (wld adr cA v ν) H → va_S (AA adr) s.heap H locs → lv_has ls 4 [(0, .ref (adr 0))] → W p l e rm_LR_lay s m args below meth c H locs 0 0 Q (F0 m 61 ls [])) : ∀ (n : Nat) (μ : Mem) (y3 : Int32), f_LR_lay_L44 y1 y2 n μ y3 = some v → ∀ {H : Heap} {locs : List Loc} {ls : Array Slot}, va_P D cls (wld adr cA μ ν) H → va_S (AA adr) s.heap H locs → lv_has ls 4 [(0, .ref (adr 0)), (1, .int y1), (2, .int y2), (3, .int y3)] → W p l e rm_LR_lay s m args below meth c H locs 0 0 Q (F0 m 44 ls []) := by
  obtain ⟨hx, hb, hml, hown, hts, hr, hlocks⟩ := id C
  intro n
  induction n with
  | zero => intro μ y3 hf; rw [f_LR_lay_L44.eq_1] at hf; cases hf
  | succ n ih =>
    intro μ y3 hf H locs ls hP hS hl
    rw [f_LR_lay_L44.eq_2] at hf
    refine lv_iload_n hx hb d_LR_lay_44 rfl (lv_at hl 3 rfl) ?_
    refine lv_iload_n hx hb d_LR_lay_45 rfl (lv_at hl 2 rfl) ?_
    refine lv_icmp_ge (tgt := 61) hx hb d_LR_lay_46 (by decide) (fun hc => ?_) (fun hc => ?_)
    · replace hf := if_p hc hf
      obtain rfl := Option.some.inj hf
      exact hE _ _ _ hP hS (lv_sub hl [0] rfl)
    · replace hf := if_n hc hf
      refine lv_aload_n hx hb d_LR_lay_49 rfl (lv_at hl 0 rfl) ?_
      refine lv_iload_n hx hb d_LR_lay_50 rfl (lv_at hl 3 rfl) ?_
      refine lv_iload_n hx hb d_LR_lay_51 rfl (lv_at hl 1 rfl) ?_
      replace hf := B_some hf
      obtain ⟨v3, hv3, hf⟩ := hf
      refine kw (kv (As := [.int y3, .int y1]) (rest := []) ⟨hx, hb, hml, hown, hts⟩ (cw_LR_77 hts ⟨Nat.le_of_ble_eq_true rfl, Nat.le_of_ble_eq_true rfl⟩) (c_LR_layLine l D adr cA μ ν y3 y1 hv3) hG hP (rc_o (q := 0) (ci := 4) hG hP (by decide) (wc_C (by decide) rfl) rfl) rfl hl.1 (Nat.le_of_ble_eq_true rfl) d_LR_lay_52) hS (fun H locs hP hS => ?_)
      refine lv_iinc (v := (y3 + 1)) (lv' := [(3, .int (y3 + 1)), (0, .ref (adr 0)), (1, .int y1), (2, .int y2)]) hx hb d_LR_lay_55 hl (k := 3) rfl rfl (by decide) rfl (fun ls hl => ?_)
      refine lv_goto (tgt := 44) hx hb d_LR_lay_58 (by decide) ?_
      exact ih _ _ hf hP hS (lv_sub hl [1, 2, 3, 0] rfl)
set_option maxHeartbeats 4000000 in
set_option maxRecDepth 100000 in
theorem w_LR_lay (x1 : Int32) (x2 : Int32)  (C : Cx prog_1_method_6_code 4 "LakeRelief" (Option.some Jvm.ClassFile.FieldType.int) p s m args meth c) (hG : Geo D adr cA s) {res : Int32 × Mem} (hf : f_LR_lay μ x1 x2 = some res) (hq : ∀ (pc : Nat) (ls : Array Slot) (H : Heap) (locs : List Loc), decode prog_1_method_6_code pc = .ok (.ireturn, 1) → va_P D cls (wld adr cA res.2 ν) H → va_S (AA adr) s.heap H locs → W p l e rm_LR_lay s m args below meth c H locs 0 0 Q (F0 m pc ls [.int res.1])) {H : Heap} {locs : List Loc} {ls : Array Slot} (hP : va_P D cls (wld adr cA μ ν) H) (hS : va_S (AA adr) s.heap H locs) (hl : lv_has ls 4 [(0, .ref (adr 0)), (1, .int x1), (2, .int x2)]) : W p l e rm_LR_lay s m args below meth c H locs 0 0 Q (F0 m 0 ls []) := by
  obtain ⟨hx, hb, hml, hown, hts, hr, hlocks⟩ := id C
  unfold f_LR_lay at hf
  refine lv_iload_n hx hb d_LR_lay_0 rfl (lv_at hl 1 rfl) ?_
  refine lv_iconst (v := 1) hx hb d_LR_lay_1 (by decide) ?_
  refine lv_icmp_lt (tgt := 31) hx hb d_LR_lay_2 (by decide) (fun hc => ?_) (fun hc => ?_)
  · replace hf := if_p hc hf
    refine lv_iconst (v := (-1)) hx hb d_LR_lay_31 (by decide) ?_
    obtain rfl := Option.some.inj hf
    exact hq _ _ _ _ d_LR_lay_32 hP hS
  · replace hf := if_n hc hf
    refine lv_iload_n hx hb d_LR_lay_5 rfl (lv_at hl 1 rfl) ?_
    refine lv_bipush (v := 8) hx hb d_LR_lay_6 (by decide) ?_
    refine lv_icmp_gt (tgt := 31) hx hb d_LR_lay_8 (by decide) (fun hc => ?_) (fun hc => ?_)
    · replace hf := if_p hc hf
      refine lv_iconst (v := (-1)) hx hb d_LR_lay_31 (by decide) ?_
      obtain rfl := Option.some.inj hf
      exact hq _ _ _ _ d_LR_lay_32 hP hS
    · replace hf := if_n hc hf
      refine lv_iload_n hx hb d_LR_lay_11 rfl (lv_at hl 2 rfl) ?_
      refine lv_iconst (v := 1) hx hb d_LR_lay_12 (by decide) ?_
      refine lv_icmp_lt (tgt := 31) hx hb d_LR_lay_13 (by decide) (fun hc => ?_) (fun hc => ?_)
      · replace hf := if_p hc hf
        refine lv_iconst (v := (-1)) hx hb d_LR_lay_31 (by decide) ?_
        obtain rfl := Option.some.inj hf
        exact hq _ _ _ _ d_LR_lay_32 hP hS
      · replace hf := if_n hc hf
        refine lv_iload_n hx hb d_LR_lay_16 rfl (lv_at hl 2 rfl) ?_
        refine lv_bipush (v := 8) hx hb d_LR_lay_17 (by decide) ?_
        refine lv_icmp_gt (tgt := 31) hx hb d_LR_lay_19 (by decide) (fun hc => ?_) (fun hc => ?_)
        · replace hf := if_p hc hf
          refine lv_iconst (v := (-1)) hx hb d_LR_lay_31 (by decide) ?_
          obtain rfl := Option.some.inj hf
          exact hq _ _ _ _ d_LR_lay_32 hP hS
        · replace hf := if_n hc hf
          refine lv_aload_n hx hb d_LR_lay_22 rfl (lv_at hl 0 rfl) ?_
          refine lv_iload_n hx hb d_LR_lay_23 rfl (lv_at hl 1 rfl) ?_
          refine lv_iload_n hx hb d_LR_lay_24 rfl (lv_at hl 2 rfl) ?_
          replace hf := B_some hf
          obtain ⟨v1, hv1, hf⟩ := hf
          refine ki (kv (As := [.int x1, .int x2]) (rest := []) ⟨hx, hb, hml, hown, hts⟩ (cw_LR_71 hts ⟨Nat.le_of_ble_eq_true rfl, Nat.le_of_ble_eq_true rfl⟩) (c_LR_canBeLaid l D adr cA μ ν x1 x2 hv1) hG hP (rc_o (q := 0) (ci := 4) hG hP (by decide) (wc_C (by decide) rfl) rfl) rfl hl.1 (Nat.le_of_ble_eq_true rfl) d_LR_lay_25) hS (fun H locs hP hS => ?_)
          refine lv_if_ne (tgt := 33) hx hb d_LR_lay_28 (by decide) (fun hc => ?_) (fun hc => ?_)
          · replace hf := if_n hc hf
            refine lv_aload_n hx hb d_LR_lay_33 rfl (lv_at hl 0 rfl) ?_
            refine g_LR_relief hx hb hts hown hG hP (hts _ in_176) d_LR_lay_34 ?_
            refine lv_iload_n hx hb d_LR_lay_37 rfl (lv_at hl 1 rfl) ?_
            refine lv_iload_n hx hb d_LR_lay_38 rfl (lv_at hl 2 rfl) ?_
            replace hf := B_some hf
            obtain ⟨v2, hv2, hf⟩ := hf
            refine kw (kv (As := [.int x1, .int x2]) (rest := []) ⟨hx, hb, hml, hown, hts⟩ (cw_LR_74 hts ⟨Nat.le_of_ble_eq_true rfl, Nat.le_of_ble_eq_true rfl⟩) (c_RE_flood l D adr cA μ ν x1 x2 hv2) hG hP (rc_o (q := 18) (ci := 2) hG hP (by decide) (wc_C (by decide) rfl) rfl) rfl hl.1 (Nat.le_of_ble_eq_true rfl) d_LR_lay_39) hS (fun H locs hP hS => ?_)
            refine lv_iconst (v := 0) hx hb d_LR_lay_42 (by decide) ?_
            refine lv_istore_n (lv' := [(3, .int 0), (0, .ref (adr 0)), (1, .int x1), (2, .int x2)]) hx hb d_LR_lay_43 rfl hl (by decide) rfl (fun ls hl => ?_)
            replace hf := B_some hf
            obtain ⟨v4, hv4, hf⟩ := hf
            refine w_LR_lay_L44 x1 x2  C hG v4 ?_ FU _ _ hv4 hP hS (lv_sub hl [1, 2, 3, 0] rfl)
            clear hv4 hP hS hl
            intro H locs ls hP hS hl
            refine lv_aload_n hx hb d_LR_lay_61 rfl (lv_at hl 0 rfl) ?_
            refine g_LR_relief hx hb hts hown hG hP (hts _ in_176) d_LR_lay_62 ?_
            replace hf := B_some hf
            obtain ⟨v5, hv5, hf⟩ := hf
            refine kw (kv (As := []) (rest := []) ⟨hx, hb, hml, hown, hts⟩ (cw_LR_80 hts ⟨Nat.le_of_ble_eq_true rfl, Nat.le_of_ble_eq_true rfl⟩) (c_RE_survey l D adr cA v4 ν hv5) hG hP (rc_o (q := 18) (ci := 2) hG hP (by decide) (wc_C (by decide) rfl) rfl) rfl hl.1 (Nat.le_of_ble_eq_true rfl) d_LR_lay_65) hS (fun H locs hP hS => ?_)
            refine lv_aload_n hx hb d_LR_lay_68 rfl (lv_at hl 0 rfl) ?_
            refine g_LR_lakes hx hb hts hown hG hP (hts _ in_177) d_LR_lay_69 ?_
            replace hf := B_some hf
            obtain ⟨v6, hv6, hf⟩ := hf
            refine kw (kv (As := []) (rest := []) ⟨hx, hb, hml, hown, hts⟩ (cw_LR_83 hts ⟨Nat.le_of_ble_eq_true rfl, Nat.le_of_ble_eq_true rfl⟩) (c_LK_come l D adr cA v5 ν hv6) hG hP (rc_o (q := 26) (ci := 1) hG hP (by decide) (wc_C (by decide) rfl) rfl) rfl hl.1 (Nat.le_of_ble_eq_true rfl) d_LR_lay_72) hS (fun H locs hP hS => ?_)
            refine lv_aload_n hx hb d_LR_lay_75 rfl (lv_at hl 0 rfl) ?_
            refine lv_iconst (v := 1) hx hb d_LR_lay_76 (by decide) ?_
            refine p_LR_isLaid hx hb hts hown hG hP hS (hts _ in_178) (by decide) d_LR_lay_77 (fun H locs hP hS => ?_)
            refine lv_aload_n hx hb d_LR_lay_80 rfl (lv_at hl 0 rfl) ?_
            refine g_LR_relief hx hb hts hown hG hP (hts _ in_176) d_LR_lay_81 ?_
            refine g_RE_landCount hx hb hts hown hG hP (hts _ in_63) d_LR_lay_84 ?_
            obtain rfl := Option.some.inj hf
            exact hq _ _ _ _ d_LR_lay_87 hP hS
          · replace hf := if_p hc hf
            refine lv_iconst (v := (-1)) hx hb d_LR_lay_31 (by decide) ?_
            obtain rfl := Option.some.inj hf
            exact hq _ _ _ _ d_LR_lay_32 hP hS
theorem c_LR_lay (l : Launch) (D : va_G) (adr : Nat → Nat) (cA : Nat → ClassId) (μ ν : Mem) (x1 : Int32) (x2 : Int32)  {res : Int32 × Mem} (hf : f_LR_lay μ x1 x2 = some res) : Met l y_LR_lay (Cond.code y_LR_lay prog_1_method_6_code 4 (Option.some Jvm.ClassFile.FieldType.int) :: lw_ok) rm_LR_lay (va_Pc [.ref (adr 0), .int x1, .int x2] (Wd D adr cA μ ν)) (QI D adr cA res.1 res.2 ν) 0 0 (AA adr) :=
  met_of (own := "LakeRelief") rfl rfl (Nat.le_of_ble_eq_true rfl) (fun p e s m below meth c C hG hP hS ls hl => w_LR_lay x1 x2  C hG hf (fun pc ls H locs hd hP hS => ret_i C.1 C.2.1 C.2.2.2.2.2.1 C.2.2.2.2.2.2 hG hd hP hS) hP hS hl)
end X_LR_lay
section X_LR_field
variable {p : Program} {l : Launch} {e : Env} {s : State} {m : MethodId} {args : Array Value} {below : List Frame} {meth : Method} {c : Code} {Q : State → Prop}
variable {D : va_G} {adr : Nat → Nat} {cA : Nat → ClassId} {μ ν : Mem}
theorem d_LR_field_0 : decode prog_1_method_7_code 0 = .ok (.aload_n 0, 1) := by decide +kernel
theorem d_LR_field_1 : decode prog_1_method_7_code 1 = .ok (.getfield 32, 3) := by decide +kernel
theorem d_LR_field_4 : decode prog_1_method_7_code 4 = .ok (.ifCond .ne 6, 3) := by decide +kernel
theorem d_LR_field_7 : decode prog_1_method_7_code 7 = .ok (.ldc 89, 2) := by decide +kernel
theorem d_LR_field_9 : decode prog_1_method_7_code 9 = .ok (.ireturn, 1) := by decide +kernel
theorem d_LR_field_10 : decode prog_1_method_7_code 10 = .ok (.aload_n 0, 1) := by decide +kernel
theorem d_LR_field_11 : decode prog_1_method_7_code 11 = .ok (.getfield 19, 3) := by decide +kernel
theorem d_LR_field_14 : decode prog_1_method_7_code 14 = .ok (.iload_n 1, 1) := by decide +kernel
theorem d_LR_field_15 : decode prog_1_method_7_code 15 = .ok (.invokevirtual 90, 3) := by decide +kernel
theorem d_LR_field_18 : decode prog_1_method_7_code 18 = .ok (.ifCond .eq 12, 3) := by decide +kernel
theorem d_LR_field_21 : decode prog_1_method_7_code 21 = .ok (.iload_n 2, 1) := by decide +kernel
theorem d_LR_field_22 : decode prog_1_method_7_code 22 = .ok (.ifCond .lt 8, 3) := by decide +kernel
theorem d_LR_field_25 : decode prog_1_method_7_code 25 = .ok (.iload_n 2, 1) := by decide +kernel
theorem d_LR_field_26 : decode prog_1_method_7_code 26 = .ok (.iconst 5, 1) := by decide +kernel
theorem d_LR_field_27 : decode prog_1_method_7_code 27 = .ok (.if_icmp .le 6, 3) := by decide +kernel
theorem d_LR_field_30 : decode prog_1_method_7_code 30 = .ok (.ldc 93, 2) := by decide +kernel
theorem d_LR_field_32 : decode prog_1_method_7_code 32 = .ok (.ireturn, 1) := by decide +kernel
theorem d_LR_field_33 : decode prog_1_method_7_code 33 = .ok (.aload_n 0, 1) := by decide +kernel
theorem d_LR_field_34 : decode prog_1_method_7_code 34 = .ok (.getfield 19, 3) := by decide +kernel
theorem d_LR_field_37 : decode prog_1_method_7_code 37 = .ok (.iload_n 1, 1) := by decide +kernel
theorem d_LR_field_38 : decode prog_1_method_7_code 38 = .ok (.invokevirtual 94, 3) := by decide +kernel
theorem d_LR_field_41 : decode prog_1_method_7_code 41 = .ok (.ifCond .ne 23, 3) := by decide +kernel
theorem d_LR_field_44 : decode prog_1_method_7_code 44 = .ok (.iload_n 2, 1) := by decide +kernel
theorem d_LR_field_45 : decode prog_1_method_7_code 45 = .ok (.ifCond .ne 7, 3) := by decide +kernel
theorem d_LR_field_48 : decode prog_1_method_7_code 48 = .ok (.iconst 1, 1) := by decide +kernel
theorem d_LR_field_49 : decode prog_1_method_7_code 49 = .ok (.goto 14, 3) := by decide +kernel
theorem d_LR_field_52 : decode prog_1_method_7_code 52 = .ok (.iload_n 2, 1) := by decide +kernel
theorem d_LR_field_53 : decode prog_1_method_7_code 53 = .ok (.iconst 5, 1) := by decide +kernel
theorem d_LR_field_54 : decode prog_1_method_7_code 54 = .ok (.if_icmp .ne 8, 3) := by decide +kernel
theorem d_LR_field_57 : decode prog_1_method_7_code 57 = .ok (.bipush (-3), 2) := by decide +kernel
theorem d_LR_field_59 : decode prog_1_method_7_code 59 = .ok (.goto 4, 3) := by decide +kernel
theorem d_LR_field_62 : decode prog_1_method_7_code 62 = .ok (.iconst 0, 1) := by decide +kernel
theorem d_LR_field_63 : decode prog_1_method_7_code 63 = .ok (.ireturn, 1) := by decide +kernel
theorem d_LR_field_64 : decode prog_1_method_7_code 64 = .ok (.iload_n 2, 1) := by decide +kernel
theorem d_LR_field_65 : decode prog_1_method_7_code 65 = .ok (.tableswitch 77 0 4 #[35, 37, 47, 57, 67], 35) := by decide +kernel
theorem d_LR_field_100 : decode prog_1_method_7_code 100 = .ok (.iconst 0, 1) := by decide +kernel
theorem d_LR_field_101 : decode prog_1_method_7_code 101 = .ok (.ireturn, 1) := by decide +kernel
theorem d_LR_field_102 : decode prog_1_method_7_code 102 = .ok (.aload_n 0, 1) := by decide +kernel
theorem d_LR_field_103 : decode prog_1_method_7_code 103 = .ok (.getfield 19, 3) := by decide +kernel
theorem d_LR_field_106 : decode prog_1_method_7_code 106 = .ok (.getfield 97, 3) := by decide +kernel
theorem d_LR_field_109 : decode prog_1_method_7_code 109 = .ok (.iload_n 1, 1) := by decide +kernel
theorem d_LR_field_110 : decode prog_1_method_7_code 110 = .ok (.iaload, 1) := by decide +kernel
theorem d_LR_field_111 : decode prog_1_method_7_code 111 = .ok (.ireturn, 1) := by decide +kernel
theorem d_LR_field_112 : decode prog_1_method_7_code 112 = .ok (.aload_n 0, 1) := by decide +kernel
theorem d_LR_field_113 : decode prog_1_method_7_code 113 = .ok (.getfield 19, 3) := by decide +kernel
theorem d_LR_field_116 : decode prog_1_method_7_code 116 = .ok (.getfield 100, 3) := by decide +kernel
theorem d_LR_field_119 : decode prog_1_method_7_code 119 = .ok (.iload_n 1, 1) := by decide +kernel
theorem d_LR_field_120 : decode prog_1_method_7_code 120 = .ok (.iaload, 1) := by decide +kernel
theorem d_LR_field_121 : decode prog_1_method_7_code 121 = .ok (.ireturn, 1) := by decide +kernel
theorem d_LR_field_122 : decode prog_1_method_7_code 122 = .ok (.aload_n 0, 1) := by decide +kernel
theorem d_LR_field_123 : decode prog_1_method_7_code 123 = .ok (.getfield 19, 3) := by decide +kernel
theorem d_LR_field_126 : decode prog_1_method_7_code 126 = .ok (.getfield 103, 3) := by decide +kernel
theorem d_LR_field_129 : decode prog_1_method_7_code 129 = .ok (.iload_n 1, 1) := by decide +kernel
theorem d_LR_field_130 : decode prog_1_method_7_code 130 = .ok (.iaload, 1) := by decide +kernel
theorem d_LR_field_131 : decode prog_1_method_7_code 131 = .ok (.ireturn, 1) := by decide +kernel
theorem d_LR_field_132 : decode prog_1_method_7_code 132 = .ok (.aload_n 0, 1) := by decide +kernel
theorem d_LR_field_133 : decode prog_1_method_7_code 133 = .ok (.getfield 19, 3) := by decide +kernel
theorem d_LR_field_136 : decode prog_1_method_7_code 136 = .ok (.getfield 106, 3) := by decide +kernel
theorem d_LR_field_139 : decode prog_1_method_7_code 139 = .ok (.iload_n 1, 1) := by decide +kernel
theorem d_LR_field_140 : decode prog_1_method_7_code 140 = .ok (.iaload, 1) := by decide +kernel
theorem d_LR_field_141 : decode prog_1_method_7_code 141 = .ok (.ireturn, 1) := by decide +kernel
theorem d_LR_field_142 : decode prog_1_method_7_code 142 = .ok (.aload_n 0, 1) := by decide +kernel
theorem d_LR_field_143 : decode prog_1_method_7_code 143 = .ok (.getfield 28, 3) := by decide +kernel
theorem d_LR_field_146 : decode prog_1_method_7_code 146 = .ok (.iload_n 1, 1) := by decide +kernel
theorem d_LR_field_147 : decode prog_1_method_7_code 147 = .ok (.invokevirtual 109, 3) := by decide +kernel
theorem d_LR_field_150 : decode prog_1_method_7_code 150 = .ok (.ireturn, 1) := by decide +kernel
set_option maxHeartbeats 4000000 in
set_option maxRecDepth 100000 in
theorem w_LR_field (x1 : Int32) (x2 : Int32)  (C : Cx prog_1_method_7_code 3 "LakeRelief" (Option.some Jvm.ClassFile.FieldType.int) p s m args meth c) (hG : Geo D adr cA s) {res : Int32} (hf : f_LR_field μ x1 x2 = some res) (hq : ∀ (pc : Nat) (ls : Array Slot) (H : Heap) (locs : List Loc), decode prog_1_method_7_code pc = .ok (.ireturn, 1) → va_P D cls (wld adr cA μ ν) H → va_S (AA adr) s.heap H locs → W p l e rm_LR_field s m args below meth c H locs 0 0 Q (F0 m pc ls [.int res])) {H : Heap} {locs : List Loc} {ls : Array Slot} (hP : va_P D cls (wld adr cA μ ν) H) (hS : va_S (AA adr) s.heap H locs) (hl : lv_has ls 3 [(0, .ref (adr 0)), (1, .int x1), (2, .int x2)]) : W p l e rm_LR_field s m args below meth c H locs 0 0 Q (F0 m 0 ls []) := by
  obtain ⟨hx, hb, hml, hown, hts, hr, hlocks⟩ := id C
  unfold f_LR_field at hf
  refine lv_aload_n hx hb d_LR_field_0 rfl (lv_at hl 0 rfl) ?_
  refine g_LR_isLaid hx hb hts hown hG hP (hts _ in_178) d_LR_field_1 ?_
  refine lv_if_ne (tgt := 10) hx hb d_LR_field_4 (by decide) (fun hc => ?_) (fun hc => ?_)
  · replace hf := if_n hc hf
    refine lv_aload_n hx hb d_LR_field_10 rfl (lv_at hl 0 rfl) ?_
    refine g_LR_relief hx hb hts hown hG hP (hts _ in_176) d_LR_field_11 ?_
    refine lv_iload_n hx hb d_LR_field_14 rfl (lv_at hl 1 rfl) ?_
    refine ki (kv (As := [.int x1]) (rest := []) ⟨hx, hb, hml, hown, hts⟩ (cw_LR_90 hts ⟨Nat.le_of_ble_eq_true rfl, Nat.le_of_ble_eq_true rfl⟩) (c_RE_isField l D adr cA μ ν x1) hG hP (rc_o (q := 18) (ci := 2) hG hP (by decide) (wc_C (by decide) rfl) rfl) rfl hl.1 (Nat.le_of_ble_eq_true rfl) d_LR_field_15) hS (fun H locs hP hS => ?_)
    refine lv_if_eq (tgt := 30) hx hb d_LR_field_18 (by decide) (fun hc => ?_) (fun hc => ?_)
    · replace hf := if_p hc hf
      refine lv_ldc (v := (-2000001)) hx hb hown (hts _ in_403) d_LR_field_30 ?_
      obtain rfl := Option.some.inj hf
      exact hq _ _ _ _ d_LR_field_32 hP hS
    · replace hf := if_n hc hf
      refine lv_iload_n hx hb d_LR_field_21 rfl (lv_at hl 2 rfl) ?_
      refine lv_if_lt (tgt := 30) hx hb d_LR_field_22 (by decide) (fun hc => ?_) (fun hc => ?_)
      · replace hf := if_p hc hf
        refine lv_ldc (v := (-2000001)) hx hb hown (hts _ in_403) d_LR_field_30 ?_
        obtain rfl := Option.some.inj hf
        exact hq _ _ _ _ d_LR_field_32 hP hS
      · replace hf := if_n hc hf
        refine lv_iload_n hx hb d_LR_field_25 rfl (lv_at hl 2 rfl) ?_
        refine lv_iconst (v := 5) hx hb d_LR_field_26 (by decide) ?_
        refine lv_icmp_le (tgt := 33) hx hb d_LR_field_27 (by decide) (fun hc => ?_) (fun hc => ?_)
        · replace hf := if_p hc hf
          refine lv_aload_n hx hb d_LR_field_33 rfl (lv_at hl 0 rfl) ?_
          refine g_LR_relief hx hb hts hown hG hP (hts _ in_176) d_LR_field_34 ?_
          refine lv_iload_n hx hb d_LR_field_37 rfl (lv_at hl 1 rfl) ?_
          refine ki (kv (As := [.int x1]) (rest := []) ⟨hx, hb, hml, hown, hts⟩ (cw_LR_94 hts ⟨Nat.le_of_ble_eq_true rfl, Nat.le_of_ble_eq_true rfl⟩) (c_RE_isLand l D adr cA μ ν x1) hG hP (rc_o (q := 18) (ci := 2) hG hP (by decide) (wc_C (by decide) rfl) rfl) rfl hl.1 (Nat.le_of_ble_eq_true rfl) d_LR_field_38) hS (fun H locs hP hS => ?_)
          refine lv_if_ne (tgt := 64) hx hb d_LR_field_41 (by decide) (fun hc => ?_) (fun hc => ?_)
          · replace hf := if_n hc hf
            refine lv_iload_n hx hb d_LR_field_64 rfl (lv_at hl 2 rfl) ?_
            by_cases hc0 : x2 = 0
            · replace hf := if_p hc0 hf
              refine lv_tableIn (tgt := 100) (off := 35) hx hb d_LR_field_65 (by rw [hc0]; decide) (by rw [hc0]; decide) (by rw [hc0]; rfl) (by decide) ?_
              refine lv_iconst (v := 0) hx hb d_LR_field_100 (by decide) ?_
              obtain rfl := Option.some.inj hf
              exact hq _ _ _ _ d_LR_field_101 hP hS
            replace hf := if_n hc0 hf
            by_cases hc1 : x2 = 1
            · replace hf := if_p hc1 hf
              refine lv_tableIn (tgt := 102) (off := 37) hx hb d_LR_field_65 (by rw [hc1]; decide) (by rw [hc1]; decide) (by rw [hc1]; rfl) (by decide) ?_
              refine lv_aload_n hx hb d_LR_field_102 rfl (lv_at hl 0 rfl) ?_
              refine g_LR_relief hx hb hts hown hG hP (hts _ in_176) d_LR_field_103 ?_
              refine g_RE_height hx hb hts hown hG hP (hts _ in_46) d_LR_field_106 ?_
              refine lv_iload_n hx hb d_LR_field_109 rfl (lv_at hl 1 rfl) ?_
              replace hf := G_some hf
              obtain ⟨hi1, hf⟩ := hf
              refine r_iald hx hb hG hP 19 64 (f := μ.1 19) (by decide) (wc_C (by decide) rfl) hi1 d_LR_field_110 ?_
              obtain rfl := Option.some.inj hf
              exact hq _ _ _ _ d_LR_field_111 hP hS
            replace hf := if_n hc1 hf
            by_cases hc2 : x2 = 2
            · replace hf := if_p hc2 hf
              refine lv_tableIn (tgt := 112) (off := 47) hx hb d_LR_field_65 (by rw [hc2]; decide) (by rw [hc2]; decide) (by rw [hc2]; rfl) (by decide) ?_
              refine lv_aload_n hx hb d_LR_field_112 rfl (lv_at hl 0 rfl) ?_
              refine g_LR_relief hx hb hts hown hG hP (hts _ in_176) d_LR_field_113 ?_
              refine g_RE_down hx hb hts hown hG hP (hts _ in_48) d_LR_field_116 ?_
              refine lv_iload_n hx hb d_LR_field_119 rfl (lv_at hl 1 rfl) ?_
              replace hf := G_some hf
              obtain ⟨hi2, hf⟩ := hf
              refine r_iald hx hb hG hP 20 64 (f := μ.1 20) (by decide) (wc_C (by decide) rfl) hi2 d_LR_field_120 ?_
              obtain rfl := Option.some.inj hf
              exact hq _ _ _ _ d_LR_field_121 hP hS
            replace hf := if_n hc2 hf
            by_cases hc3 : x2 = 3
            · replace hf := if_p hc3 hf
              refine lv_tableIn (tgt := 122) (off := 57) hx hb d_LR_field_65 (by rw [hc3]; decide) (by rw [hc3]; decide) (by rw [hc3]; rfl) (by decide) ?_
              refine lv_aload_n hx hb d_LR_field_122 rfl (lv_at hl 0 rfl) ?_
              refine g_LR_relief hx hb hts hown hG hP (hts _ in_176) d_LR_field_123 ?_
              refine g_RE_wayEnd hx hb hts hown hG hP (hts _ in_50) d_LR_field_126 ?_
              refine lv_iload_n hx hb d_LR_field_129 rfl (lv_at hl 1 rfl) ?_
              replace hf := G_some hf
              obtain ⟨hi3, hf⟩ := hf
              refine r_iald hx hb hG hP 21 64 (f := μ.1 21) (by decide) (wc_C (by decide) rfl) hi3 d_LR_field_130 ?_
              obtain rfl := Option.some.inj hf
              exact hq _ _ _ _ d_LR_field_131 hP hS
            replace hf := if_n hc3 hf
            by_cases hc4 : x2 = 4
            · replace hf := if_p hc4 hf
              refine lv_tableIn (tgt := 132) (off := 67) hx hb d_LR_field_65 (by rw [hc4]; decide) (by rw [hc4]; decide) (by rw [hc4]; rfl) (by decide) ?_
              refine lv_aload_n hx hb d_LR_field_132 rfl (lv_at hl 0 rfl) ?_
              refine g_LR_relief hx hb hts hown hG hP (hts _ in_176) d_LR_field_133 ?_
              refine g_RE_fill hx hb hts hown hG hP (hts _ in_53) d_LR_field_136 ?_
              refine lv_iload_n hx hb d_LR_field_139 rfl (lv_at hl 1 rfl) ?_
              replace hf := G_some hf
              obtain ⟨hi4, hf⟩ := hf
              refine r_iald hx hb hG hP 22 64 (f := μ.1 22) (by decide) (wc_C (by decide) rfl) hi4 d_LR_field_140 ?_
              obtain rfl := Option.some.inj hf
              exact hq _ _ _ _ d_LR_field_141 hP hS
            replace hf := if_n hc4 hf
            refine lv_tableOut (tgt := 142) hx hb d_LR_field_65 (by have hn0 := sw_ne (k := 0) hc0 (by decide) (by decide); have hn1 := sw_ne (k := 1) hc1 (by decide) (by decide); have hn2 := sw_ne (k := 2) hc2 (by decide) (by decide); have hn3 := sw_ne (k := 3) hc3 (by decide) (by decide); have hn4 := sw_ne (k := 4) hc4 (by decide) (by decide); omega) (by decide) ?_
            refine lv_aload_n hx hb d_LR_field_142 rfl (lv_at hl 0 rfl) ?_
            refine g_LR_lakes hx hb hts hown hG hP (hts _ in_177) d_LR_field_143 ?_
            refine lv_iload_n hx hb d_LR_field_146 rfl (lv_at hl 1 rfl) ?_
            replace hf := B_some hf
            obtain ⟨v5, hv5, hf⟩ := hf
            refine ki (kv (As := [.int x1]) (rest := []) ⟨hx, hb, hml, hown, hts⟩ (cw_LR_109 hts ⟨Nat.le_of_ble_eq_true rfl, Nat.le_of_ble_eq_true rfl⟩) (c_LK_thereWith l D adr cA μ ν x1 hv5) hG hP (rc_o (q := 26) (ci := 1) hG hP (by decide) (wc_C (by decide) rfl) rfl) rfl hl.1 (Nat.le_of_ble_eq_true rfl) d_LR_field_147) hS (fun H locs hP hS => ?_)
            obtain rfl := Option.some.inj hf
            exact hq _ _ _ _ d_LR_field_150 hP hS
          · replace hf := if_p hc hf
            refine lv_iload_n hx hb d_LR_field_44 rfl (lv_at hl 2 rfl) ?_
            refine lv_if_ne (tgt := 52) hx hb d_LR_field_45 (by decide) (fun hc => ?_) (fun hc => ?_)
            · replace hf := if_n hc hf
              refine lv_iload_n hx hb d_LR_field_52 rfl (lv_at hl 2 rfl) ?_
              refine lv_iconst (v := 5) hx hb d_LR_field_53 (by decide) ?_
              refine lv_icmp_ne (tgt := 62) hx hb d_LR_field_54 (by decide) (fun hc => ?_) (fun hc => ?_)
              · replace hf := if_n hc hf
                refine lv_iconst (v := 0) hx hb d_LR_field_62 (by decide) ?_
                obtain rfl := Option.some.inj hf
                exact hq _ _ _ _ d_LR_field_63 hP hS
              · replace hf := if_p hc hf
                refine lv_bipush (v := (-3)) hx hb d_LR_field_57 (by decide) ?_
                refine lv_goto (tgt := 63) hx hb d_LR_field_59 (by decide) ?_
                obtain rfl := Option.some.inj hf
                exact hq _ _ _ _ d_LR_field_63 hP hS
            · replace hf := if_p hc hf
              refine lv_iconst (v := 1) hx hb d_LR_field_48 (by decide) ?_
              refine lv_goto (tgt := 63) hx hb d_LR_field_49 (by decide) ?_
              obtain rfl := Option.some.inj hf
              exact hq _ _ _ _ d_LR_field_63 hP hS
        · replace hf := if_n hc hf
          refine lv_ldc (v := (-2000001)) hx hb hown (hts _ in_403) d_LR_field_30 ?_
          obtain rfl := Option.some.inj hf
          exact hq _ _ _ _ d_LR_field_32 hP hS
  · replace hf := if_p hc hf
    refine lv_ldc (v := (-2000002)) hx hb hown (hts _ in_401) d_LR_field_7 ?_
    obtain rfl := Option.some.inj hf
    exact hq _ _ _ _ d_LR_field_9 hP hS
theorem c_LR_field (l : Launch) (D : va_G) (adr : Nat → Nat) (cA : Nat → ClassId) (μ ν : Mem) (x1 : Int32) (x2 : Int32)  {res : Int32} (hf : f_LR_field μ x1 x2 = some res) : Met l y_LR_field (Cond.code y_LR_field prog_1_method_7_code 3 (Option.some Jvm.ClassFile.FieldType.int) :: lw_ok) rm_LR_field (va_Pc [.ref (adr 0), .int x1, .int x2] (Wd D adr cA μ ν)) (QI D adr cA res μ ν) 0 0 (AA adr) :=
  met_of (own := "LakeRelief") rfl rfl (Nat.le_of_ble_eq_true rfl) (fun p e s m below meth c C hG hP hS ls hl => w_LR_field x1 x2  C hG hf (fun pc ls H locs hd hP hS => ret_i C.1 C.2.1 C.2.2.2.2.2.1 C.2.2.2.2.2.2 hG hd hP hS) hP hS hl)
end X_LR_field
