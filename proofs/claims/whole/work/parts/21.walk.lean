section X_MO_field
variable {p : Program} {l : Launch} {e : Env} {s : State} {m : MethodId} {args : Array Value} {below : List Frame} {meth : Method} {c : Code} {Q : State → Prop}
variable {D : va_G} {adr : Nat → Nat} {cA : Nat → ClassId} {μ ν : Mem}
theorem d_MO_field_0 : decode prog_7_method_28_code 0 = .ok (.aload_n 0, 1) := by decide +kernel
theorem d_MO_field_1 : decode prog_7_method_28_code 1 = .ok (.getfield 156, 3) := by decide +kernel
theorem d_MO_field_4 : decode prog_7_method_28_code 4 = .ok (.ifCond .ne 6, 3) := by decide +kernel
theorem d_MO_field_7 : decode prog_7_method_28_code 7 = .ok (.ldc 183, 2) := by decide +kernel
theorem d_MO_field_9 : decode prog_7_method_28_code 9 = .ok (.ireturn, 1) := by decide +kernel
theorem d_MO_field_10 : decode prog_7_method_28_code 10 = .ok (.aload_n 0, 1) := by decide +kernel
theorem d_MO_field_11 : decode prog_7_method_28_code 11 = .ok (.iload_n 1, 1) := by decide +kernel
theorem d_MO_field_12 : decode prog_7_method_28_code 12 = .ok (.invokevirtual 184, 3) := by decide +kernel
theorem d_MO_field_15 : decode prog_7_method_28_code 15 = .ok (.ifCond .eq 15, 3) := by decide +kernel
theorem d_MO_field_18 : decode prog_7_method_28_code 18 = .ok (.iload_n 2, 1) := by decide +kernel
theorem d_MO_field_19 : decode prog_7_method_28_code 19 = .ok (.i2l, 1) := by decide +kernel
theorem d_MO_field_20 : decode prog_7_method_28_code 20 = .ok (.lconst 0, 1) := by decide +kernel
theorem d_MO_field_21 : decode prog_7_method_28_code 21 = .ok (.ldc2_w 187, 3) := by decide +kernel
theorem d_MO_field_24 : decode prog_7_method_28_code 24 = .ok (.invokestatic 80, 3) := by decide +kernel
theorem d_MO_field_27 : decode prog_7_method_28_code 27 = .ok (.ifCond .ne 6, 3) := by decide +kernel
theorem d_MO_field_30 : decode prog_7_method_28_code 30 = .ok (.ldc 189, 2) := by decide +kernel
theorem d_MO_field_32 : decode prog_7_method_28_code 32 = .ok (.ireturn, 1) := by decide +kernel
theorem d_MO_field_33 : decode prog_7_method_28_code 33 = .ok (.aload_n 0, 1) := by decide +kernel
theorem d_MO_field_34 : decode prog_7_method_28_code 34 = .ok (.getfield 19, 3) := by decide +kernel
theorem d_MO_field_37 : decode prog_7_method_28_code 37 = .ok (.iload_n 1, 1) := by decide +kernel
theorem d_MO_field_38 : decode prog_7_method_28_code 38 = .ok (.baload, 1) := by decide +kernel
theorem d_MO_field_39 : decode prog_7_method_28_code 39 = .ok (.ifCond .eq 23, 3) := by decide +kernel
theorem d_MO_field_42 : decode prog_7_method_28_code 42 = .ok (.iload_n 2, 1) := by decide +kernel
theorem d_MO_field_43 : decode prog_7_method_28_code 43 = .ok (.ifCond .ne 7, 3) := by decide +kernel
theorem d_MO_field_46 : decode prog_7_method_28_code 46 = .ok (.iconst 1, 1) := by decide +kernel
theorem d_MO_field_47 : decode prog_7_method_28_code 47 = .ok (.goto 14, 3) := by decide +kernel
theorem d_MO_field_50 : decode prog_7_method_28_code 50 = .ok (.iload_n 2, 1) := by decide +kernel
theorem d_MO_field_51 : decode prog_7_method_28_code 51 = .ok (.iconst 5, 1) := by decide +kernel
theorem d_MO_field_52 : decode prog_7_method_28_code 52 = .ok (.if_icmp .ne 8, 3) := by decide +kernel
theorem d_MO_field_55 : decode prog_7_method_28_code 55 = .ok (.bipush (-3), 2) := by decide +kernel
theorem d_MO_field_57 : decode prog_7_method_28_code 57 = .ok (.goto 4, 3) := by decide +kernel
theorem d_MO_field_60 : decode prog_7_method_28_code 60 = .ok (.iconst 0, 1) := by decide +kernel
theorem d_MO_field_61 : decode prog_7_method_28_code 61 = .ok (.ireturn, 1) := by decide +kernel
theorem d_MO_field_62 : decode prog_7_method_28_code 62 = .ok (.iload_n 2, 1) := by decide +kernel
theorem d_MO_field_63 : decode prog_7_method_28_code 63 = .ok (.tableswitch 63 0 4 #[33, 35, 42, 49, 56], 33) := by decide +kernel
theorem d_MO_field_96 : decode prog_7_method_28_code 96 = .ok (.iconst 0, 1) := by decide +kernel
theorem d_MO_field_97 : decode prog_7_method_28_code 97 = .ok (.ireturn, 1) := by decide +kernel
theorem d_MO_field_98 : decode prog_7_method_28_code 98 = .ok (.aload_n 0, 1) := by decide +kernel
theorem d_MO_field_99 : decode prog_7_method_28_code 99 = .ok (.getfield 23, 3) := by decide +kernel
theorem d_MO_field_102 : decode prog_7_method_28_code 102 = .ok (.iload_n 1, 1) := by decide +kernel
theorem d_MO_field_103 : decode prog_7_method_28_code 103 = .ok (.iaload, 1) := by decide +kernel
theorem d_MO_field_104 : decode prog_7_method_28_code 104 = .ok (.ireturn, 1) := by decide +kernel
theorem d_MO_field_105 : decode prog_7_method_28_code 105 = .ok (.aload_n 0, 1) := by decide +kernel
theorem d_MO_field_106 : decode prog_7_method_28_code 106 = .ok (.getfield 26, 3) := by decide +kernel
theorem d_MO_field_109 : decode prog_7_method_28_code 109 = .ok (.iload_n 1, 1) := by decide +kernel
theorem d_MO_field_110 : decode prog_7_method_28_code 110 = .ok (.iaload, 1) := by decide +kernel
theorem d_MO_field_111 : decode prog_7_method_28_code 111 = .ok (.ireturn, 1) := by decide +kernel
theorem d_MO_field_112 : decode prog_7_method_28_code 112 = .ok (.aload_n 0, 1) := by decide +kernel
theorem d_MO_field_113 : decode prog_7_method_28_code 113 = .ok (.getfield 29, 3) := by decide +kernel
theorem d_MO_field_116 : decode prog_7_method_28_code 116 = .ok (.iload_n 1, 1) := by decide +kernel
theorem d_MO_field_117 : decode prog_7_method_28_code 117 = .ok (.iaload, 1) := by decide +kernel
theorem d_MO_field_118 : decode prog_7_method_28_code 118 = .ok (.ireturn, 1) := by decide +kernel
theorem d_MO_field_119 : decode prog_7_method_28_code 119 = .ok (.aload_n 0, 1) := by decide +kernel
theorem d_MO_field_120 : decode prog_7_method_28_code 120 = .ok (.getfield 32, 3) := by decide +kernel
theorem d_MO_field_123 : decode prog_7_method_28_code 123 = .ok (.iload_n 1, 1) := by decide +kernel
theorem d_MO_field_124 : decode prog_7_method_28_code 124 = .ok (.iaload, 1) := by decide +kernel
theorem d_MO_field_125 : decode prog_7_method_28_code 125 = .ok (.ireturn, 1) := by decide +kernel
theorem d_MO_field_126 : decode prog_7_method_28_code 126 = .ok (.aload_n 0, 1) := by decide +kernel
theorem d_MO_field_127 : decode prog_7_method_28_code 127 = .ok (.iload_n 1, 1) := by decide +kernel
theorem d_MO_field_128 : decode prog_7_method_28_code 128 = .ok (.invokevirtual 190, 3) := by decide +kernel
theorem d_MO_field_131 : decode prog_7_method_28_code 131 = .ok (.ireturn, 1) := by decide +kernel
set_option maxHeartbeats 4000000 in
set_option maxRecDepth 100000 in
theorem w_MO_field (x1 : Int32) (x2 : Int32)  (C : Cx prog_7_method_28_code 3 "LakeReliefModel" (Option.some Jvm.ClassFile.FieldType.int) p s m args meth c) (hG : Geo D adr cA s) {res : Int32} (hf : f_MO_field ν x1 x2 = some res) (hq : ∀ (pc : Nat) (ls : Array Slot) (H : Heap) (locs : List Loc), decode prog_7_method_28_code pc = .ok (.ireturn, 1) → va_P D cls (wld adr cA μ ν) H → va_S (AA adr) s.heap H locs → W p l e rm_MO_field s m args below meth c H locs 0 0 Q (F0 m pc ls [.int res])) {H : Heap} {locs : List Loc} {ls : Array Slot} (hP : va_P D cls (wld adr cA μ ν) H) (hS : va_S (AA adr) s.heap H locs) (hl : lv_has ls 3 [(0, .ref (adr 63)), (1, .int x1), (2, .int x2)]) : W p l e rm_MO_field s m args below meth c H locs 0 0 Q (F0 m 0 ls []) := by
  obtain ⟨hx, hb, hml, hown, hts, hr, hlocks⟩ := id C
  unfold f_MO_field at hf
  refine lv_aload_n hx hb d_MO_field_0 rfl (lv_at hl 0 rfl) ?_
  refine g_MO_isLaid hx hb hts hown hG hP (hts _ in_564) d_MO_field_1 ?_
  refine lv_if_ne (tgt := 10) hx hb d_MO_field_4 (by decide) (fun hc => ?_) (fun hc => ?_)
  · replace hf := if_n hc hf
    refine lv_aload_n hx hb d_MO_field_10 rfl (lv_at hl 0 rfl) ?_
    refine lv_iload_n hx hb d_MO_field_11 rfl (lv_at hl 1 rfl) ?_
    replace hf := B_some hf
    obtain ⟨v1, hv1, hf⟩ := hf
    refine ki (kv (As := [.int x1]) (rest := []) ⟨hx, hb, hml, hown, hts⟩ (cw_MO_184 hts ⟨Nat.le_of_ble_eq_true rfl, Nat.le_of_ble_eq_true rfl⟩) (c_MO_isField l D adr cA μ ν x1 hv1) hG hP (rc_o (q := 63) (ci := 5) hG hP (by decide) (wc_M (by decide) rfl) rfl) rfl hl.1 (Nat.le_of_ble_eq_true rfl) d_MO_field_12) hS (fun H locs hP hS => ?_)
    refine lv_if_eq (tgt := 30) hx hb d_MO_field_15 (by decide) (fun hc => ?_) (fun hc => ?_)
    · replace hf := if_p hc hf
      refine lv_ldc (v := (-2000001)) hx hb hown (hts _ in_759) d_MO_field_30 ?_
      obtain rfl := Option.some.inj hf
      exact hq _ _ _ _ d_MO_field_32 hP hS
    · replace hf := if_n hc hf
      refine lv_iload_n hx hb d_MO_field_18 rfl (lv_at hl 2 rfl) ?_
      refine lv_i2l hx hb d_MO_field_19 rfl ?_
      refine lv_lconst (v := 0) hx hb d_MO_field_20 (by decide) ?_
      refine lv_ldc2 (v := 5) hx hb hown (hts _ in_758) d_MO_field_21 ?_
      refine ki (ks (As := [.long x2.toInt64, .long 0, .long 5]) (rest := []) ⟨hx, hb, hml, hown, hts⟩ (cw_MO_80 hts ⟨Nat.le_of_ble_eq_true rfl, Nat.le_of_ble_eq_true rfl⟩) (c_MO_in l D adr cA μ ν x2.toInt64 0 5) hG hP rfl hl.1 (Nat.le_of_ble_eq_true rfl) d_MO_field_24) hS (fun H locs hP hS => ?_)
      refine lv_if_ne (tgt := 33) hx hb d_MO_field_27 (by decide) (fun hc => ?_) (fun hc => ?_)
      · replace hf := if_n hc hf
        refine lv_aload_n hx hb d_MO_field_33 rfl (lv_at hl 0 rfl) ?_
        refine g_MO_isSea hx hb hts hown hG hP (hts _ in_567) d_MO_field_34 ?_
        refine lv_iload_n hx hb d_MO_field_37 rfl (lv_at hl 1 rfl) ?_
        replace hf := G_some hf
        obtain ⟨hi2, hf⟩ := hf
        refine r_zald hx hb hG hP 67 64 (f := ν.1 67) (by decide) (wc_M (by decide) rfl) hi2 d_MO_field_38 ?_
        refine lv_if_eq (tgt := 62) hx hb d_MO_field_39 (by decide) (fun hc => ?_) (fun hc => ?_)
        · replace hf := if_p hc hf
          refine lv_iload_n hx hb d_MO_field_62 rfl (lv_at hl 2 rfl) ?_
          by_cases hc0 : x2 = 0
          · replace hf := if_p hc0 hf
            refine lv_tableIn (tgt := 96) (off := 33) hx hb d_MO_field_63 (by rw [hc0]; decide) (by rw [hc0]; decide) (by rw [hc0]; rfl) (by decide) ?_
            refine lv_iconst (v := 0) hx hb d_MO_field_96 (by decide) ?_
            obtain rfl := Option.some.inj hf
            exact hq _ _ _ _ d_MO_field_97 hP hS
          replace hf := if_n hc0 hf
          by_cases hc1 : x2 = 1
          · replace hf := if_p hc1 hf
            refine lv_tableIn (tgt := 98) (off := 35) hx hb d_MO_field_63 (by rw [hc1]; decide) (by rw [hc1]; decide) (by rw [hc1]; rfl) (by decide) ?_
            refine lv_aload_n hx hb d_MO_field_98 rfl (lv_at hl 0 rfl) ?_
            refine g_MO_height hx hb hts hown hG hP (hts _ in_568) d_MO_field_99 ?_
            refine lv_iload_n hx hb d_MO_field_102 rfl (lv_at hl 1 rfl) ?_
            replace hf := G_some hf
            obtain ⟨hi3, hf⟩ := hf
            refine r_iald hx hb hG hP 68 64 (f := ν.1 68) (by decide) (wc_M (by decide) rfl) hi3 d_MO_field_103 ?_
            obtain rfl := Option.some.inj hf
            exact hq _ _ _ _ d_MO_field_104 hP hS
          replace hf := if_n hc1 hf
          by_cases hc2 : x2 = 2
          · replace hf := if_p hc2 hf
            refine lv_tableIn (tgt := 105) (off := 42) hx hb d_MO_field_63 (by rw [hc2]; decide) (by rw [hc2]; decide) (by rw [hc2]; rfl) (by decide) ?_
            refine lv_aload_n hx hb d_MO_field_105 rfl (lv_at hl 0 rfl) ?_
            refine g_MO_down hx hb hts hown hG hP (hts _ in_569) d_MO_field_106 ?_
            refine lv_iload_n hx hb d_MO_field_109 rfl (lv_at hl 1 rfl) ?_
            replace hf := G_some hf
            obtain ⟨hi4, hf⟩ := hf
            refine r_iald hx hb hG hP 69 64 (f := ν.1 69) (by decide) (wc_M (by decide) rfl) hi4 d_MO_field_110 ?_
            obtain rfl := Option.some.inj hf
            exact hq _ _ _ _ d_MO_field_111 hP hS
          replace hf := if_n hc2 hf
          by_cases hc3 : x2 = 3
          · replace hf := if_p hc3 hf
            refine lv_tableIn (tgt := 112) (off := 49) hx hb d_MO_field_63 (by rw [hc3]; decide) (by rw [hc3]; decide) (by rw [hc3]; rfl) (by decide) ?_
            refine lv_aload_n hx hb d_MO_field_112 rfl (lv_at hl 0 rfl) ?_
            refine g_MO_wayEnd hx hb hts hown hG hP (hts _ in_570) d_MO_field_113 ?_
            refine lv_iload_n hx hb d_MO_field_116 rfl (lv_at hl 1 rfl) ?_
            replace hf := G_some hf
            obtain ⟨hi5, hf⟩ := hf
            refine r_iald hx hb hG hP 70 64 (f := ν.1 70) (by decide) (wc_M (by decide) rfl) hi5 d_MO_field_117 ?_
            obtain rfl := Option.some.inj hf
            exact hq _ _ _ _ d_MO_field_118 hP hS
          replace hf := if_n hc3 hf
          by_cases hc4 : x2 = 4
          · replace hf := if_p hc4 hf
            refine lv_tableIn (tgt := 119) (off := 56) hx hb d_MO_field_63 (by rw [hc4]; decide) (by rw [hc4]; decide) (by rw [hc4]; rfl) (by decide) ?_
            refine lv_aload_n hx hb d_MO_field_119 rfl (lv_at hl 0 rfl) ?_
            refine g_MO_fill hx hb hts hown hG hP (hts _ in_571) d_MO_field_120 ?_
            refine lv_iload_n hx hb d_MO_field_123 rfl (lv_at hl 1 rfl) ?_
            replace hf := G_some hf
            obtain ⟨hi6, hf⟩ := hf
            refine r_iald hx hb hG hP 71 64 (f := ν.1 71) (by decide) (wc_M (by decide) rfl) hi6 d_MO_field_124 ?_
            obtain rfl := Option.some.inj hf
            exact hq _ _ _ _ d_MO_field_125 hP hS
          replace hf := if_n hc4 hf
          refine lv_tableOut (tgt := 126) hx hb d_MO_field_63 (by have hn0 := sw_ne (k := 0) hc0 (by decide) (by decide); have hn1 := sw_ne (k := 1) hc1 (by decide) (by decide); have hn2 := sw_ne (k := 2) hc2 (by decide) (by decide); have hn3 := sw_ne (k := 3) hc3 (by decide) (by decide); have hn4 := sw_ne (k := 4) hc4 (by decide) (by decide); omega) (by decide) ?_
          refine lv_aload_n hx hb d_MO_field_126 rfl (lv_at hl 0 rfl) ?_
          refine lv_iload_n hx hb d_MO_field_127 rfl (lv_at hl 1 rfl) ?_
          replace hf := B_some hf
          obtain ⟨v7, hv7, hf⟩ := hf
          refine ki (kv (As := [.int x1]) (rest := []) ⟨hx, hb, hml, hown, hts⟩ (cw_MO_190 hts ⟨Nat.le_of_ble_eq_true rfl, Nat.le_of_ble_eq_true rfl⟩) (c_MO_lakeAt l D adr cA μ ν x1 hv7) hG hP (rc_o (q := 63) (ci := 5) hG hP (by decide) (wc_M (by decide) rfl) rfl) rfl hl.1 (Nat.le_of_ble_eq_true rfl) d_MO_field_128) hS (fun H locs hP hS => ?_)
          obtain rfl := Option.some.inj hf
          exact hq _ _ _ _ d_MO_field_131 hP hS
        · replace hf := if_n hc hf
          refine lv_iload_n hx hb d_MO_field_42 rfl (lv_at hl 2 rfl) ?_
          refine lv_if_ne (tgt := 50) hx hb d_MO_field_43 (by decide) (fun hc => ?_) (fun hc => ?_)
          · replace hf := if_n hc hf
            refine lv_iload_n hx hb d_MO_field_50 rfl (lv_at hl 2 rfl) ?_
            refine lv_iconst (v := 5) hx hb d_MO_field_51 (by decide) ?_
            refine lv_icmp_ne (tgt := 60) hx hb d_MO_field_52 (by decide) (fun hc => ?_) (fun hc => ?_)
            · replace hf := if_n hc hf
              refine lv_iconst (v := 0) hx hb d_MO_field_60 (by decide) ?_
              obtain rfl := Option.some.inj hf
              exact hq _ _ _ _ d_MO_field_61 hP hS
            · replace hf := if_p hc hf
              refine lv_bipush (v := (-3)) hx hb d_MO_field_55 (by decide) ?_
              refine lv_goto (tgt := 61) hx hb d_MO_field_57 (by decide) ?_
              obtain rfl := Option.some.inj hf
              exact hq _ _ _ _ d_MO_field_61 hP hS
          · replace hf := if_p hc hf
            refine lv_iconst (v := 1) hx hb d_MO_field_46 (by decide) ?_
            refine lv_goto (tgt := 61) hx hb d_MO_field_47 (by decide) ?_
            obtain rfl := Option.some.inj hf
            exact hq _ _ _ _ d_MO_field_61 hP hS
      · replace hf := if_p hc hf
        refine lv_ldc (v := (-2000001)) hx hb hown (hts _ in_759) d_MO_field_30 ?_
        obtain rfl := Option.some.inj hf
        exact hq _ _ _ _ d_MO_field_32 hP hS
  · replace hf := if_p hc hf
    refine lv_ldc (v := (-2000002)) hx hb hown (hts _ in_753) d_MO_field_7 ?_
    obtain rfl := Option.some.inj hf
    exact hq _ _ _ _ d_MO_field_9 hP hS
theorem c_MO_field (l : Launch) (D : va_G) (adr : Nat → Nat) (cA : Nat → ClassId) (μ ν : Mem) (x1 : Int32) (x2 : Int32)  {res : Int32} (hf : f_MO_field ν x1 x2 = some res) : Met l y_MO_field (Cond.code y_MO_field prog_7_method_28_code 3 (Option.some Jvm.ClassFile.FieldType.int) :: lw_ok) rm_MO_field (va_Pc [.ref (adr 63), .int x1, .int x2] (Wd D adr cA μ ν)) (QI D adr cA res μ ν) 0 0 (AA adr) :=
  met_of (own := "LakeReliefModel") rfl rfl (Nat.le_of_ble_eq_true rfl) (fun p e s m below meth c C hG hP hS ls hl => w_MO_field x1 x2  C hG hf (fun pc ls H locs hd hP hS => ret_i C.1 C.2.1 C.2.2.2.2.2.1 C.2.2.2.2.2.2 hG hd hP hS) hP hS hl)
end X_MO_field
section X_MO_hollow
variable {p : Program} {l : Launch} {e : Env} {s : State} {m : MethodId} {args : Array Value} {below : List Frame} {meth : Method} {c : Code} {Q : State → Prop}
variable {D : va_G} {adr : Nat → Nat} {cA : Nat → ClassId} {μ ν : Mem}
theorem d_MO_hollow_0 : decode prog_7_method_29_code 0 = .ok (.aload_n 0, 1) := by decide +kernel
theorem d_MO_hollow_1 : decode prog_7_method_29_code 1 = .ok (.getfield 156, 3) := by decide +kernel
theorem d_MO_hollow_4 : decode prog_7_method_29_code 4 = .ok (.ifCond .ne 6, 3) := by decide +kernel
theorem d_MO_hollow_7 : decode prog_7_method_29_code 7 = .ok (.bipush (-2), 2) := by decide +kernel
theorem d_MO_hollow_9 : decode prog_7_method_29_code 9 = .ok (.ireturn, 1) := by decide +kernel
theorem d_MO_hollow_10 : decode prog_7_method_29_code 10 = .ok (.iload_n 1, 1) := by decide +kernel
theorem d_MO_hollow_11 : decode prog_7_method_29_code 11 = .ok (.ifCond .ge 5, 3) := by decide +kernel
theorem d_MO_hollow_14 : decode prog_7_method_29_code 14 = .ok (.iconst (-1), 1) := by decide +kernel
theorem d_MO_hollow_15 : decode prog_7_method_29_code 15 = .ok (.ireturn, 1) := by decide +kernel
theorem d_MO_hollow_16 : decode prog_7_method_29_code 16 = .ok (.iload_n 1, 1) := by decide +kernel
theorem d_MO_hollow_17 : decode prog_7_method_29_code 17 = .ok (.istore_n 2, 1) := by decide +kernel
theorem d_MO_hollow_18 : decode prog_7_method_29_code 18 = .ok (.iconst 0, 1) := by decide +kernel
theorem d_MO_hollow_19 : decode prog_7_method_29_code 19 = .ok (.istore_n 3, 1) := by decide +kernel
theorem d_MO_hollow_20 : decode prog_7_method_29_code 20 = .ok (.iload_n 3, 1) := by decide +kernel
theorem d_MO_hollow_21 : decode prog_7_method_29_code 21 = .ok (.aload_n 0, 1) := by decide +kernel
theorem d_MO_hollow_22 : decode prog_7_method_29_code 22 = .ok (.getfield 102, 3) := by decide +kernel
theorem d_MO_hollow_25 : decode prog_7_method_29_code 25 = .ok (.if_icmp .ge 38, 3) := by decide +kernel
theorem d_MO_hollow_28 : decode prog_7_method_29_code 28 = .ok (.aload_n 0, 1) := by decide +kernel
theorem d_MO_hollow_29 : decode prog_7_method_29_code 29 = .ok (.getfield 19, 3) := by decide +kernel
theorem d_MO_hollow_32 : decode prog_7_method_29_code 32 = .ok (.iload_n 3, 1) := by decide +kernel
theorem d_MO_hollow_33 : decode prog_7_method_29_code 33 = .ok (.baload, 1) := by decide +kernel
theorem d_MO_hollow_34 : decode prog_7_method_29_code 34 = .ok (.ifCond .ne 23, 3) := by decide +kernel
theorem d_MO_hollow_37 : decode prog_7_method_29_code 37 = .ok (.aload_n 0, 1) := by decide +kernel
theorem d_MO_hollow_38 : decode prog_7_method_29_code 38 = .ok (.getfield 26, 3) := by decide +kernel
theorem d_MO_hollow_41 : decode prog_7_method_29_code 41 = .ok (.iload_n 3, 1) := by decide +kernel
theorem d_MO_hollow_42 : decode prog_7_method_29_code 42 = .ok (.iaload, 1) := by decide +kernel
theorem d_MO_hollow_43 : decode prog_7_method_29_code 43 = .ok (.bipush (-3), 2) := by decide +kernel
theorem d_MO_hollow_45 : decode prog_7_method_29_code 45 = .ok (.if_icmp .ne 12, 3) := by decide +kernel
theorem d_MO_hollow_48 : decode prog_7_method_29_code 48 = .ok (.iload_n 2, 1) := by decide +kernel
theorem d_MO_hollow_49 : decode prog_7_method_29_code 49 = .ok (.ifCond .ne 5, 3) := by decide +kernel
theorem d_MO_hollow_52 : decode prog_7_method_29_code 52 = .ok (.iload_n 3, 1) := by decide +kernel
theorem d_MO_hollow_53 : decode prog_7_method_29_code 53 = .ok (.ireturn, 1) := by decide +kernel
theorem d_MO_hollow_54 : decode prog_7_method_29_code 54 = .ok (.iinc 2 (-1), 3) := by decide +kernel
theorem d_MO_hollow_57 : decode prog_7_method_29_code 57 = .ok (.iinc 3 1, 3) := by decide +kernel
theorem d_MO_hollow_60 : decode prog_7_method_29_code 60 = .ok (.goto (-40), 3) := by decide +kernel
theorem d_MO_hollow_63 : decode prog_7_method_29_code 63 = .ok (.bipush (-3), 2) := by decide +kernel
theorem d_MO_hollow_65 : decode prog_7_method_29_code 65 = .ok (.ireturn, 1) := by decide +kernel
set_option maxHeartbeats 4000000 in
set_option maxRecDepth 100000 in
theorem w_MO_hollow_L20   (C : Cx prog_7_method_29_code 4 "LakeReliefModel" (Option.some Jvm.ClassFile.FieldType.int) p s m args meth c) (hG : Geo D adr cA s) (K : Unit → Option (Int32)) {res : Int32} (hq : ∀ (pc : Nat) (ls : Array Slot) (H : Heap) (locs : List Loc), decode prog_7_method_29_code pc = .ok (.ireturn, 1) → va_P D cls (wld adr cA μ ν) H → va_S (AA adr) s.heap H locs → W p l e rm_MO_hollow s m args below meth c H locs 0 0 Q (F0 m pc ls [.int res])) (hE : ∀ (u : Unit), K u = some res → ∀ (H : Heap) (locs : List Loc) (ls : Array Slot), va_P D cls (wld adr cA μ ν) H → va_S (AA adr) s.heap H locs → lv_has ls 4 [] → W p l e rm_MO_hollow s m args below meth c H locs 0 0 Q (F0 m 63 ls [])) : ∀ (n : Nat) (y2 : Int32) (y3 : Int32), f_MO_hollow_L20 ν K n y2 y3 = some res → ∀ {H : Heap} {locs : List Loc} {ls : Array Slot}, va_P D cls (wld adr cA μ ν) H → va_S (AA adr) s.heap H locs → lv_has ls 4 [(0, .ref (adr 63)), (2, .int y2), (3, .int y3)] → W p l e rm_MO_hollow s m args below meth c H locs 0 0 Q (F0 m 20 ls []) := by
  obtain ⟨hx, hb, hml, hown, hts, hr, hlocks⟩ := id C
  intro n
  induction n with
  | zero => intro y2 y3 hf; rw [f_MO_hollow_L20.eq_1] at hf; cases hf
  | succ n ih =>
    intro y2 y3 hf H locs ls hP hS hl
    rw [f_MO_hollow_L20.eq_2] at hf
    refine lv_iload_n hx hb d_MO_hollow_20 rfl (lv_at hl 2 rfl) ?_
    refine lv_aload_n hx hb d_MO_hollow_21 rfl (lv_at hl 0 rfl) ?_
    refine g_MO_fields hx hb hts hown hG hP (hts _ in_566) d_MO_hollow_22 ?_
    refine lv_icmp_ge (tgt := 63) hx hb d_MO_hollow_25 (by decide) (fun hc => ?_) (fun hc => ?_)
    · replace hf := if_p hc hf
      exact hE _ hf _ _ _ hP hS (lv_sub hl [] rfl)
    · replace hf := if_n hc hf
      refine lv_aload_n hx hb d_MO_hollow_28 rfl (lv_at hl 0 rfl) ?_
      refine g_MO_isSea hx hb hts hown hG hP (hts _ in_567) d_MO_hollow_29 ?_
      refine lv_iload_n hx hb d_MO_hollow_32 rfl (lv_at hl 2 rfl) ?_
      replace hf := G_some hf
      obtain ⟨hi1, hf⟩ := hf
      refine r_zald hx hb hG hP 67 64 (f := ν.1 67) (by decide) (wc_M (by decide) rfl) hi1 d_MO_hollow_33 ?_
      refine lv_if_ne (tgt := 57) hx hb d_MO_hollow_34 (by decide) (fun hc => ?_) (fun hc => ?_)
      · replace hf := if_n hc hf
        refine lv_iinc (v := (y3 + 1)) (lv' := [(3, .int (y3 + 1)), (0, .ref (adr 63)), (2, .int y2)]) hx hb d_MO_hollow_57 hl (k := 2) rfl rfl (by decide) rfl (fun ls hl => ?_)
        refine lv_goto (tgt := 20) hx hb d_MO_hollow_60 (by decide) ?_
        exact ih _ _ hf hP hS (lv_sub hl [1, 2, 0] rfl)
      · replace hf := if_p hc hf
        refine lv_aload_n hx hb d_MO_hollow_37 rfl (lv_at hl 0 rfl) ?_
        refine g_MO_down hx hb hts hown hG hP (hts _ in_569) d_MO_hollow_38 ?_
        refine lv_iload_n hx hb d_MO_hollow_41 rfl (lv_at hl 2 rfl) ?_
        replace hf := G_some hf
        obtain ⟨hi2, hf⟩ := hf
        refine r_iald hx hb hG hP 69 64 (f := ν.1 69) (by decide) (wc_M (by decide) rfl) hi2 d_MO_hollow_42 ?_
        refine lv_bipush (v := (-3)) hx hb d_MO_hollow_43 (by decide) ?_
        refine lv_icmp_ne (tgt := 57) hx hb d_MO_hollow_45 (by decide) (fun hc => ?_) (fun hc => ?_)
        · replace hf := if_n hc hf
          refine lv_iinc (v := (y3 + 1)) (lv' := [(3, .int (y3 + 1)), (0, .ref (adr 63)), (2, .int y2)]) hx hb d_MO_hollow_57 hl (k := 2) rfl rfl (by decide) rfl (fun ls hl => ?_)
          refine lv_goto (tgt := 20) hx hb d_MO_hollow_60 (by decide) ?_
          exact ih _ _ hf hP hS (lv_sub hl [1, 2, 0] rfl)
        · replace hf := if_p hc hf
          refine lv_iload_n hx hb d_MO_hollow_48 rfl (lv_at hl 1 rfl) ?_
          refine lv_if_ne (tgt := 54) hx hb d_MO_hollow_49 (by decide) (fun hc => ?_) (fun hc => ?_)
          · replace hf := if_n hc hf
            refine lv_iinc (v := (y2 + (-1))) (lv' := [(2, .int (y2 + (-1))), (0, .ref (adr 63)), (3, .int y3)]) hx hb d_MO_hollow_54 hl (k := 1) rfl rfl (by decide) rfl (fun ls hl => ?_)
            refine lv_iinc (v := (y3 + 1)) (lv' := [(3, .int (y3 + 1)), (2, .int (y2 + (-1))), (0, .ref (adr 63))]) hx hb d_MO_hollow_57 hl (k := 2) rfl rfl (by decide) rfl (fun ls hl => ?_)
            refine lv_goto (tgt := 20) hx hb d_MO_hollow_60 (by decide) ?_
            exact ih _ _ hf hP hS (lv_sub hl [2, 1, 0] rfl)
          · replace hf := if_p hc hf
            refine lv_iload_n hx hb d_MO_hollow_52 rfl (lv_at hl 2 rfl) ?_
            obtain rfl := Option.some.inj hf
            exact hq _ _ _ _ d_MO_hollow_53 hP hS
set_option maxHeartbeats 4000000 in
set_option maxRecDepth 100000 in
theorem w_MO_hollow (x1 : Int32)  (C : Cx prog_7_method_29_code 4 "LakeReliefModel" (Option.some Jvm.ClassFile.FieldType.int) p s m args meth c) (hG : Geo D adr cA s) {res : Int32} (hf : f_MO_hollow ν x1 = some res) (hq : ∀ (pc : Nat) (ls : Array Slot) (H : Heap) (locs : List Loc), decode prog_7_method_29_code pc = .ok (.ireturn, 1) → va_P D cls (wld adr cA μ ν) H → va_S (AA adr) s.heap H locs → W p l e rm_MO_hollow s m args below meth c H locs 0 0 Q (F0 m pc ls [.int res])) {H : Heap} {locs : List Loc} {ls : Array Slot} (hP : va_P D cls (wld adr cA μ ν) H) (hS : va_S (AA adr) s.heap H locs) (hl : lv_has ls 4 [(0, .ref (adr 63)), (1, .int x1)]) : W p l e rm_MO_hollow s m args below meth c H locs 0 0 Q (F0 m 0 ls []) := by
  obtain ⟨hx, hb, hml, hown, hts, hr, hlocks⟩ := id C
  unfold f_MO_hollow at hf
  refine lv_aload_n hx hb d_MO_hollow_0 rfl (lv_at hl 0 rfl) ?_
  refine g_MO_isLaid hx hb hts hown hG hP (hts _ in_564) d_MO_hollow_1 ?_
  refine lv_if_ne (tgt := 10) hx hb d_MO_hollow_4 (by decide) (fun hc => ?_) (fun hc => ?_)
  · replace hf := if_n hc hf
    refine lv_iload_n hx hb d_MO_hollow_10 rfl (lv_at hl 1 rfl) ?_
    refine lv_if_ge (tgt := 16) hx hb d_MO_hollow_11 (by decide) (fun hc => ?_) (fun hc => ?_)
    · replace hf := if_p hc hf
      refine lv_iload_n hx hb d_MO_hollow_16 rfl (lv_at hl 1 rfl) ?_
      refine lv_istore_n (lv' := [(2, .int x1), (0, .ref (adr 63)), (1, .int x1)]) hx hb d_MO_hollow_17 rfl hl (by decide) rfl (fun ls hl => ?_)
      refine lv_iconst (v := 0) hx hb d_MO_hollow_18 (by decide) ?_
      refine lv_istore_n (lv' := [(3, .int 0), (2, .int x1), (0, .ref (adr 63)), (1, .int x1)]) hx hb d_MO_hollow_19 rfl hl (by decide) rfl (fun ls hl => ?_)
      refine w_MO_hollow_L20   C hG _ hq ?_ FU _ _ hf hP hS (lv_sub hl [2, 1, 0] rfl)
      clear hf hP hS hl
      intro u hf H locs ls hP hS hl
      refine lv_bipush (v := (-3)) hx hb d_MO_hollow_63 (by decide) ?_
      obtain rfl := Option.some.inj hf
      exact hq _ _ _ _ d_MO_hollow_65 hP hS
    · replace hf := if_n hc hf
      refine lv_iconst (v := (-1)) hx hb d_MO_hollow_14 (by decide) ?_
      obtain rfl := Option.some.inj hf
      exact hq _ _ _ _ d_MO_hollow_15 hP hS
  · replace hf := if_p hc hf
    refine lv_bipush (v := (-2)) hx hb d_MO_hollow_7 (by decide) ?_
    obtain rfl := Option.some.inj hf
    exact hq _ _ _ _ d_MO_hollow_9 hP hS
theorem c_MO_hollow (l : Launch) (D : va_G) (adr : Nat → Nat) (cA : Nat → ClassId) (μ ν : Mem) (x1 : Int32)  {res : Int32} (hf : f_MO_hollow ν x1 = some res) : Met l y_MO_hollow (Cond.code y_MO_hollow prog_7_method_29_code 4 (Option.some Jvm.ClassFile.FieldType.int) :: lw_ok) rm_MO_hollow (va_Pc [.ref (adr 63), .int x1] (Wd D adr cA μ ν)) (QI D adr cA res μ ν) 0 0 (AA adr) :=
  met_of (own := "LakeReliefModel") rfl rfl (Nat.le_of_ble_eq_true rfl) (fun p e s m below meth c C hG hP hS ls hl => w_MO_hollow x1  C hG hf (fun pc ls H locs hd hP hS => ret_i C.1 C.2.1 C.2.2.2.2.2.1 C.2.2.2.2.2.2 hG hd hP hS) hP hS hl)
end X_MO_hollow
section X_MO_isLake
variable {p : Program} {l : Launch} {e : Env} {s : State} {m : MethodId} {args : Array Value} {below : List Frame} {meth : Method} {c : Code} {Q : State → Prop}
variable {D : va_G} {adr : Nat → Nat} {cA : Nat → ClassId} {μ ν : Mem}
theorem d_MO_isLake_0 : decode prog_7_method_30_code 0 = .ok (.iload_n 1, 1) := by decide +kernel
theorem d_MO_isLake_1 : decode prog_7_method_30_code 1 = .ok (.i2l, 1) := by decide +kernel
theorem d_MO_isLake_2 : decode prog_7_method_30_code 2 = .ok (.lconst 0, 1) := by decide +kernel
theorem d_MO_isLake_3 : decode prog_7_method_30_code 3 = .ok (.aload_n 0, 1) := by decide +kernel
theorem d_MO_isLake_4 : decode prog_7_method_30_code 4 = .ok (.getfield 116, 3) := by decide +kernel
theorem d_MO_isLake_7 : decode prog_7_method_30_code 7 = .ok (.iconst 1, 1) := by decide +kernel
theorem d_MO_isLake_8 : decode prog_7_method_30_code 8 = .ok (.isub, 1) := by decide +kernel
theorem d_MO_isLake_9 : decode prog_7_method_30_code 9 = .ok (.i2l, 1) := by decide +kernel
theorem d_MO_isLake_10 : decode prog_7_method_30_code 10 = .ok (.invokestatic 80, 3) := by decide +kernel
theorem d_MO_isLake_13 : decode prog_7_method_30_code 13 = .ok (.ireturn, 1) := by decide +kernel
set_option maxHeartbeats 4000000 in
set_option maxRecDepth 100000 in
theorem w_MO_isLake (x1 : Int32)  (C : Cx prog_7_method_30_code 2 "LakeReliefModel" (Option.some Jvm.ClassFile.FieldType.boolean) p s m args meth c) (hG : Geo D adr cA s) {res : Int32} (hf : f_MO_isLake ν x1 = some res) (hq : ∀ (pc : Nat) (ls : Array Slot) (H : Heap) (locs : List Loc), res &&& 1 = res → decode prog_7_method_30_code pc = .ok (.ireturn, 1) → va_P D cls (wld adr cA μ ν) H → va_S (AA adr) s.heap H locs → W p l e rm_MO_isLake s m args below meth c H locs 0 0 Q (F0 m pc ls [.int res])) {H : Heap} {locs : List Loc} {ls : Array Slot} (hP : va_P D cls (wld adr cA μ ν) H) (hS : va_S (AA adr) s.heap H locs) (hl : lv_has ls 2 [(0, .ref (adr 63)), (1, .int x1)]) : W p l e rm_MO_isLake s m args below meth c H locs 0 0 Q (F0 m 0 ls []) := by
  obtain ⟨hx, hb, hml, hown, hts, hr, hlocks⟩ := id C
  unfold f_MO_isLake at hf
  refine lv_iload_n hx hb d_MO_isLake_0 rfl (lv_at hl 1 rfl) ?_
  refine lv_i2l hx hb d_MO_isLake_1 rfl ?_
  refine lv_lconst (v := 0) hx hb d_MO_isLake_2 (by decide) ?_
  refine lv_aload_n hx hb d_MO_isLake_3 rfl (lv_at hl 0 rfl) ?_
  refine g_MO_lakes hx hb hts hown hG hP (hts _ in_572) d_MO_isLake_4 ?_
  refine lv_iconst (v := 1) hx hb d_MO_isLake_7 (by decide) ?_
  refine lv_isub hx hb d_MO_isLake_8 ?_
  refine lv_i2l hx hb d_MO_isLake_9 rfl ?_
  refine ki (ks (As := [.long x1.toInt64, .long 0, .long ((ν.1 63 11) - 1).toInt64]) (rest := []) ⟨hx, hb, hml, hown, hts⟩ (cw_MO_80 hts ⟨Nat.le_of_ble_eq_true rfl, Nat.le_of_ble_eq_true rfl⟩) (c_MO_in l D adr cA μ ν x1.toInt64 0 (((ν.1 63 11) - 1).toInt64)) hG hP rfl hl.1 (Nat.le_of_ble_eq_true rfl) d_MO_isLake_10) hS (fun H locs hP hS => ?_)
  replace hf := Bg_some hf
  obtain ⟨hb1, hf⟩ := hf
  obtain rfl := Option.some.inj hf
  exact hq _ _ _ _ hb1 d_MO_isLake_13 hP hS
theorem c_MO_isLake (l : Launch) (D : va_G) (adr : Nat → Nat) (cA : Nat → ClassId) (μ ν : Mem) (x1 : Int32)  {res : Int32} (hf : f_MO_isLake ν x1 = some res) : Met l y_MO_isLake (Cond.code y_MO_isLake prog_7_method_30_code 2 (Option.some Jvm.ClassFile.FieldType.boolean) :: lw_ok) rm_MO_isLake (va_Pc [.ref (adr 63), .int x1] (Wd D adr cA μ ν)) (QI D adr cA res μ ν) 0 0 (AA adr) :=
  met_of (own := "LakeReliefModel") rfl rfl (Nat.le_of_ble_eq_true rfl) (fun p e s m below meth c C hG hP hS ls hl => w_MO_isLake x1  C hG hf (fun pc ls H locs hz hd hP hS => ret_z C.1 C.2.1 C.2.2.2.2.2.1 C.2.2.2.2.2.2 hG hz hd hP hS) hP hS hl)
end X_MO_isLake
section X_MO_holdsTo
variable {p : Program} {l : Launch} {e : Env} {s : State} {m : MethodId} {args : Array Value} {below : List Frame} {meth : Method} {c : Code} {Q : State → Prop}
variable {D : va_G} {adr : Nat → Nat} {cA : Nat → ClassId} {μ ν : Mem}
theorem d_MO_holdsTo_0 : decode prog_7_method_31_code 0 = .ok (.iconst 0, 1) := by decide +kernel
theorem d_MO_holdsTo_1 : decode prog_7_method_31_code 1 = .ok (.istore_n 3, 1) := by decide +kernel
theorem d_MO_holdsTo_2 : decode prog_7_method_31_code 2 = .ok (.iconst 0, 1) := by decide +kernel
theorem d_MO_holdsTo_3 : decode prog_7_method_31_code 3 = .ok (.istore 4, 2) := by decide +kernel
theorem d_MO_holdsTo_5 : decode prog_7_method_31_code 5 = .ok (.iload 4, 2) := by decide +kernel
theorem d_MO_holdsTo_7 : decode prog_7_method_31_code 7 = .ok (.aload_n 0, 1) := by decide +kernel
theorem d_MO_holdsTo_8 : decode prog_7_method_31_code 8 = .ok (.getfield 102, 3) := by decide +kernel
theorem d_MO_holdsTo_11 : decode prog_7_method_31_code 11 = .ok (.if_icmp .ge 46, 3) := by decide +kernel
theorem d_MO_holdsTo_14 : decode prog_7_method_31_code 14 = .ok (.iload_n 3, 1) := by decide +kernel
theorem d_MO_holdsTo_15 : decode prog_7_method_31_code 15 = .ok (.aload_n 0, 1) := by decide +kernel
theorem d_MO_holdsTo_16 : decode prog_7_method_31_code 16 = .ok (.iload_n 1, 1) := by decide +kernel
theorem d_MO_holdsTo_17 : decode prog_7_method_31_code 17 = .ok (.iload 4, 2) := by decide +kernel
theorem d_MO_holdsTo_19 : decode prog_7_method_31_code 19 = .ok (.invokevirtual 180, 3) := by decide +kernel
theorem d_MO_holdsTo_22 : decode prog_7_method_31_code 22 = .ok (.ifCond .eq 26, 3) := by decide +kernel
theorem d_MO_holdsTo_25 : decode prog_7_method_31_code 25 = .ok (.aload_n 0, 1) := by decide +kernel
theorem d_MO_holdsTo_26 : decode prog_7_method_31_code 26 = .ok (.getfield 23, 3) := by decide +kernel
theorem d_MO_holdsTo_29 : decode prog_7_method_31_code 29 = .ok (.iload 4, 2) := by decide +kernel
theorem d_MO_holdsTo_31 : decode prog_7_method_31_code 31 = .ok (.iaload, 1) := by decide +kernel
theorem d_MO_holdsTo_32 : decode prog_7_method_31_code 32 = .ok (.iload_n 2, 1) := by decide +kernel
theorem d_MO_holdsTo_33 : decode prog_7_method_31_code 33 = .ok (.if_icmp .ge 15, 3) := by decide +kernel
theorem d_MO_holdsTo_36 : decode prog_7_method_31_code 36 = .ok (.iload_n 2, 1) := by decide +kernel
theorem d_MO_holdsTo_37 : decode prog_7_method_31_code 37 = .ok (.aload_n 0, 1) := by decide +kernel
theorem d_MO_holdsTo_38 : decode prog_7_method_31_code 38 = .ok (.getfield 23, 3) := by decide +kernel
theorem d_MO_holdsTo_41 : decode prog_7_method_31_code 41 = .ok (.iload 4, 2) := by decide +kernel
theorem d_MO_holdsTo_43 : decode prog_7_method_31_code 43 = .ok (.iaload, 1) := by decide +kernel
theorem d_MO_holdsTo_44 : decode prog_7_method_31_code 44 = .ok (.isub, 1) := by decide +kernel
theorem d_MO_holdsTo_45 : decode prog_7_method_31_code 45 = .ok (.goto 4, 3) := by decide +kernel
theorem d_MO_holdsTo_48 : decode prog_7_method_31_code 48 = .ok (.iconst 0, 1) := by decide +kernel
theorem d_MO_holdsTo_49 : decode prog_7_method_31_code 49 = .ok (.iadd, 1) := by decide +kernel
theorem d_MO_holdsTo_50 : decode prog_7_method_31_code 50 = .ok (.istore_n 3, 1) := by decide +kernel
theorem d_MO_holdsTo_51 : decode prog_7_method_31_code 51 = .ok (.iinc 4 1, 3) := by decide +kernel
theorem d_MO_holdsTo_54 : decode prog_7_method_31_code 54 = .ok (.goto (-49), 3) := by decide +kernel
theorem d_MO_holdsTo_57 : decode prog_7_method_31_code 57 = .ok (.iload_n 3, 1) := by decide +kernel
theorem d_MO_holdsTo_58 : decode prog_7_method_31_code 58 = .ok (.ireturn, 1) := by decide +kernel
set_option maxHeartbeats 4000000 in
set_option maxRecDepth 100000 in
theorem w_MO_holdsTo_L5 (y1 : Int32) (y2 : Int32)  (C : Cx prog_7_method_31_code 5 "LakeReliefModel" (Option.some Jvm.ClassFile.FieldType.int) p s m args meth c) (hG : Geo D adr cA s) (v : Int32) (hE : ∀ (H : Heap) (locs : List Loc) (ls : Array Slot), va_P D cls (wld adr cA μ ν) H → va_S (AA adr) s.heap H locs → lv_has ls 5 [(3, .int v)] → W p l e rm_MO_holdsTo s m args below meth c H locs 0 0 Q (F0 m 57 ls [])) : ∀ (n : Nat) (y3 : Int32) (y4 : Int32), f_MO_holdsTo_L5 ν y1 y2 n y3 y4 = some v → ∀ {H : Heap} {locs : List Loc} {ls : Array Slot}, va_P D cls (wld adr cA μ ν) H → va_S (AA adr) s.heap H locs → lv_has ls 5 [(0, .ref (adr 63)), (1, .int y1), (2, .int y2), (3, .int y3), (4, .int y4)] → W p l e rm_MO_holdsTo s m args below meth c H locs 0 0 Q (F0 m 5 ls []) := by
  obtain ⟨hx, hb, hml, hown, hts, hr, hlocks⟩ := id C
  intro n
  induction n with
  | zero => intro y3 y4 hf; rw [f_MO_holdsTo_L5.eq_1] at hf; cases hf
  | succ n ih =>
    intro y3 y4 hf H locs ls hP hS hl
    rw [f_MO_holdsTo_L5.eq_2] at hf
    refine lv_iload hx hb d_MO_holdsTo_5 (lv_at hl 4 rfl) ?_
    refine lv_aload_n hx hb d_MO_holdsTo_7 rfl (lv_at hl 0 rfl) ?_
    refine g_MO_fields hx hb hts hown hG hP (hts _ in_566) d_MO_holdsTo_8 ?_
    refine lv_icmp_ge (tgt := 57) hx hb d_MO_holdsTo_11 (by decide) (fun hc => ?_) (fun hc => ?_)
    · replace hf := if_p hc hf
      obtain rfl := Option.some.inj hf
      exact hE _ _ _ hP hS (lv_sub hl [3] rfl)
    · replace hf := if_n hc hf
      refine lv_iload_n hx hb d_MO_holdsTo_14 rfl (lv_at hl 3 rfl) ?_
      refine lv_aload_n hx hb d_MO_holdsTo_15 rfl (lv_at hl 0 rfl) ?_
      refine lv_iload_n hx hb d_MO_holdsTo_16 rfl (lv_at hl 1 rfl) ?_
      refine lv_iload hx hb d_MO_holdsTo_17 (lv_at hl 4 rfl) ?_
      replace hf := B_some hf
      obtain ⟨v1, hv1, hf⟩ := hf
      refine ki (kv (As := [.int y1, .int y4]) (rest := [.int y3]) ⟨hx, hb, hml, hown, hts⟩ (cw_MO_180 hts ⟨Nat.le_of_ble_eq_true rfl, Nat.le_of_ble_eq_true rfl⟩) (c_MO_isOf l D adr cA μ ν y1 y4 hv1) hG hP (rc_o (q := 63) (ci := 5) hG hP (by decide) (wc_M (by decide) rfl) rfl) rfl hl.1 (Nat.le_of_ble_eq_true rfl) d_MO_holdsTo_19) hS (fun H locs hP hS => ?_)
      replace hf := B_some hf
      obtain ⟨v2, hv2, hf⟩ := hf
      have hJ : ∀ (H : Heap) (locs : List Loc) (ls : Array Slot), va_P D cls (wld adr cA μ ν) H → va_S (AA adr) s.heap H locs → lv_has ls 5 [(0, .ref (adr 63)), (1, .int y1), (2, .int y2), (4, .int y4)] → W p l e rm_MO_holdsTo s m args below meth c H locs 0 0 Q (F0 m 49 ls [.int v2, .int y3]) := by
        clear hv2
        intro H locs ls hP hS hl
        refine lv_iadd hx hb d_MO_holdsTo_49 ?_
        refine lv_istore_n (lv' := [(3, .int (y3 + v2)), (0, .ref (adr 63)), (1, .int y1), (2, .int y2), (4, .int y4)]) hx hb d_MO_holdsTo_50 rfl hl (by decide) rfl (fun ls hl => ?_)
        refine lv_iinc (v := (y4 + 1)) (lv' := [(4, .int (y4 + 1)), (3, .int (y3 + v2)), (0, .ref (adr 63)), (1, .int y1), (2, .int y2)]) hx hb d_MO_holdsTo_51 hl (k := 4) rfl rfl (by decide) rfl (fun ls hl => ?_)
        refine lv_goto (tgt := 5) hx hb d_MO_holdsTo_54 (by decide) ?_
        exact ih _ _ hf hP hS (lv_sub hl [2, 3, 4, 1, 0] rfl)
      clear hf
      have hf := hv2
      clear hv2
      refine lv_if_eq (tgt := 48) hx hb d_MO_holdsTo_22 (by decide) (fun hc => ?_) (fun hc => ?_)
      · replace hf := if_p hc hf
        refine lv_iconst (v := 0) hx hb d_MO_holdsTo_48 (by decide) ?_
        obtain rfl := Option.some.inj hf
        exact hJ _ _ _ hP hS (lv_sub hl [0, 1, 2, 4] rfl)
      · replace hf := if_n hc hf
        refine lv_aload_n hx hb d_MO_holdsTo_25 rfl (lv_at hl 0 rfl) ?_
        refine g_MO_height hx hb hts hown hG hP (hts _ in_568) d_MO_holdsTo_26 ?_
        refine lv_iload hx hb d_MO_holdsTo_29 (lv_at hl 4 rfl) ?_
        replace hf := G_some hf
        obtain ⟨hi3, hf⟩ := hf
        refine r_iald hx hb hG hP 68 64 (f := ν.1 68) (by decide) (wc_M (by decide) rfl) hi3 d_MO_holdsTo_31 ?_
        refine lv_iload_n hx hb d_MO_holdsTo_32 rfl (lv_at hl 2 rfl) ?_
        refine lv_icmp_ge (tgt := 48) hx hb d_MO_holdsTo_33 (by decide) (fun hc => ?_) (fun hc => ?_)
        · replace hf := if_p hc hf
          refine lv_iconst (v := 0) hx hb d_MO_holdsTo_48 (by decide) ?_
          obtain rfl := Option.some.inj hf
          exact hJ _ _ _ hP hS (lv_sub hl [0, 1, 2, 4] rfl)
        · replace hf := if_n hc hf
          refine lv_iload_n hx hb d_MO_holdsTo_36 rfl (lv_at hl 2 rfl) ?_
          refine lv_aload_n hx hb d_MO_holdsTo_37 rfl (lv_at hl 0 rfl) ?_
          refine g_MO_height hx hb hts hown hG hP (hts _ in_568) d_MO_holdsTo_38 ?_
          refine lv_iload hx hb d_MO_holdsTo_41 (lv_at hl 4 rfl) ?_
          replace hf := G_some hf
          obtain ⟨hi4, hf⟩ := hf
          refine r_iald hx hb hG hP 68 64 (f := ν.1 68) (by decide) (wc_M (by decide) rfl) hi4 d_MO_holdsTo_43 ?_
          refine lv_isub hx hb d_MO_holdsTo_44 ?_
          refine lv_goto (tgt := 49) hx hb d_MO_holdsTo_45 (by decide) ?_
          obtain rfl := Option.some.inj hf
          exact hJ _ _ _ hP hS (lv_sub hl [0, 1, 2, 4] rfl)
set_option maxHeartbeats 4000000 in
set_option maxRecDepth 100000 in
theorem w_MO_holdsTo (x1 : Int32) (x2 : Int32)  (C : Cx prog_7_method_31_code 5 "LakeReliefModel" (Option.some Jvm.ClassFile.FieldType.int) p s m args meth c) (hG : Geo D adr cA s) {res : Int32} (hf : f_MO_holdsTo ν x1 x2 = some res) (hq : ∀ (pc : Nat) (ls : Array Slot) (H : Heap) (locs : List Loc), decode prog_7_method_31_code pc = .ok (.ireturn, 1) → va_P D cls (wld adr cA μ ν) H → va_S (AA adr) s.heap H locs → W p l e rm_MO_holdsTo s m args below meth c H locs 0 0 Q (F0 m pc ls [.int res])) {H : Heap} {locs : List Loc} {ls : Array Slot} (hP : va_P D cls (wld adr cA μ ν) H) (hS : va_S (AA adr) s.heap H locs) (hl : lv_has ls 5 [(0, .ref (adr 63)), (1, .int x1), (2, .int x2)]) : W p l e rm_MO_holdsTo s m args below meth c H locs 0 0 Q (F0 m 0 ls []) := by
  obtain ⟨hx, hb, hml, hown, hts, hr, hlocks⟩ := id C
  unfold f_MO_holdsTo at hf
  refine lv_iconst (v := 0) hx hb d_MO_holdsTo_0 (by decide) ?_
  refine lv_istore_n (lv' := [(3, .int 0), (0, .ref (adr 63)), (1, .int x1), (2, .int x2)]) hx hb d_MO_holdsTo_1 rfl hl (by decide) rfl (fun ls hl => ?_)
  refine lv_iconst (v := 0) hx hb d_MO_holdsTo_2 (by decide) ?_
  refine lv_istore (lv' := [(4, .int 0), (3, .int 0), (0, .ref (adr 63)), (1, .int x1), (2, .int x2)]) hx hb d_MO_holdsTo_3 hl (by decide) rfl (fun ls hl => ?_)
  replace hf := B_some hf
  obtain ⟨v5, hv5, hf⟩ := hf
  refine w_MO_holdsTo_L5 x1 x2  C hG v5 ?_ FU _ _ hv5 hP hS (lv_sub hl [2, 3, 4, 1, 0] rfl)
  clear hv5 hP hS hl
  intro H locs ls hP hS hl
  refine lv_iload_n hx hb d_MO_holdsTo_57 rfl (lv_at hl 0 rfl) ?_
  obtain rfl := Option.some.inj hf
  exact hq _ _ _ _ d_MO_holdsTo_58 hP hS
theorem c_MO_holdsTo (l : Launch) (D : va_G) (adr : Nat → Nat) (cA : Nat → ClassId) (μ ν : Mem) (x1 : Int32) (x2 : Int32)  {res : Int32} (hf : f_MO_holdsTo ν x1 x2 = some res) : Met l y_MO_holdsTo (Cond.code y_MO_holdsTo prog_7_method_31_code 5 (Option.some Jvm.ClassFile.FieldType.int) :: lw_ok) rm_MO_holdsTo (va_Pc [.ref (adr 63), .int x1, .int x2] (Wd D adr cA μ ν)) (QI D adr cA res μ ν) 0 0 (AA adr) :=
  met_of (own := "LakeReliefModel") rfl rfl (Nat.le_of_ble_eq_true rfl) (fun p e s m below meth c C hG hP hS ls hl => w_MO_holdsTo x1 x2  C hG hf (fun pc ls H locs hd hP hS => ret_i C.1 C.2.1 C.2.2.2.2.2.1 C.2.2.2.2.2.2 hG hd hP hS) hP hS hl)
end X_MO_holdsTo
section X_MO_most
variable {p : Program} {l : Launch} {e : Env} {s : State} {m : MethodId} {args : Array Value} {below : List Frame} {meth : Method} {c : Code} {Q : State → Prop}
variable {D : va_G} {adr : Nat → Nat} {cA : Nat → ClassId} {μ ν : Mem}
theorem d_MO_most_0 : decode prog_7_method_32_code 0 = .ok (.aload_n 0, 1) := by decide +kernel
theorem d_MO_most_1 : decode prog_7_method_32_code 1 = .ok (.iload_n 1, 1) := by decide +kernel
theorem d_MO_most_2 : decode prog_7_method_32_code 2 = .ok (.aload_n 0, 1) := by decide +kernel
theorem d_MO_most_3 : decode prog_7_method_32_code 3 = .ok (.getfield 23, 3) := by decide +kernel
theorem d_MO_most_6 : decode prog_7_method_32_code 6 = .ok (.aload_n 0, 1) := by decide +kernel
theorem d_MO_most_7 : decode prog_7_method_32_code 7 = .ok (.getfield 42, 3) := by decide +kernel
theorem d_MO_most_10 : decode prog_7_method_32_code 10 = .ok (.iload_n 1, 1) := by decide +kernel
theorem d_MO_most_11 : decode prog_7_method_32_code 11 = .ok (.iaload, 1) := by decide +kernel
theorem d_MO_most_12 : decode prog_7_method_32_code 12 = .ok (.iaload, 1) := by decide +kernel
theorem d_MO_most_13 : decode prog_7_method_32_code 13 = .ok (.invokevirtual 193, 3) := by decide +kernel
theorem d_MO_most_16 : decode prog_7_method_32_code 16 = .ok (.ireturn, 1) := by decide +kernel
set_option maxHeartbeats 4000000 in
set_option maxRecDepth 100000 in
theorem w_MO_most (x1 : Int32)  (C : Cx prog_7_method_32_code 2 "LakeReliefModel" (Option.some Jvm.ClassFile.FieldType.int) p s m args meth c) (hG : Geo D adr cA s) {res : Int32} (hf : f_MO_most ν x1 = some res) (hq : ∀ (pc : Nat) (ls : Array Slot) (H : Heap) (locs : List Loc), decode prog_7_method_32_code pc = .ok (.ireturn, 1) → va_P D cls (wld adr cA μ ν) H → va_S (AA adr) s.heap H locs → W p l e rm_MO_most s m args below meth c H locs 0 0 Q (F0 m pc ls [.int res])) {H : Heap} {locs : List Loc} {ls : Array Slot} (hP : va_P D cls (wld adr cA μ ν) H) (hS : va_S (AA adr) s.heap H locs) (hl : lv_has ls 2 [(0, .ref (adr 63)), (1, .int x1)]) : W p l e rm_MO_most s m args below meth c H locs 0 0 Q (F0 m 0 ls []) := by
  obtain ⟨hx, hb, hml, hown, hts, hr, hlocks⟩ := id C
  unfold f_MO_most at hf
  refine lv_aload_n hx hb d_MO_most_0 rfl (lv_at hl 0 rfl) ?_
  refine lv_iload_n hx hb d_MO_most_1 rfl (lv_at hl 1 rfl) ?_
  refine lv_aload_n hx hb d_MO_most_2 rfl (lv_at hl 0 rfl) ?_
  refine g_MO_height hx hb hts hown hG hP (hts _ in_568) d_MO_most_3 ?_
  refine lv_aload_n hx hb d_MO_most_6 rfl (lv_at hl 0 rfl) ?_
  refine g_MO_rim hx hb hts hown hG hP (hts _ in_575) d_MO_most_7 ?_
  refine lv_iload_n hx hb d_MO_most_10 rfl (lv_at hl 1 rfl) ?_
  replace hf := G_some hf
  obtain ⟨hi1, hf⟩ := hf
  refine r_iald hx hb hG hP 74 64 (f := ν.1 74) (by decide) (wc_M (by decide) rfl) hi1 d_MO_most_11 ?_
  replace hf := G_some hf
  obtain ⟨hi2, hf⟩ := hf
  refine r_iald hx hb hG hP 68 64 (f := ν.1 68) (by decide) (wc_M (by decide) rfl) hi2 d_MO_most_12 ?_
  replace hf := B_some hf
  obtain ⟨v3, hv3, hf⟩ := hf
  refine ki (kv (As := [.int x1, .int (ν.1 68 (ν.1 74 x1.toNatClampNeg).toNatClampNeg)]) (rest := []) ⟨hx, hb, hml, hown, hts⟩ (cw_MO_193 hts ⟨Nat.le_of_ble_eq_true rfl, Nat.le_of_ble_eq_true rfl⟩) (c_MO_holdsTo l D adr cA μ ν x1 (ν.1 68 (ν.1 74 x1.toNatClampNeg).toNatClampNeg) hv3) hG hP (rc_o (q := 63) (ci := 5) hG hP (by decide) (wc_M (by decide) rfl) rfl) rfl hl.1 (Nat.le_of_ble_eq_true rfl) d_MO_most_13) hS (fun H locs hP hS => ?_)
  obtain rfl := Option.some.inj hf
  exact hq _ _ _ _ d_MO_most_16 hP hS
theorem c_MO_most (l : Launch) (D : va_G) (adr : Nat → Nat) (cA : Nat → ClassId) (μ ν : Mem) (x1 : Int32)  {res : Int32} (hf : f_MO_most ν x1 = some res) : Met l y_MO_most (Cond.code y_MO_most prog_7_method_32_code 2 (Option.some Jvm.ClassFile.FieldType.int) :: lw_ok) rm_MO_most (va_Pc [.ref (adr 63), .int x1] (Wd D adr cA μ ν)) (QI D adr cA res μ ν) 0 0 (AA adr) :=
  met_of (own := "LakeReliefModel") rfl rfl (Nat.le_of_ble_eq_true rfl) (fun p e s m below meth c C hG hP hS ls hl => w_MO_most x1  C hG hf (fun pc ls H locs hd hP hS => ret_i C.1 C.2.1 C.2.2.2.2.2.1 C.2.2.2.2.2.2 hG hd hP hS) hP hS hl)
end X_MO_most
section X_MO_lowest
variable {p : Program} {l : Launch} {e : Env} {s : State} {m : MethodId} {args : Array Value} {below : List Frame} {meth : Method} {c : Code} {Q : State → Prop}
variable {D : va_G} {adr : Nat → Nat} {cA : Nat → ClassId} {μ ν : Mem}
theorem d_MO_lowest_0 : decode prog_7_method_33_code 0 = .ok (.bipush (-3), 2) := by decide +kernel
theorem d_MO_lowest_2 : decode prog_7_method_33_code 2 = .ok (.istore_n 2, 1) := by decide +kernel
theorem d_MO_lowest_3 : decode prog_7_method_33_code 3 = .ok (.iconst 0, 1) := by decide +kernel
theorem d_MO_lowest_4 : decode prog_7_method_33_code 4 = .ok (.istore_n 3, 1) := by decide +kernel
theorem d_MO_lowest_5 : decode prog_7_method_33_code 5 = .ok (.iload_n 3, 1) := by decide +kernel
theorem d_MO_lowest_6 : decode prog_7_method_33_code 6 = .ok (.aload_n 0, 1) := by decide +kernel
theorem d_MO_lowest_7 : decode prog_7_method_33_code 7 = .ok (.getfield 102, 3) := by decide +kernel
theorem d_MO_lowest_10 : decode prog_7_method_33_code 10 = .ok (.if_icmp .ge 35, 3) := by decide +kernel
theorem d_MO_lowest_13 : decode prog_7_method_33_code 13 = .ok (.aload_n 0, 1) := by decide +kernel
theorem d_MO_lowest_14 : decode prog_7_method_33_code 14 = .ok (.iload_n 1, 1) := by decide +kernel
theorem d_MO_lowest_15 : decode prog_7_method_33_code 15 = .ok (.iload_n 3, 1) := by decide +kernel
theorem d_MO_lowest_16 : decode prog_7_method_33_code 16 = .ok (.invokevirtual 180, 3) := by decide +kernel
theorem d_MO_lowest_19 : decode prog_7_method_33_code 19 = .ok (.ifCond .eq 20, 3) := by decide +kernel
theorem d_MO_lowest_22 : decode prog_7_method_33_code 22 = .ok (.iload_n 2, 1) := by decide +kernel
theorem d_MO_lowest_23 : decode prog_7_method_33_code 23 = .ok (.bipush (-3), 2) := by decide +kernel
theorem d_MO_lowest_25 : decode prog_7_method_33_code 25 = .ok (.if_icmp .eq 12, 3) := by decide +kernel
theorem d_MO_lowest_28 : decode prog_7_method_33_code 28 = .ok (.aload_n 0, 1) := by decide +kernel
theorem d_MO_lowest_29 : decode prog_7_method_33_code 29 = .ok (.iload_n 3, 1) := by decide +kernel
theorem d_MO_lowest_30 : decode prog_7_method_33_code 30 = .ok (.iload_n 2, 1) := by decide +kernel
theorem d_MO_lowest_31 : decode prog_7_method_33_code 31 = .ok (.invokevirtual 111, 3) := by decide +kernel
theorem d_MO_lowest_34 : decode prog_7_method_33_code 34 = .ok (.ifCond .eq 5, 3) := by decide +kernel
theorem d_MO_lowest_37 : decode prog_7_method_33_code 37 = .ok (.iload_n 3, 1) := by decide +kernel
theorem d_MO_lowest_38 : decode prog_7_method_33_code 38 = .ok (.istore_n 2, 1) := by decide +kernel
theorem d_MO_lowest_39 : decode prog_7_method_33_code 39 = .ok (.iinc 3 1, 3) := by decide +kernel
theorem d_MO_lowest_42 : decode prog_7_method_33_code 42 = .ok (.goto (-37), 3) := by decide +kernel
theorem d_MO_lowest_45 : decode prog_7_method_33_code 45 = .ok (.iload_n 2, 1) := by decide +kernel
theorem d_MO_lowest_46 : decode prog_7_method_33_code 46 = .ok (.ireturn, 1) := by decide +kernel
set_option maxHeartbeats 4000000 in
set_option maxRecDepth 100000 in
theorem w_MO_lowest_L5 (y1 : Int32)  (C : Cx prog_7_method_33_code 4 "LakeReliefModel" (Option.some Jvm.ClassFile.FieldType.int) p s m args meth c) (hG : Geo D adr cA s) (v : Int32) (hE : ∀ (H : Heap) (locs : List Loc) (ls : Array Slot), va_P D cls (wld adr cA μ ν) H → va_S (AA adr) s.heap H locs → lv_has ls 4 [(2, .int v)] → W p l e rm_MO_lowest s m args below meth c H locs 0 0 Q (F0 m 45 ls [])) : ∀ (n : Nat) (y2 : Int32) (y3 : Int32), f_MO_lowest_L5 ν y1 n y2 y3 = some v → ∀ {H : Heap} {locs : List Loc} {ls : Array Slot}, va_P D cls (wld adr cA μ ν) H → va_S (AA adr) s.heap H locs → lv_has ls 4 [(0, .ref (adr 63)), (1, .int y1), (2, .int y2), (3, .int y3)] → W p l e rm_MO_lowest s m args below meth c H locs 0 0 Q (F0 m 5 ls []) := by
  obtain ⟨hx, hb, hml, hown, hts, hr, hlocks⟩ := id C
  intro n
  induction n with
  | zero => intro y2 y3 hf; rw [f_MO_lowest_L5.eq_1] at hf; cases hf
  | succ n ih =>
    intro y2 y3 hf H locs ls hP hS hl
    rw [f_MO_lowest_L5.eq_2] at hf
    refine lv_iload_n hx hb d_MO_lowest_5 rfl (lv_at hl 3 rfl) ?_
    refine lv_aload_n hx hb d_MO_lowest_6 rfl (lv_at hl 0 rfl) ?_
    refine g_MO_fields hx hb hts hown hG hP (hts _ in_566) d_MO_lowest_7 ?_
    refine lv_icmp_ge (tgt := 45) hx hb d_MO_lowest_10 (by decide) (fun hc => ?_) (fun hc => ?_)
    · replace hf := if_p hc hf
      obtain rfl := Option.some.inj hf
      exact hE _ _ _ hP hS (lv_sub hl [2] rfl)
    · replace hf := if_n hc hf
      refine lv_aload_n hx hb d_MO_lowest_13 rfl (lv_at hl 0 rfl) ?_
      refine lv_iload_n hx hb d_MO_lowest_14 rfl (lv_at hl 1 rfl) ?_
      refine lv_iload_n hx hb d_MO_lowest_15 rfl (lv_at hl 3 rfl) ?_
      replace hf := B_some hf
      obtain ⟨v1, hv1, hf⟩ := hf
      refine ki (kv (As := [.int y1, .int y3]) (rest := []) ⟨hx, hb, hml, hown, hts⟩ (cw_MO_180 hts ⟨Nat.le_of_ble_eq_true rfl, Nat.le_of_ble_eq_true rfl⟩) (c_MO_isOf l D adr cA μ ν y1 y3 hv1) hG hP (rc_o (q := 63) (ci := 5) hG hP (by decide) (wc_M (by decide) rfl) rfl) rfl hl.1 (Nat.le_of_ble_eq_true rfl) d_MO_lowest_16) hS (fun H locs hP hS => ?_)
      replace hf := B_some hf
      obtain ⟨v2, hv2, hf⟩ := hf
      have hJ : ∀ (H : Heap) (locs : List Loc) (ls : Array Slot), va_P D cls (wld adr cA μ ν) H → va_S (AA adr) s.heap H locs → lv_has ls 4 [(0, .ref (adr 63)), (1, .int y1), (2, .int v2), (3, .int y3)] → W p l e rm_MO_lowest s m args below meth c H locs 0 0 Q (F0 m 39 ls []) := by
        clear hv2
        intro H locs ls hP hS hl
        refine lv_iinc (v := (y3 + 1)) (lv' := [(3, .int (y3 + 1)), (0, .ref (adr 63)), (1, .int y1), (2, .int v2)]) hx hb d_MO_lowest_39 hl (k := 3) rfl rfl (by decide) rfl (fun ls hl => ?_)
        refine lv_goto (tgt := 5) hx hb d_MO_lowest_42 (by decide) ?_
        exact ih _ _ hf hP hS (lv_sub hl [1, 2, 3, 0] rfl)
      clear hf
      have hf := hv2
      clear hv2
      refine lv_if_eq (tgt := 39) hx hb d_MO_lowest_19 (by decide) (fun hc => ?_) (fun hc => ?_)
      · replace hf := if_p hc hf
        obtain rfl := Option.some.inj hf
        exact hJ _ _ _ hP hS (lv_sub hl [0, 1, 2, 3] rfl)
      · replace hf := if_n hc hf
        refine lv_iload_n hx hb d_MO_lowest_22 rfl (lv_at hl 2 rfl) ?_
        refine lv_bipush (v := (-3)) hx hb d_MO_lowest_23 (by decide) ?_
        refine lv_icmp_eq (tgt := 37) hx hb d_MO_lowest_25 (by decide) (fun hc => ?_) (fun hc => ?_)
        · replace hf := if_p hc hf
          refine lv_iload_n hx hb d_MO_lowest_37 rfl (lv_at hl 3 rfl) ?_
          refine lv_istore_n (lv' := [(2, .int y3), (0, .ref (adr 63)), (1, .int y1), (3, .int y3)]) hx hb d_MO_lowest_38 rfl hl (by decide) rfl (fun ls hl => ?_)
          obtain rfl := Option.some.inj hf
          exact hJ _ _ _ hP hS (lv_sub hl [1, 2, 0, 3] rfl)
        · replace hf := if_n hc hf
          refine lv_aload_n hx hb d_MO_lowest_28 rfl (lv_at hl 0 rfl) ?_
          refine lv_iload_n hx hb d_MO_lowest_29 rfl (lv_at hl 3 rfl) ?_
          refine lv_iload_n hx hb d_MO_lowest_30 rfl (lv_at hl 2 rfl) ?_
          replace hf := B_some hf
          obtain ⟨v3, hv3, hf⟩ := hf
          refine ki (kv (As := [.int y3, .int y2]) (rest := []) ⟨hx, hb, hml, hown, hts⟩ (cw_MO_111 hts ⟨Nat.le_of_ble_eq_true rfl, Nat.le_of_ble_eq_true rfl⟩) (c_MO_isLower l D adr cA μ ν y3 y2 hv3) hG hP (rc_o (q := 63) (ci := 5) hG hP (by decide) (wc_M (by decide) rfl) rfl) rfl hl.1 (Nat.le_of_ble_eq_true rfl) d_MO_lowest_31) hS (fun H locs hP hS => ?_)
          refine lv_if_eq (tgt := 39) hx hb d_MO_lowest_34 (by decide) (fun hc => ?_) (fun hc => ?_)
          · replace hf := if_p hc hf
            obtain rfl := Option.some.inj hf
            exact hJ _ _ _ hP hS (lv_sub hl [0, 1, 2, 3] rfl)
          · replace hf := if_n hc hf
            refine lv_iload_n hx hb d_MO_lowest_37 rfl (lv_at hl 3 rfl) ?_
            refine lv_istore_n (lv' := [(2, .int y3), (0, .ref (adr 63)), (1, .int y1), (3, .int y3)]) hx hb d_MO_lowest_38 rfl hl (by decide) rfl (fun ls hl => ?_)
            obtain rfl := Option.some.inj hf
            exact hJ _ _ _ hP hS (lv_sub hl [1, 2, 0, 3] rfl)
set_option maxHeartbeats 4000000 in
set_option maxRecDepth 100000 in
theorem w_MO_lowest (x1 : Int32)  (C : Cx prog_7_method_33_code 4 "LakeReliefModel" (Option.some Jvm.ClassFile.FieldType.int) p s m args meth c) (hG : Geo D adr cA s) {res : Int32} (hf : f_MO_lowest ν x1 = some res) (hq : ∀ (pc : Nat) (ls : Array Slot) (H : Heap) (locs : List Loc), decode prog_7_method_33_code pc = .ok (.ireturn, 1) → va_P D cls (wld adr cA μ ν) H → va_S (AA adr) s.heap H locs → W p l e rm_MO_lowest s m args below meth c H locs 0 0 Q (F0 m pc ls [.int res])) {H : Heap} {locs : List Loc} {ls : Array Slot} (hP : va_P D cls (wld adr cA μ ν) H) (hS : va_S (AA adr) s.heap H locs) (hl : lv_has ls 4 [(0, .ref (adr 63)), (1, .int x1)]) : W p l e rm_MO_lowest s m args below meth c H locs 0 0 Q (F0 m 0 ls []) := by
  obtain ⟨hx, hb, hml, hown, hts, hr, hlocks⟩ := id C
  unfold f_MO_lowest at hf
  refine lv_bipush (v := (-3)) hx hb d_MO_lowest_0 (by decide) ?_
  refine lv_istore_n (lv' := [(2, .int (-3)), (0, .ref (adr 63)), (1, .int x1)]) hx hb d_MO_lowest_2 rfl hl (by decide) rfl (fun ls hl => ?_)
  refine lv_iconst (v := 0) hx hb d_MO_lowest_3 (by decide) ?_
  refine lv_istore_n (lv' := [(3, .int 0), (2, .int (-3)), (0, .ref (adr 63)), (1, .int x1)]) hx hb d_MO_lowest_4 rfl hl (by decide) rfl (fun ls hl => ?_)
  replace hf := B_some hf
  obtain ⟨v4, hv4, hf⟩ := hf
  refine w_MO_lowest_L5 x1  C hG v4 ?_ FU _ _ hv4 hP hS (lv_sub hl [2, 3, 1, 0] rfl)
  clear hv4 hP hS hl
  intro H locs ls hP hS hl
  refine lv_iload_n hx hb d_MO_lowest_45 rfl (lv_at hl 0 rfl) ?_
  obtain rfl := Option.some.inj hf
  exact hq _ _ _ _ d_MO_lowest_46 hP hS
theorem c_MO_lowest (l : Launch) (D : va_G) (adr : Nat → Nat) (cA : Nat → ClassId) (μ ν : Mem) (x1 : Int32)  {res : Int32} (hf : f_MO_lowest ν x1 = some res) : Met l y_MO_lowest (Cond.code y_MO_lowest prog_7_method_33_code 4 (Option.some Jvm.ClassFile.FieldType.int) :: lw_ok) rm_MO_lowest (va_Pc [.ref (adr 63), .int x1] (Wd D adr cA μ ν)) (QI D adr cA res μ ν) 0 0 (AA adr) :=
  met_of (own := "LakeReliefModel") rfl rfl (Nat.le_of_ble_eq_true rfl) (fun p e s m below meth c C hG hP hS ls hl => w_MO_lowest x1  C hG hf (fun pc ls H locs hd hP hS => ret_i C.1 C.2.1 C.2.2.2.2.2.1 C.2.2.2.2.2.2 hG hd hP hS) hP hS hl)
end X_MO_lowest
section X_MO_groundSize
variable {p : Program} {l : Launch} {e : Env} {s : State} {m : MethodId} {args : Array Value} {below : List Frame} {meth : Method} {c : Code} {Q : State → Prop}
variable {D : va_G} {adr : Nat → Nat} {cA : Nat → ClassId} {μ ν : Mem}
theorem d_MO_groundSize_0 : decode prog_7_method_34_code 0 = .ok (.iconst 0, 1) := by decide +kernel
theorem d_MO_groundSize_1 : decode prog_7_method_34_code 1 = .ok (.istore_n 2, 1) := by decide +kernel
theorem d_MO_groundSize_2 : decode prog_7_method_34_code 2 = .ok (.iconst 0, 1) := by decide +kernel
theorem d_MO_groundSize_3 : decode prog_7_method_34_code 3 = .ok (.istore_n 3, 1) := by decide +kernel
theorem d_MO_groundSize_4 : decode prog_7_method_34_code 4 = .ok (.iload_n 3, 1) := by decide +kernel
theorem d_MO_groundSize_5 : decode prog_7_method_34_code 5 = .ok (.aload_n 0, 1) := by decide +kernel
theorem d_MO_groundSize_6 : decode prog_7_method_34_code 6 = .ok (.getfield 102, 3) := by decide +kernel
theorem d_MO_groundSize_9 : decode prog_7_method_34_code 9 = .ok (.if_icmp .ge 26, 3) := by decide +kernel
theorem d_MO_groundSize_12 : decode prog_7_method_34_code 12 = .ok (.iload_n 2, 1) := by decide +kernel
theorem d_MO_groundSize_13 : decode prog_7_method_34_code 13 = .ok (.aload_n 0, 1) := by decide +kernel
theorem d_MO_groundSize_14 : decode prog_7_method_34_code 14 = .ok (.iload_n 1, 1) := by decide +kernel
theorem d_MO_groundSize_15 : decode prog_7_method_34_code 15 = .ok (.iload_n 3, 1) := by decide +kernel
theorem d_MO_groundSize_16 : decode prog_7_method_34_code 16 = .ok (.invokevirtual 180, 3) := by decide +kernel
theorem d_MO_groundSize_19 : decode prog_7_method_34_code 19 = .ok (.ifCond .eq 7, 3) := by decide +kernel
theorem d_MO_groundSize_22 : decode prog_7_method_34_code 22 = .ok (.iconst 1, 1) := by decide +kernel
theorem d_MO_groundSize_23 : decode prog_7_method_34_code 23 = .ok (.goto 4, 3) := by decide +kernel
theorem d_MO_groundSize_26 : decode prog_7_method_34_code 26 = .ok (.iconst 0, 1) := by decide +kernel
theorem d_MO_groundSize_27 : decode prog_7_method_34_code 27 = .ok (.iadd, 1) := by decide +kernel
theorem d_MO_groundSize_28 : decode prog_7_method_34_code 28 = .ok (.istore_n 2, 1) := by decide +kernel
theorem d_MO_groundSize_29 : decode prog_7_method_34_code 29 = .ok (.iinc 3 1, 3) := by decide +kernel
theorem d_MO_groundSize_32 : decode prog_7_method_34_code 32 = .ok (.goto (-28), 3) := by decide +kernel
theorem d_MO_groundSize_35 : decode prog_7_method_34_code 35 = .ok (.iload_n 2, 1) := by decide +kernel
theorem d_MO_groundSize_36 : decode prog_7_method_34_code 36 = .ok (.ireturn, 1) := by decide +kernel
set_option maxHeartbeats 4000000 in
set_option maxRecDepth 100000 in
theorem w_MO_groundSize_L4 (y1 : Int32)  (C : Cx prog_7_method_34_code 4 "LakeReliefModel" (Option.some Jvm.ClassFile.FieldType.int) p s m args meth c) (hG : Geo D adr cA s) (v : Int32) (hE : ∀ (H : Heap) (locs : List Loc) (ls : Array Slot), va_P D cls (wld adr cA μ ν) H → va_S (AA adr) s.heap H locs → lv_has ls 4 [(2, .int v)] → W p l e rm_MO_groundSize s m args below meth c H locs 0 0 Q (F0 m 35 ls [])) : ∀ (n : Nat) (y2 : Int32) (y3 : Int32), f_MO_groundSize_L4 ν y1 n y2 y3 = some v → ∀ {H : Heap} {locs : List Loc} {ls : Array Slot}, va_P D cls (wld adr cA μ ν) H → va_S (AA adr) s.heap H locs → lv_has ls 4 [(0, .ref (adr 63)), (1, .int y1), (2, .int y2), (3, .int y3)] → W p l e rm_MO_groundSize s m args below meth c H locs 0 0 Q (F0 m 4 ls []) := by
  obtain ⟨hx, hb, hml, hown, hts, hr, hlocks⟩ := id C
  intro n
  induction n with
  | zero => intro y2 y3 hf; rw [f_MO_groundSize_L4.eq_1] at hf; cases hf
  | succ n ih =>
    intro y2 y3 hf H locs ls hP hS hl
    rw [f_MO_groundSize_L4.eq_2] at hf
    refine lv_iload_n hx hb d_MO_groundSize_4 rfl (lv_at hl 3 rfl) ?_
    refine lv_aload_n hx hb d_MO_groundSize_5 rfl (lv_at hl 0 rfl) ?_
    refine g_MO_fields hx hb hts hown hG hP (hts _ in_566) d_MO_groundSize_6 ?_
    refine lv_icmp_ge (tgt := 35) hx hb d_MO_groundSize_9 (by decide) (fun hc => ?_) (fun hc => ?_)
    · replace hf := if_p hc hf
      obtain rfl := Option.some.inj hf
      exact hE _ _ _ hP hS (lv_sub hl [2] rfl)
    · replace hf := if_n hc hf
      refine lv_iload_n hx hb d_MO_groundSize_12 rfl (lv_at hl 2 rfl) ?_
      refine lv_aload_n hx hb d_MO_groundSize_13 rfl (lv_at hl 0 rfl) ?_
      refine lv_iload_n hx hb d_MO_groundSize_14 rfl (lv_at hl 1 rfl) ?_
      refine lv_iload_n hx hb d_MO_groundSize_15 rfl (lv_at hl 3 rfl) ?_
      replace hf := B_some hf
      obtain ⟨v1, hv1, hf⟩ := hf
      refine ki (kv (As := [.int y1, .int y3]) (rest := [.int y2]) ⟨hx, hb, hml, hown, hts⟩ (cw_MO_180 hts ⟨Nat.le_of_ble_eq_true rfl, Nat.le_of_ble_eq_true rfl⟩) (c_MO_isOf l D adr cA μ ν y1 y3 hv1) hG hP (rc_o (q := 63) (ci := 5) hG hP (by decide) (wc_M (by decide) rfl) rfl) rfl hl.1 (Nat.le_of_ble_eq_true rfl) d_MO_groundSize_16) hS (fun H locs hP hS => ?_)
      replace hf := B_some hf
      obtain ⟨v2, hv2, hf⟩ := hf
      have hJ : ∀ (H : Heap) (locs : List Loc) (ls : Array Slot), va_P D cls (wld adr cA μ ν) H → va_S (AA adr) s.heap H locs → lv_has ls 4 [(0, .ref (adr 63)), (1, .int y1), (3, .int y3)] → W p l e rm_MO_groundSize s m args below meth c H locs 0 0 Q (F0 m 27 ls [.int v2, .int y2]) := by
        clear hv2
        intro H locs ls hP hS hl
        refine lv_iadd hx hb d_MO_groundSize_27 ?_
        refine lv_istore_n (lv' := [(2, .int (y2 + v2)), (0, .ref (adr 63)), (1, .int y1), (3, .int y3)]) hx hb d_MO_groundSize_28 rfl hl (by decide) rfl (fun ls hl => ?_)
        refine lv_iinc (v := (y3 + 1)) (lv' := [(3, .int (y3 + 1)), (2, .int (y2 + v2)), (0, .ref (adr 63)), (1, .int y1)]) hx hb d_MO_groundSize_29 hl (k := 3) rfl rfl (by decide) rfl (fun ls hl => ?_)
        refine lv_goto (tgt := 4) hx hb d_MO_groundSize_32 (by decide) ?_
        exact ih _ _ hf hP hS (lv_sub hl [2, 3, 1, 0] rfl)
      clear hf
      have hf := hv2
      clear hv2
      refine lv_if_eq (tgt := 26) hx hb d_MO_groundSize_19 (by decide) (fun hc => ?_) (fun hc => ?_)
      · replace hf := if_p hc hf
        refine lv_iconst (v := 0) hx hb d_MO_groundSize_26 (by decide) ?_
        obtain rfl := Option.some.inj hf
        exact hJ _ _ _ hP hS (lv_sub hl [0, 1, 3] rfl)
      · replace hf := if_n hc hf
        refine lv_iconst (v := 1) hx hb d_MO_groundSize_22 (by decide) ?_
        refine lv_goto (tgt := 27) hx hb d_MO_groundSize_23 (by decide) ?_
        obtain rfl := Option.some.inj hf
        exact hJ _ _ _ hP hS (lv_sub hl [0, 1, 3] rfl)
set_option maxHeartbeats 4000000 in
set_option maxRecDepth 100000 in
theorem w_MO_groundSize (x1 : Int32)  (C : Cx prog_7_method_34_code 4 "LakeReliefModel" (Option.some Jvm.ClassFile.FieldType.int) p s m args meth c) (hG : Geo D adr cA s) {res : Int32} (hf : f_MO_groundSize ν x1 = some res) (hq : ∀ (pc : Nat) (ls : Array Slot) (H : Heap) (locs : List Loc), decode prog_7_method_34_code pc = .ok (.ireturn, 1) → va_P D cls (wld adr cA μ ν) H → va_S (AA adr) s.heap H locs → W p l e rm_MO_groundSize s m args below meth c H locs 0 0 Q (F0 m pc ls [.int res])) {H : Heap} {locs : List Loc} {ls : Array Slot} (hP : va_P D cls (wld adr cA μ ν) H) (hS : va_S (AA adr) s.heap H locs) (hl : lv_has ls 4 [(0, .ref (adr 63)), (1, .int x1)]) : W p l e rm_MO_groundSize s m args below meth c H locs 0 0 Q (F0 m 0 ls []) := by
  obtain ⟨hx, hb, hml, hown, hts, hr, hlocks⟩ := id C
  unfold f_MO_groundSize at hf
  refine lv_iconst (v := 0) hx hb d_MO_groundSize_0 (by decide) ?_
  refine lv_istore_n (lv' := [(2, .int 0), (0, .ref (adr 63)), (1, .int x1)]) hx hb d_MO_groundSize_1 rfl hl (by decide) rfl (fun ls hl => ?_)
  refine lv_iconst (v := 0) hx hb d_MO_groundSize_2 (by decide) ?_
  refine lv_istore_n (lv' := [(3, .int 0), (2, .int 0), (0, .ref (adr 63)), (1, .int x1)]) hx hb d_MO_groundSize_3 rfl hl (by decide) rfl (fun ls hl => ?_)
  replace hf := B_some hf
  obtain ⟨v3, hv3, hf⟩ := hf
  refine w_MO_groundSize_L4 x1  C hG v3 ?_ FU _ _ hv3 hP hS (lv_sub hl [2, 3, 1, 0] rfl)
  clear hv3 hP hS hl
  intro H locs ls hP hS hl
  refine lv_iload_n hx hb d_MO_groundSize_35 rfl (lv_at hl 0 rfl) ?_
  obtain rfl := Option.some.inj hf
  exact hq _ _ _ _ d_MO_groundSize_36 hP hS
theorem c_MO_groundSize (l : Launch) (D : va_G) (adr : Nat → Nat) (cA : Nat → ClassId) (μ ν : Mem) (x1 : Int32)  {res : Int32} (hf : f_MO_groundSize ν x1 = some res) : Met l y_MO_groundSize (Cond.code y_MO_groundSize prog_7_method_34_code 4 (Option.some Jvm.ClassFile.FieldType.int) :: lw_ok) rm_MO_groundSize (va_Pc [.ref (adr 63), .int x1] (Wd D adr cA μ ν)) (QI D adr cA res μ ν) 0 0 (AA adr) :=
  met_of (own := "LakeReliefModel") rfl rfl (Nat.le_of_ble_eq_true rfl) (fun p e s m below meth c C hG hP hS ls hl => w_MO_groundSize x1  C hG hf (fun pc ls H locs hd hP hS => ret_i C.1 C.2.1 C.2.2.2.2.2.1 C.2.2.2.2.2.2 hG hd hP hS) hP hS hl)
end X_MO_groundSize
section X_MO_lake
variable {p : Program} {l : Launch} {e : Env} {s : State} {m : MethodId} {args : Array Value} {below : List Frame} {meth : Method} {c : Code} {Q : State → Prop}
variable {D : va_G} {adr : Nat → Nat} {cA : Nat → ClassId} {μ ν : Mem}
theorem d_MO_lake_0 : decode prog_7_method_35_code 0 = .ok (.aload_n 0, 1) := by decide +kernel
theorem d_MO_lake_1 : decode prog_7_method_35_code 1 = .ok (.getfield 156, 3) := by decide +kernel
theorem d_MO_lake_4 : decode prog_7_method_35_code 4 = .ok (.ifCond .ne 6, 3) := by decide +kernel
theorem d_MO_lake_7 : decode prog_7_method_35_code 7 = .ok (.ldc 183, 2) := by decide +kernel
theorem d_MO_lake_9 : decode prog_7_method_35_code 9 = .ok (.ireturn, 1) := by decide +kernel
theorem d_MO_lake_10 : decode prog_7_method_35_code 10 = .ok (.aload_n 0, 1) := by decide +kernel
theorem d_MO_lake_11 : decode prog_7_method_35_code 11 = .ok (.iload_n 1, 1) := by decide +kernel
theorem d_MO_lake_12 : decode prog_7_method_35_code 12 = .ok (.invokevirtual 196, 3) := by decide +kernel
theorem d_MO_lake_15 : decode prog_7_method_35_code 15 = .ok (.ifCond .eq 15, 3) := by decide +kernel
theorem d_MO_lake_18 : decode prog_7_method_35_code 18 = .ok (.iload_n 2, 1) := by decide +kernel
theorem d_MO_lake_19 : decode prog_7_method_35_code 19 = .ok (.i2l, 1) := by decide +kernel
theorem d_MO_lake_20 : decode prog_7_method_35_code 20 = .ok (.lconst 0, 1) := by decide +kernel
theorem d_MO_lake_21 : decode prog_7_method_35_code 21 = .ok (.ldc2_w 199, 3) := by decide +kernel
theorem d_MO_lake_24 : decode prog_7_method_35_code 24 = .ok (.invokestatic 80, 3) := by decide +kernel
theorem d_MO_lake_27 : decode prog_7_method_35_code 27 = .ok (.ifCond .ne 6, 3) := by decide +kernel
theorem d_MO_lake_30 : decode prog_7_method_35_code 30 = .ok (.ldc 189, 2) := by decide +kernel
theorem d_MO_lake_32 : decode prog_7_method_35_code 32 = .ok (.ireturn, 1) := by decide +kernel
theorem d_MO_lake_33 : decode prog_7_method_35_code 33 = .ok (.iload_n 2, 1) := by decide +kernel
theorem d_MO_lake_34 : decode prog_7_method_35_code 34 = .ok (.tableswitch 126 0 8 #[50, 65, 71, 78, 85, 92, 99, 105, 111], 50) := by decide +kernel
theorem d_MO_lake_84 : decode prog_7_method_35_code 84 = .ok (.aload_n 0, 1) := by decide +kernel
theorem d_MO_lake_85 : decode prog_7_method_35_code 85 = .ok (.getfield 35, 3) := by decide +kernel
theorem d_MO_lake_88 : decode prog_7_method_35_code 88 = .ok (.iload_n 1, 1) := by decide +kernel
theorem d_MO_lake_89 : decode prog_7_method_35_code 89 = .ok (.baload, 1) := by decide +kernel
theorem d_MO_lake_90 : decode prog_7_method_35_code 90 = .ok (.ifCond .eq 7, 3) := by decide +kernel
theorem d_MO_lake_93 : decode prog_7_method_35_code 93 = .ok (.iconst 1, 1) := by decide +kernel
theorem d_MO_lake_94 : decode prog_7_method_35_code 94 = .ok (.goto 4, 3) := by decide +kernel
theorem d_MO_lake_97 : decode prog_7_method_35_code 97 = .ok (.iconst 0, 1) := by decide +kernel
theorem d_MO_lake_98 : decode prog_7_method_35_code 98 = .ok (.ireturn, 1) := by decide +kernel
theorem d_MO_lake_99 : decode prog_7_method_35_code 99 = .ok (.aload_n 0, 1) := by decide +kernel
theorem d_MO_lake_100 : decode prog_7_method_35_code 100 = .ok (.iload_n 1, 1) := by decide +kernel
theorem d_MO_lake_101 : decode prog_7_method_35_code 101 = .ok (.invokevirtual 201, 3) := by decide +kernel
theorem d_MO_lake_104 : decode prog_7_method_35_code 104 = .ok (.ireturn, 1) := by decide +kernel
theorem d_MO_lake_105 : decode prog_7_method_35_code 105 = .ok (.aload_n 0, 1) := by decide +kernel
theorem d_MO_lake_106 : decode prog_7_method_35_code 106 = .ok (.getfield 42, 3) := by decide +kernel
theorem d_MO_lake_109 : decode prog_7_method_35_code 109 = .ok (.iload_n 1, 1) := by decide +kernel
theorem d_MO_lake_110 : decode prog_7_method_35_code 110 = .ok (.iaload, 1) := by decide +kernel
theorem d_MO_lake_111 : decode prog_7_method_35_code 111 = .ok (.ireturn, 1) := by decide +kernel
theorem d_MO_lake_112 : decode prog_7_method_35_code 112 = .ok (.aload_n 0, 1) := by decide +kernel
theorem d_MO_lake_113 : decode prog_7_method_35_code 113 = .ok (.getfield 45, 3) := by decide +kernel
theorem d_MO_lake_116 : decode prog_7_method_35_code 116 = .ok (.iload_n 1, 1) := by decide +kernel
theorem d_MO_lake_117 : decode prog_7_method_35_code 117 = .ok (.iaload, 1) := by decide +kernel
theorem d_MO_lake_118 : decode prog_7_method_35_code 118 = .ok (.ireturn, 1) := by decide +kernel
theorem d_MO_lake_119 : decode prog_7_method_35_code 119 = .ok (.aload_n 0, 1) := by decide +kernel
theorem d_MO_lake_120 : decode prog_7_method_35_code 120 = .ok (.getfield 48, 3) := by decide +kernel
theorem d_MO_lake_123 : decode prog_7_method_35_code 123 = .ok (.iload_n 1, 1) := by decide +kernel
theorem d_MO_lake_124 : decode prog_7_method_35_code 124 = .ok (.iaload, 1) := by decide +kernel
theorem d_MO_lake_125 : decode prog_7_method_35_code 125 = .ok (.ireturn, 1) := by decide +kernel
theorem d_MO_lake_126 : decode prog_7_method_35_code 126 = .ok (.aload_n 0, 1) := by decide +kernel
theorem d_MO_lake_127 : decode prog_7_method_35_code 127 = .ok (.getfield 51, 3) := by decide +kernel
theorem d_MO_lake_130 : decode prog_7_method_35_code 130 = .ok (.iload_n 1, 1) := by decide +kernel
theorem d_MO_lake_131 : decode prog_7_method_35_code 131 = .ok (.iaload, 1) := by decide +kernel
theorem d_MO_lake_132 : decode prog_7_method_35_code 132 = .ok (.ireturn, 1) := by decide +kernel
theorem d_MO_lake_133 : decode prog_7_method_35_code 133 = .ok (.aload_n 0, 1) := by decide +kernel
theorem d_MO_lake_134 : decode prog_7_method_35_code 134 = .ok (.iload_n 1, 1) := by decide +kernel
theorem d_MO_lake_135 : decode prog_7_method_35_code 135 = .ok (.invokevirtual 204, 3) := by decide +kernel
theorem d_MO_lake_138 : decode prog_7_method_35_code 138 = .ok (.ireturn, 1) := by decide +kernel
theorem d_MO_lake_139 : decode prog_7_method_35_code 139 = .ok (.aload_n 0, 1) := by decide +kernel
theorem d_MO_lake_140 : decode prog_7_method_35_code 140 = .ok (.iload_n 1, 1) := by decide +kernel
theorem d_MO_lake_141 : decode prog_7_method_35_code 141 = .ok (.invokevirtual 207, 3) := by decide +kernel
theorem d_MO_lake_144 : decode prog_7_method_35_code 144 = .ok (.ireturn, 1) := by decide +kernel
theorem d_MO_lake_145 : decode prog_7_method_35_code 145 = .ok (.aload_n 0, 1) := by decide +kernel
theorem d_MO_lake_146 : decode prog_7_method_35_code 146 = .ok (.getfield 54, 3) := by decide +kernel
theorem d_MO_lake_149 : decode prog_7_method_35_code 149 = .ok (.iload_n 1, 1) := by decide +kernel
theorem d_MO_lake_150 : decode prog_7_method_35_code 150 = .ok (.baload, 1) := by decide +kernel
theorem d_MO_lake_151 : decode prog_7_method_35_code 151 = .ok (.ifCond .eq 7, 3) := by decide +kernel
theorem d_MO_lake_154 : decode prog_7_method_35_code 154 = .ok (.iconst 1, 1) := by decide +kernel
theorem d_MO_lake_155 : decode prog_7_method_35_code 155 = .ok (.goto 4, 3) := by decide +kernel
theorem d_MO_lake_158 : decode prog_7_method_35_code 158 = .ok (.iconst 0, 1) := by decide +kernel
theorem d_MO_lake_159 : decode prog_7_method_35_code 159 = .ok (.ireturn, 1) := by decide +kernel
theorem d_MO_lake_160 : decode prog_7_method_35_code 160 = .ok (.aload_n 0, 1) := by decide +kernel
theorem d_MO_lake_161 : decode prog_7_method_35_code 161 = .ok (.getfield 54, 3) := by decide +kernel
theorem d_MO_lake_164 : decode prog_7_method_35_code 164 = .ok (.iload_n 1, 1) := by decide +kernel
theorem d_MO_lake_165 : decode prog_7_method_35_code 165 = .ok (.baload, 1) := by decide +kernel
theorem d_MO_lake_166 : decode prog_7_method_35_code 166 = .ok (.ifCond .eq 12, 3) := by decide +kernel
theorem d_MO_lake_169 : decode prog_7_method_35_code 169 = .ok (.aload_n 0, 1) := by decide +kernel
theorem d_MO_lake_170 : decode prog_7_method_35_code 170 = .ok (.getfield 57, 3) := by decide +kernel
theorem d_MO_lake_173 : decode prog_7_method_35_code 173 = .ok (.iload_n 1, 1) := by decide +kernel
theorem d_MO_lake_174 : decode prog_7_method_35_code 174 = .ok (.iaload, 1) := by decide +kernel
theorem d_MO_lake_175 : decode prog_7_method_35_code 175 = .ok (.goto 4, 3) := by decide +kernel
theorem d_MO_lake_178 : decode prog_7_method_35_code 178 = .ok (.iconst 0, 1) := by decide +kernel
theorem d_MO_lake_179 : decode prog_7_method_35_code 179 = .ok (.ireturn, 1) := by decide +kernel
set_option maxHeartbeats 4000000 in
set_option maxRecDepth 100000 in
theorem w_MO_lake (x1 : Int32) (x2 : Int32)  (C : Cx prog_7_method_35_code 3 "LakeReliefModel" (Option.some Jvm.ClassFile.FieldType.int) p s m args meth c) (hG : Geo D adr cA s) {res : Int32} (hf : f_MO_lake ν x1 x2 = some res) (hq : ∀ (pc : Nat) (ls : Array Slot) (H : Heap) (locs : List Loc), decode prog_7_method_35_code pc = .ok (.ireturn, 1) → va_P D cls (wld adr cA μ ν) H → va_S (AA adr) s.heap H locs → W p l e rm_MO_lake s m args below meth c H locs 0 0 Q (F0 m pc ls [.int res])) {H : Heap} {locs : List Loc} {ls : Array Slot} (hP : va_P D cls (wld adr cA μ ν) H) (hS : va_S (AA adr) s.heap H locs) (hl : lv_has ls 3 [(0, .ref (adr 63)), (1, .int x1), (2, .int x2)]) : W p l e rm_MO_lake s m args below meth c H locs 0 0 Q (F0 m 0 ls []) := by
  obtain ⟨hx, hb, hml, hown, hts, hr, hlocks⟩ := id C
  unfold f_MO_lake at hf
  refine lv_aload_n hx hb d_MO_lake_0 rfl (lv_at hl 0 rfl) ?_
  refine g_MO_isLaid hx hb hts hown hG hP (hts _ in_564) d_MO_lake_1 ?_
  refine lv_if_ne (tgt := 10) hx hb d_MO_lake_4 (by decide) (fun hc => ?_) (fun hc => ?_)
  · replace hf := if_n hc hf
    refine lv_aload_n hx hb d_MO_lake_10 rfl (lv_at hl 0 rfl) ?_
    refine lv_iload_n hx hb d_MO_lake_11 rfl (lv_at hl 1 rfl) ?_
    replace hf := B_some hf
    obtain ⟨v1, hv1, hf⟩ := hf
    refine ki (kv (As := [.int x1]) (rest := []) ⟨hx, hb, hml, hown, hts⟩ (cw_MO_196 hts ⟨Nat.le_of_ble_eq_true rfl, Nat.le_of_ble_eq_true rfl⟩) (c_MO_isLake l D adr cA μ ν x1 hv1) hG hP (rc_o (q := 63) (ci := 5) hG hP (by decide) (wc_M (by decide) rfl) rfl) rfl hl.1 (Nat.le_of_ble_eq_true rfl) d_MO_lake_12) hS (fun H locs hP hS => ?_)
    refine lv_if_eq (tgt := 30) hx hb d_MO_lake_15 (by decide) (fun hc => ?_) (fun hc => ?_)
    · replace hf := if_p hc hf
      refine lv_ldc (v := (-2000001)) hx hb hown (hts _ in_759) d_MO_lake_30 ?_
      obtain rfl := Option.some.inj hf
      exact hq _ _ _ _ d_MO_lake_32 hP hS
    · replace hf := if_n hc hf
      refine lv_iload_n hx hb d_MO_lake_18 rfl (lv_at hl 2 rfl) ?_
      refine lv_i2l hx hb d_MO_lake_19 rfl ?_
      refine lv_lconst (v := 0) hx hb d_MO_lake_20 (by decide) ?_
      refine lv_ldc2 (v := 9) hx hb hown (hts _ in_780) d_MO_lake_21 ?_
      refine ki (ks (As := [.long x2.toInt64, .long 0, .long 9]) (rest := []) ⟨hx, hb, hml, hown, hts⟩ (cw_MO_80 hts ⟨Nat.le_of_ble_eq_true rfl, Nat.le_of_ble_eq_true rfl⟩) (c_MO_in l D adr cA μ ν x2.toInt64 0 9) hG hP rfl hl.1 (Nat.le_of_ble_eq_true rfl) d_MO_lake_24) hS (fun H locs hP hS => ?_)
      refine lv_if_ne (tgt := 33) hx hb d_MO_lake_27 (by decide) (fun hc => ?_) (fun hc => ?_)
      · replace hf := if_n hc hf
        refine lv_iload_n hx hb d_MO_lake_33 rfl (lv_at hl 2 rfl) ?_
        by_cases hc0 : x2 = 0
        · replace hf := if_p hc0 hf
          refine lv_tableIn (tgt := 84) (off := 50) hx hb d_MO_lake_34 (by rw [hc0]; decide) (by rw [hc0]; decide) (by rw [hc0]; rfl) (by decide) ?_
          refine lv_aload_n hx hb d_MO_lake_84 rfl (lv_at hl 0 rfl) ?_
          refine g_MO_isDouble hx hb hts hown hG hP (hts _ in_573) d_MO_lake_85 ?_
          refine lv_iload_n hx hb d_MO_lake_88 rfl (lv_at hl 1 rfl) ?_
          replace hf := G_some hf
          obtain ⟨hi2, hf⟩ := hf
          refine r_zald hx hb hG hP 72 64 (f := ν.1 72) (by decide) (wc_M (by decide) rfl) hi2 d_MO_lake_89 ?_
          refine lv_if_eq (tgt := 97) hx hb d_MO_lake_90 (by decide) (fun hc => ?_) (fun hc => ?_)
          · replace hf := if_p hc hf
            refine lv_iconst (v := 0) hx hb d_MO_lake_97 (by decide) ?_
            obtain rfl := Option.some.inj hf
            exact hq _ _ _ _ d_MO_lake_98 hP hS
          · replace hf := if_n hc hf
            refine lv_iconst (v := 1) hx hb d_MO_lake_93 (by decide) ?_
            refine lv_goto (tgt := 98) hx hb d_MO_lake_94 (by decide) ?_
            obtain rfl := Option.some.inj hf
            exact hq _ _ _ _ d_MO_lake_98 hP hS
        replace hf := if_n hc0 hf
        by_cases hc1 : x2 = 1
        · replace hf := if_p hc1 hf
          refine lv_tableIn (tgt := 99) (off := 65) hx hb d_MO_lake_34 (by rw [hc1]; decide) (by rw [hc1]; decide) (by rw [hc1]; rfl) (by decide) ?_
          refine lv_aload_n hx hb d_MO_lake_99 rfl (lv_at hl 0 rfl) ?_
          refine lv_iload_n hx hb d_MO_lake_100 rfl (lv_at hl 1 rfl) ?_
          replace hf := B_some hf
          obtain ⟨v3, hv3, hf⟩ := hf
          refine ki (kv (As := [.int x1]) (rest := []) ⟨hx, hb, hml, hown, hts⟩ (cw_MO_201 hts ⟨Nat.le_of_ble_eq_true rfl, Nat.le_of_ble_eq_true rfl⟩) (c_MO_lowest l D adr cA μ ν x1 hv3) hG hP (rc_o (q := 63) (ci := 5) hG hP (by decide) (wc_M (by decide) rfl) rfl) rfl hl.1 (Nat.le_of_ble_eq_true rfl) d_MO_lake_101) hS (fun H locs hP hS => ?_)
          obtain rfl := Option.some.inj hf
          exact hq _ _ _ _ d_MO_lake_104 hP hS
        replace hf := if_n hc1 hf
        by_cases hc2 : x2 = 2
        · replace hf := if_p hc2 hf
          refine lv_tableIn (tgt := 105) (off := 71) hx hb d_MO_lake_34 (by rw [hc2]; decide) (by rw [hc2]; decide) (by rw [hc2]; rfl) (by decide) ?_
          refine lv_aload_n hx hb d_MO_lake_105 rfl (lv_at hl 0 rfl) ?_
          refine g_MO_rim hx hb hts hown hG hP (hts _ in_575) d_MO_lake_106 ?_
          refine lv_iload_n hx hb d_MO_lake_109 rfl (lv_at hl 1 rfl) ?_
          replace hf := G_some hf
          obtain ⟨hi4, hf⟩ := hf
          refine r_iald hx hb hG hP 74 64 (f := ν.1 74) (by decide) (wc_M (by decide) rfl) hi4 d_MO_lake_110 ?_
          obtain rfl := Option.some.inj hf
          exact hq _ _ _ _ d_MO_lake_111 hP hS
        replace hf := if_n hc2 hf
        by_cases hc3 : x2 = 3
        · replace hf := if_p hc3 hf
          refine lv_tableIn (tgt := 112) (off := 78) hx hb d_MO_lake_34 (by rw [hc3]; decide) (by rw [hc3]; decide) (by rw [hc3]; rfl) (by decide) ?_
          refine lv_aload_n hx hb d_MO_lake_112 rfl (lv_at hl 0 rfl) ?_
          refine g_MO_above hx hb hts hown hG hP (hts _ in_576) d_MO_lake_113 ?_
          refine lv_iload_n hx hb d_MO_lake_116 rfl (lv_at hl 1 rfl) ?_
          replace hf := G_some hf
          obtain ⟨hi5, hf⟩ := hf
          refine r_iald hx hb hG hP 75 64 (f := ν.1 75) (by decide) (wc_M (by decide) rfl) hi5 d_MO_lake_117 ?_
          obtain rfl := Option.some.inj hf
          exact hq _ _ _ _ d_MO_lake_118 hP hS
        replace hf := if_n hc3 hf
        by_cases hc4 : x2 = 4
        · replace hf := if_p hc4 hf
          refine lv_tableIn (tgt := 119) (off := 85) hx hb d_MO_lake_34 (by rw [hc4]; decide) (by rw [hc4]; decide) (by rw [hc4]; rfl) (by decide) ?_
          refine lv_aload_n hx hb d_MO_lake_119 rfl (lv_at hl 0 rfl) ?_
          refine g_MO_first hx hb hts hown hG hP (hts _ in_577) d_MO_lake_120 ?_
          refine lv_iload_n hx hb d_MO_lake_123 rfl (lv_at hl 1 rfl) ?_
          replace hf := G_some hf
          obtain ⟨hi6, hf⟩ := hf
          refine r_iald hx hb hG hP 76 64 (f := ν.1 76) (by decide) (wc_M (by decide) rfl) hi6 d_MO_lake_124 ?_
          obtain rfl := Option.some.inj hf
          exact hq _ _ _ _ d_MO_lake_125 hP hS
        replace hf := if_n hc4 hf
        by_cases hc5 : x2 = 5
        · replace hf := if_p hc5 hf
          refine lv_tableIn (tgt := 126) (off := 92) hx hb d_MO_lake_34 (by rw [hc5]; decide) (by rw [hc5]; decide) (by rw [hc5]; rfl) (by decide) ?_
          refine lv_aload_n hx hb d_MO_lake_126 rfl (lv_at hl 0 rfl) ?_
          refine g_MO_second hx hb hts hown hG hP (hts _ in_578) d_MO_lake_127 ?_
          refine lv_iload_n hx hb d_MO_lake_130 rfl (lv_at hl 1 rfl) ?_
          replace hf := G_some hf
          obtain ⟨hi7, hf⟩ := hf
          refine r_iald hx hb hG hP 77 64 (f := ν.1 77) (by decide) (wc_M (by decide) rfl) hi7 d_MO_lake_131 ?_
          obtain rfl := Option.some.inj hf
          exact hq _ _ _ _ d_MO_lake_132 hP hS
        replace hf := if_n hc5 hf
        by_cases hc6 : x2 = 6
        · replace hf := if_p hc6 hf
          refine lv_tableIn (tgt := 133) (off := 99) hx hb d_MO_lake_34 (by rw [hc6]; decide) (by rw [hc6]; decide) (by rw [hc6]; rfl) (by decide) ?_
          refine lv_aload_n hx hb d_MO_lake_133 rfl (lv_at hl 0 rfl) ?_
          refine lv_iload_n hx hb d_MO_lake_134 rfl (lv_at hl 1 rfl) ?_
          replace hf := B_some hf
          obtain ⟨v8, hv8, hf⟩ := hf
          refine ki (kv (As := [.int x1]) (rest := []) ⟨hx, hb, hml, hown, hts⟩ (cw_MO_204 hts ⟨Nat.le_of_ble_eq_true rfl, Nat.le_of_ble_eq_true rfl⟩) (c_MO_groundSize l D adr cA μ ν x1 hv8) hG hP (rc_o (q := 63) (ci := 5) hG hP (by decide) (wc_M (by decide) rfl) rfl) rfl hl.1 (Nat.le_of_ble_eq_true rfl) d_MO_lake_135) hS (fun H locs hP hS => ?_)
          obtain rfl := Option.some.inj hf
          exact hq _ _ _ _ d_MO_lake_138 hP hS
        replace hf := if_n hc6 hf
        by_cases hc7 : x2 = 7
        · replace hf := if_p hc7 hf
          refine lv_tableIn (tgt := 139) (off := 105) hx hb d_MO_lake_34 (by rw [hc7]; decide) (by rw [hc7]; decide) (by rw [hc7]; rfl) (by decide) ?_
          refine lv_aload_n hx hb d_MO_lake_139 rfl (lv_at hl 0 rfl) ?_
          refine lv_iload_n hx hb d_MO_lake_140 rfl (lv_at hl 1 rfl) ?_
          replace hf := B_some hf
          obtain ⟨v9, hv9, hf⟩ := hf
          refine ki (kv (As := [.int x1]) (rest := []) ⟨hx, hb, hml, hown, hts⟩ (cw_MO_207 hts ⟨Nat.le_of_ble_eq_true rfl, Nat.le_of_ble_eq_true rfl⟩) (c_MO_most l D adr cA μ ν x1 hv9) hG hP (rc_o (q := 63) (ci := 5) hG hP (by decide) (wc_M (by decide) rfl) rfl) rfl hl.1 (Nat.le_of_ble_eq_true rfl) d_MO_lake_141) hS (fun H locs hP hS => ?_)
          obtain rfl := Option.some.inj hf
          exact hq _ _ _ _ d_MO_lake_144 hP hS
        replace hf := if_n hc7 hf
        by_cases hc8 : x2 = 8
        · replace hf := if_p hc8 hf
          refine lv_tableIn (tgt := 145) (off := 111) hx hb d_MO_lake_34 (by rw [hc8]; decide) (by rw [hc8]; decide) (by rw [hc8]; rfl) (by decide) ?_
          refine lv_aload_n hx hb d_MO_lake_145 rfl (lv_at hl 0 rfl) ?_
          refine g_MO_isThere hx hb hts hown hG hP (hts _ in_579) d_MO_lake_146 ?_
          refine lv_iload_n hx hb d_MO_lake_149 rfl (lv_at hl 1 rfl) ?_
          replace hf := G_some hf
          obtain ⟨hi10, hf⟩ := hf
          refine r_zald hx hb hG hP 78 64 (f := ν.1 78) (by decide) (wc_M (by decide) rfl) hi10 d_MO_lake_150 ?_
          refine lv_if_eq (tgt := 158) hx hb d_MO_lake_151 (by decide) (fun hc => ?_) (fun hc => ?_)
          · replace hf := if_p hc hf
            refine lv_iconst (v := 0) hx hb d_MO_lake_158 (by decide) ?_
            obtain rfl := Option.some.inj hf
            exact hq _ _ _ _ d_MO_lake_159 hP hS
          · replace hf := if_n hc hf
            refine lv_iconst (v := 1) hx hb d_MO_lake_154 (by decide) ?_
            refine lv_goto (tgt := 159) hx hb d_MO_lake_155 (by decide) ?_
            obtain rfl := Option.some.inj hf
            exact hq _ _ _ _ d_MO_lake_159 hP hS
        replace hf := if_n hc8 hf
        refine lv_tableOut (tgt := 160) hx hb d_MO_lake_34 (by have hn0 := sw_ne (k := 0) hc0 (by decide) (by decide); have hn1 := sw_ne (k := 1) hc1 (by decide) (by decide); have hn2 := sw_ne (k := 2) hc2 (by decide) (by decide); have hn3 := sw_ne (k := 3) hc3 (by decide) (by decide); have hn4 := sw_ne (k := 4) hc4 (by decide) (by decide); have hn5 := sw_ne (k := 5) hc5 (by decide) (by decide); have hn6 := sw_ne (k := 6) hc6 (by decide) (by decide); have hn7 := sw_ne (k := 7) hc7 (by decide) (by decide); have hn8 := sw_ne (k := 8) hc8 (by decide) (by decide); omega) (by decide) ?_
        refine lv_aload_n hx hb d_MO_lake_160 rfl (lv_at hl 0 rfl) ?_
        refine g_MO_isThere hx hb hts hown hG hP (hts _ in_579) d_MO_lake_161 ?_
        refine lv_iload_n hx hb d_MO_lake_164 rfl (lv_at hl 1 rfl) ?_
        replace hf := G_some hf
        obtain ⟨hi11, hf⟩ := hf
        refine r_zald hx hb hG hP 78 64 (f := ν.1 78) (by decide) (wc_M (by decide) rfl) hi11 d_MO_lake_165 ?_
        refine lv_if_eq (tgt := 178) hx hb d_MO_lake_166 (by decide) (fun hc => ?_) (fun hc => ?_)
        · replace hf := if_p hc hf
          refine lv_iconst (v := 0) hx hb d_MO_lake_178 (by decide) ?_
          obtain rfl := Option.some.inj hf
          exact hq _ _ _ _ d_MO_lake_179 hP hS
        · replace hf := if_n hc hf
          refine lv_aload_n hx hb d_MO_lake_169 rfl (lv_at hl 0 rfl) ?_
          refine g_MO_water hx hb hts hown hG hP (hts _ in_580) d_MO_lake_170 ?_
          refine lv_iload_n hx hb d_MO_lake_173 rfl (lv_at hl 1 rfl) ?_
          replace hf := G_some hf
          obtain ⟨hi12, hf⟩ := hf
          refine r_iald hx hb hG hP 79 64 (f := ν.1 79) (by decide) (wc_M (by decide) rfl) hi12 d_MO_lake_174 ?_
          refine lv_goto (tgt := 179) hx hb d_MO_lake_175 (by decide) ?_
          obtain rfl := Option.some.inj hf
          exact hq _ _ _ _ d_MO_lake_179 hP hS
      · replace hf := if_p hc hf
        refine lv_ldc (v := (-2000001)) hx hb hown (hts _ in_759) d_MO_lake_30 ?_
        obtain rfl := Option.some.inj hf
        exact hq _ _ _ _ d_MO_lake_32 hP hS
  · replace hf := if_p hc hf
    refine lv_ldc (v := (-2000002)) hx hb hown (hts _ in_753) d_MO_lake_7 ?_
    obtain rfl := Option.some.inj hf
    exact hq _ _ _ _ d_MO_lake_9 hP hS
theorem c_MO_lake (l : Launch) (D : va_G) (adr : Nat → Nat) (cA : Nat → ClassId) (μ ν : Mem) (x1 : Int32) (x2 : Int32)  {res : Int32} (hf : f_MO_lake ν x1 x2 = some res) : Met l y_MO_lake (Cond.code y_MO_lake prog_7_method_35_code 3 (Option.some Jvm.ClassFile.FieldType.int) :: lw_ok) rm_MO_lake (va_Pc [.ref (adr 63), .int x1, .int x2] (Wd D adr cA μ ν)) (QI D adr cA res μ ν) 0 0 (AA adr) :=
  met_of (own := "LakeReliefModel") rfl rfl (Nat.le_of_ble_eq_true rfl) (fun p e s m below meth c C hG hP hS ls hl => w_MO_lake x1 x2  C hG hf (fun pc ls H locs hd hP hS => ret_i C.1 C.2.1 C.2.2.2.2.2.1 C.2.2.2.2.2.2 hG hd hP hS) hP hS hl)
end X_MO_lake
section X_MO_ground
variable {p : Program} {l : Launch} {e : Env} {s : State} {m : MethodId} {args : Array Value} {below : List Frame} {meth : Method} {c : Code} {Q : State → Prop}
variable {D : va_G} {adr : Nat → Nat} {cA : Nat → ClassId} {μ ν : Mem}
theorem d_MO_ground_0 : decode prog_7_method_36_code 0 = .ok (.aload_n 0, 1) := by decide +kernel
theorem d_MO_ground_1 : decode prog_7_method_36_code 1 = .ok (.getfield 156, 3) := by decide +kernel
theorem d_MO_ground_4 : decode prog_7_method_36_code 4 = .ok (.ifCond .ne 6, 3) := by decide +kernel
theorem d_MO_ground_7 : decode prog_7_method_36_code 7 = .ok (.bipush (-2), 2) := by decide +kernel
theorem d_MO_ground_9 : decode prog_7_method_36_code 9 = .ok (.ireturn, 1) := by decide +kernel
theorem d_MO_ground_10 : decode prog_7_method_36_code 10 = .ok (.aload_n 0, 1) := by decide +kernel
theorem d_MO_ground_11 : decode prog_7_method_36_code 11 = .ok (.iload_n 1, 1) := by decide +kernel
theorem d_MO_ground_12 : decode prog_7_method_36_code 12 = .ok (.invokevirtual 196, 3) := by decide +kernel
theorem d_MO_ground_15 : decode prog_7_method_36_code 15 = .ok (.ifCond .eq 11, 3) := by decide +kernel
theorem d_MO_ground_18 : decode prog_7_method_36_code 18 = .ok (.aload_n 0, 1) := by decide +kernel
theorem d_MO_ground_19 : decode prog_7_method_36_code 19 = .ok (.iload_n 2, 1) := by decide +kernel
theorem d_MO_ground_20 : decode prog_7_method_36_code 20 = .ok (.invokevirtual 184, 3) := by decide +kernel
theorem d_MO_ground_23 : decode prog_7_method_36_code 23 = .ok (.ifCond .ne 7, 3) := by decide +kernel
theorem d_MO_ground_26 : decode prog_7_method_36_code 26 = .ok (.iconst (-1), 1) := by decide +kernel
theorem d_MO_ground_27 : decode prog_7_method_36_code 27 = .ok (.goto 17, 3) := by decide +kernel
theorem d_MO_ground_30 : decode prog_7_method_36_code 30 = .ok (.aload_n 0, 1) := by decide +kernel
theorem d_MO_ground_31 : decode prog_7_method_36_code 31 = .ok (.iload_n 1, 1) := by decide +kernel
theorem d_MO_ground_32 : decode prog_7_method_36_code 32 = .ok (.iload_n 2, 1) := by decide +kernel
theorem d_MO_ground_33 : decode prog_7_method_36_code 33 = .ok (.invokevirtual 180, 3) := by decide +kernel
theorem d_MO_ground_36 : decode prog_7_method_36_code 36 = .ok (.ifCond .eq 7, 3) := by decide +kernel
theorem d_MO_ground_39 : decode prog_7_method_36_code 39 = .ok (.iconst 1, 1) := by decide +kernel
theorem d_MO_ground_40 : decode prog_7_method_36_code 40 = .ok (.goto 4, 3) := by decide +kernel
theorem d_MO_ground_43 : decode prog_7_method_36_code 43 = .ok (.iconst 0, 1) := by decide +kernel
theorem d_MO_ground_44 : decode prog_7_method_36_code 44 = .ok (.ireturn, 1) := by decide +kernel
set_option maxHeartbeats 4000000 in
set_option maxRecDepth 100000 in
theorem w_MO_ground (x1 : Int32) (x2 : Int32)  (C : Cx prog_7_method_36_code 3 "LakeReliefModel" (Option.some Jvm.ClassFile.FieldType.int) p s m args meth c) (hG : Geo D adr cA s) {res : Int32} (hf : f_MO_ground ν x1 x2 = some res) (hq : ∀ (pc : Nat) (ls : Array Slot) (H : Heap) (locs : List Loc), decode prog_7_method_36_code pc = .ok (.ireturn, 1) → va_P D cls (wld adr cA μ ν) H → va_S (AA adr) s.heap H locs → W p l e rm_MO_ground s m args below meth c H locs 0 0 Q (F0 m pc ls [.int res])) {H : Heap} {locs : List Loc} {ls : Array Slot} (hP : va_P D cls (wld adr cA μ ν) H) (hS : va_S (AA adr) s.heap H locs) (hl : lv_has ls 3 [(0, .ref (adr 63)), (1, .int x1), (2, .int x2)]) : W p l e rm_MO_ground s m args below meth c H locs 0 0 Q (F0 m 0 ls []) := by
  obtain ⟨hx, hb, hml, hown, hts, hr, hlocks⟩ := id C
  unfold f_MO_ground at hf
  refine lv_aload_n hx hb d_MO_ground_0 rfl (lv_at hl 0 rfl) ?_
  refine g_MO_isLaid hx hb hts hown hG hP (hts _ in_564) d_MO_ground_1 ?_
  refine lv_if_ne (tgt := 10) hx hb d_MO_ground_4 (by decide) (fun hc => ?_) (fun hc => ?_)
  · replace hf := if_n hc hf
    refine lv_aload_n hx hb d_MO_ground_10 rfl (lv_at hl 0 rfl) ?_
    refine lv_iload_n hx hb d_MO_ground_11 rfl (lv_at hl 1 rfl) ?_
    replace hf := B_some hf
    obtain ⟨v1, hv1, hf⟩ := hf
    refine ki (kv (As := [.int x1]) (rest := []) ⟨hx, hb, hml, hown, hts⟩ (cw_MO_196 hts ⟨Nat.le_of_ble_eq_true rfl, Nat.le_of_ble_eq_true rfl⟩) (c_MO_isLake l D adr cA μ ν x1 hv1) hG hP (rc_o (q := 63) (ci := 5) hG hP (by decide) (wc_M (by decide) rfl) rfl) rfl hl.1 (Nat.le_of_ble_eq_true rfl) d_MO_ground_12) hS (fun H locs hP hS => ?_)
    refine lv_if_eq (tgt := 26) hx hb d_MO_ground_15 (by decide) (fun hc => ?_) (fun hc => ?_)
    · replace hf := if_p hc hf
      refine lv_iconst (v := (-1)) hx hb d_MO_ground_26 (by decide) ?_
      refine lv_goto (tgt := 44) hx hb d_MO_ground_27 (by decide) ?_
      obtain rfl := Option.some.inj hf
      exact hq _ _ _ _ d_MO_ground_44 hP hS
    · replace hf := if_n hc hf
      refine lv_aload_n hx hb d_MO_ground_18 rfl (lv_at hl 0 rfl) ?_
      refine lv_iload_n hx hb d_MO_ground_19 rfl (lv_at hl 2 rfl) ?_
      replace hf := B_some hf
      obtain ⟨v2, hv2, hf⟩ := hf
      refine ki (kv (As := [.int x2]) (rest := []) ⟨hx, hb, hml, hown, hts⟩ (cw_MO_184 hts ⟨Nat.le_of_ble_eq_true rfl, Nat.le_of_ble_eq_true rfl⟩) (c_MO_isField l D adr cA μ ν x2 hv2) hG hP (rc_o (q := 63) (ci := 5) hG hP (by decide) (wc_M (by decide) rfl) rfl) rfl hl.1 (Nat.le_of_ble_eq_true rfl) d_MO_ground_20) hS (fun H locs hP hS => ?_)
      refine lv_if_ne (tgt := 30) hx hb d_MO_ground_23 (by decide) (fun hc => ?_) (fun hc => ?_)
      · replace hf := if_n hc hf
        refine lv_aload_n hx hb d_MO_ground_30 rfl (lv_at hl 0 rfl) ?_
        refine lv_iload_n hx hb d_MO_ground_31 rfl (lv_at hl 1 rfl) ?_
        refine lv_iload_n hx hb d_MO_ground_32 rfl (lv_at hl 2 rfl) ?_
        replace hf := B_some hf
        obtain ⟨v3, hv3, hf⟩ := hf
        refine ki (kv (As := [.int x1, .int x2]) (rest := []) ⟨hx, hb, hml, hown, hts⟩ (cw_MO_180 hts ⟨Nat.le_of_ble_eq_true rfl, Nat.le_of_ble_eq_true rfl⟩) (c_MO_isOf l D adr cA μ ν x1 x2 hv3) hG hP (rc_o (q := 63) (ci := 5) hG hP (by decide) (wc_M (by decide) rfl) rfl) rfl hl.1 (Nat.le_of_ble_eq_true rfl) d_MO_ground_33) hS (fun H locs hP hS => ?_)
        refine lv_if_eq (tgt := 43) hx hb d_MO_ground_36 (by decide) (fun hc => ?_) (fun hc => ?_)
        · replace hf := if_p hc hf
          refine lv_iconst (v := 0) hx hb d_MO_ground_43 (by decide) ?_
          obtain rfl := Option.some.inj hf
          exact hq _ _ _ _ d_MO_ground_44 hP hS
        · replace hf := if_n hc hf
          refine lv_iconst (v := 1) hx hb d_MO_ground_39 (by decide) ?_
          refine lv_goto (tgt := 44) hx hb d_MO_ground_40 (by decide) ?_
          obtain rfl := Option.some.inj hf
          exact hq _ _ _ _ d_MO_ground_44 hP hS
      · replace hf := if_p hc hf
        refine lv_iconst (v := (-1)) hx hb d_MO_ground_26 (by decide) ?_
        refine lv_goto (tgt := 44) hx hb d_MO_ground_27 (by decide) ?_
        obtain rfl := Option.some.inj hf
        exact hq _ _ _ _ d_MO_ground_44 hP hS
  · replace hf := if_p hc hf
    refine lv_bipush (v := (-2)) hx hb d_MO_ground_7 (by decide) ?_
    obtain rfl := Option.some.inj hf
    exact hq _ _ _ _ d_MO_ground_9 hP hS
theorem c_MO_ground (l : Launch) (D : va_G) (adr : Nat → Nat) (cA : Nat → ClassId) (μ ν : Mem) (x1 : Int32) (x2 : Int32)  {res : Int32} (hf : f_MO_ground ν x1 x2 = some res) : Met l y_MO_ground (Cond.code y_MO_ground prog_7_method_36_code 3 (Option.some Jvm.ClassFile.FieldType.int) :: lw_ok) rm_MO_ground (va_Pc [.ref (adr 63), .int x1, .int x2] (Wd D adr cA μ ν)) (QI D adr cA res μ ν) 0 0 (AA adr) :=
  met_of (own := "LakeReliefModel") rfl rfl (Nat.le_of_ble_eq_true rfl) (fun p e s m below meth c C hG hP hS ls hl => w_MO_ground x1 x2  C hG hf (fun pc ls H locs hd hP hS => ret_i C.1 C.2.1 C.2.2.2.2.2.1 C.2.2.2.2.2.2 hG hd hP hS) hP hS hl)
end X_MO_ground
