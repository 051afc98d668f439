section X_LR_islands
variable {p : Program} {l : Launch} {e : Env} {s : State} {m : MethodId} {args : Array Value} {below : List Frame} {meth : Method} {c : Code} {Q : State → Prop}
variable {D : va_G} {adr : Nat → Nat} {cA : Nat → ClassId} {μ ν : Mem}
theorem d_LR_islands_0 : decode prog_1_method_16_code 0 = .ok (.aload_n 0, 1) := by decide +kernel
theorem d_LR_islands_1 : decode prog_1_method_16_code 1 = .ok (.getfield 32, 3) := by decide +kernel
theorem d_LR_islands_4 : decode prog_1_method_16_code 4 = .ok (.ifCond .ne 6, 3) := by decide +kernel
theorem d_LR_islands_7 : decode prog_1_method_16_code 7 = .ok (.bipush (-2), 2) := by decide +kernel
theorem d_LR_islands_9 : decode prog_1_method_16_code 9 = .ok (.ireturn, 1) := by decide +kernel
theorem d_LR_islands_10 : decode prog_1_method_16_code 10 = .ok (.iload_n 1, 1) := by decide +kernel
theorem d_LR_islands_11 : decode prog_1_method_16_code 11 = .ok (.invokestatic 185, 3) := by decide +kernel
theorem d_LR_islands_14 : decode prog_1_method_16_code 14 = .ok (.ifCond .ne 5, 3) := by decide +kernel
theorem d_LR_islands_17 : decode prog_1_method_16_code 17 = .ok (.iconst (-1), 1) := by decide +kernel
theorem d_LR_islands_18 : decode prog_1_method_16_code 18 = .ok (.ireturn, 1) := by decide +kernel
theorem d_LR_islands_19 : decode prog_1_method_16_code 19 = .ok (.aload_n 0, 1) := by decide +kernel
theorem d_LR_islands_20 : decode prog_1_method_16_code 20 = .ok (.getfield 19, 3) := by decide +kernel
theorem d_LR_islands_23 : decode prog_1_method_16_code 23 = .ok (.aload_n 0, 1) := by decide +kernel
theorem d_LR_islands_24 : decode prog_1_method_16_code 24 = .ok (.getfield 19, 3) := by decide +kernel
theorem d_LR_islands_27 : decode prog_1_method_16_code 27 = .ok (.iload_n 1, 1) := by decide +kernel
theorem d_LR_islands_28 : decode prog_1_method_16_code 28 = .ok (.invokevirtual 188, 3) := by decide +kernel
theorem d_LR_islands_31 : decode prog_1_method_16_code 31 = .ok (.invokevirtual 192, 3) := by decide +kernel
theorem d_LR_islands_34 : decode prog_1_method_16_code 34 = .ok (.ireturn, 1) := by decide +kernel
set_option maxHeartbeats 4000000 in
set_option maxRecDepth 100000 in
theorem w_LR_islands (x1 : Int32)  (C : Cx prog_1_method_16_code 2 "LakeRelief" (Option.some Jvm.ClassFile.FieldType.int) p s m args meth c) (hG : Geo D adr cA s) {res : Int32 × Mem} (hf : f_LR_islands μ x1 = some res) (hq : ∀ (pc : Nat) (ls : Array Slot) (H : Heap) (locs : List Loc), decode prog_1_method_16_code pc = .ok (.ireturn, 1) → va_P D cls (wld adr cA res.2 ν) H → va_S (AA adr) s.heap H locs → W p l e rm_LR_islands s m args below meth c H locs 0 0 Q (F0 m pc ls [.int res.1])) {H : Heap} {locs : List Loc} {ls : Array Slot} (hP : va_P D cls (wld adr cA μ ν) H) (hS : va_S (AA adr) s.heap H locs) (hl : lv_has ls 2 [(0, .ref (adr 0)), (1, .int x1)]) : W p l e rm_LR_islands s m args below meth c H locs 0 0 Q (F0 m 0 ls []) := by
  obtain ⟨hx, hb, hml, hown, hts, hr, hlocks⟩ := id C
  unfold f_LR_islands at hf
  refine lv_aload_n hx hb d_LR_islands_0 rfl (lv_at hl 0 rfl) ?_
  refine g_LR_isLaid hx hb hts hown hG hP (hts _ in_178) d_LR_islands_1 ?_
  refine lv_if_ne (tgt := 10) hx hb d_LR_islands_4 (by decide) (fun hc => ?_) (fun hc => ?_)
  · replace hf := if_n hc hf
    refine lv_iload_n hx hb d_LR_islands_10 rfl (lv_at hl 1 rfl) ?_
    refine ki (ks (As := [.int x1]) (rest := []) ⟨hx, hb, hml, hown, hts⟩ (cw_LR_185 hts ⟨Nat.le_of_ble_eq_true rfl, Nat.le_of_ble_eq_true rfl⟩) (c_LR_isSeaLevel l D adr cA μ ν x1) hG hP rfl hl.1 (Nat.le_of_ble_eq_true rfl) d_LR_islands_11) hS (fun H locs hP hS => ?_)
    refine lv_if_ne (tgt := 19) hx hb d_LR_islands_14 (by decide) (fun hc => ?_) (fun hc => ?_)
    · replace hf := if_n hc hf
      refine lv_aload_n hx hb d_LR_islands_19 rfl (lv_at hl 0 rfl) ?_
      refine g_LR_relief hx hb hts hown hG hP (hts _ in_176) d_LR_islands_20 ?_
      refine lv_aload_n hx hb d_LR_islands_23 rfl (lv_at hl 0 rfl) ?_
      refine g_LR_relief hx hb hts hown hG hP (hts _ in_176) d_LR_islands_24 ?_
      refine lv_iload_n hx hb d_LR_islands_27 rfl (lv_at hl 1 rfl) ?_
      replace hf := B_some hf
      obtain ⟨v1, hv1, hf⟩ := hf
      refine kl (kv (As := [.int x1]) (rest := [.ref (adr 18)]) ⟨hx, hb, hml, hown, hts⟩ (cw_LR_188 hts ⟨Nat.le_of_ble_eq_true rfl, Nat.le_of_ble_eq_true rfl⟩) (c_RE_landLeftAt l D adr cA μ ν x1 hv1) hG hP (rc_o (q := 18) (ci := 2) hG hP (by decide) (wc_C (by decide) rfl) rfl) rfl hl.1 (Nat.le_of_ble_eq_true rfl) d_LR_islands_28) hS (fun H locs hP hS => ?_)
      replace hf := B_some hf
      obtain ⟨v2, hv2, hf⟩ := hf
      refine ki (kv (As := [.long v1]) (rest := []) ⟨hx, hb, hml, hown, hts⟩ (cw_LR_192 hts ⟨Nat.le_of_ble_eq_true rfl, Nat.le_of_ble_eq_true rfl⟩) (c_RE_piecesOf l D adr cA μ ν v1 hv2) hG hP (rc_o (q := 18) (ci := 2) hG hP (by decide) (wc_C (by decide) rfl) rfl) rfl hl.1 (Nat.le_of_ble_eq_true rfl) d_LR_islands_31) hS (fun H locs hP hS => ?_)
      obtain rfl := Option.some.inj hf
      exact hq _ _ _ _ d_LR_islands_34 hP hS
    · replace hf := if_p hc hf
      refine lv_iconst (v := (-1)) hx hb d_LR_islands_17 (by decide) ?_
      obtain rfl := Option.some.inj hf
      exact hq _ _ _ _ d_LR_islands_18 hP hS
  · replace hf := if_p hc hf
    refine lv_bipush (v := (-2)) hx hb d_LR_islands_7 (by decide) ?_
    obtain rfl := Option.some.inj hf
    exact hq _ _ _ _ d_LR_islands_9 hP hS
theorem c_LR_islands (l : Launch) (D : va_G) (adr : Nat → Nat) (cA : Nat → ClassId) (μ ν : Mem) (x1 : Int32)  {res : Int32 × Mem} (hf : f_LR_islands μ x1 = some res) : Met l y_LR_islands (Cond.code y_LR_islands prog_1_method_16_code 2 (Option.some Jvm.ClassFile.FieldType.int) :: lw_ok) rm_LR_islands (va_Pc [.ref (adr 0), .int x1] (Wd D adr cA μ ν)) (QI D adr cA res.1 res.2 ν) 0 0 (AA adr) :=
  met_of (own := "LakeRelief") rfl rfl (Nat.le_of_ble_eq_true rfl) (fun p e s m below meth c C hG hP hS ls hl => w_LR_islands x1  C hG hf (fun pc ls H locs hd hP hS => ret_i C.1 C.2.1 C.2.2.2.2.2.1 C.2.2.2.2.2.2 hG hd hP hS) hP hS hl)
end X_LR_islands
section X_LR_count
variable {p : Program} {l : Launch} {e : Env} {s : State} {m : MethodId} {args : Array Value} {below : List Frame} {meth : Method} {c : Code} {Q : State → Prop}
variable {D : va_G} {adr : Nat → Nat} {cA : Nat → ClassId} {μ ν : Mem}
theorem d_LR_count_0 : decode prog_1_method_17_code 0 = .ok (.aload_n 0, 1) := by decide +kernel
theorem d_LR_count_1 : decode prog_1_method_17_code 1 = .ok (.getfield 32, 3) := by decide +kernel
theorem d_LR_count_4 : decode prog_1_method_17_code 4 = .ok (.ifCond .ne 7, 3) := by decide +kernel
theorem d_LR_count_7 : decode prog_1_method_17_code 7 = .ok (.ldc2_w 195, 3) := by decide +kernel
theorem d_LR_count_10 : decode prog_1_method_17_code 10 = .ok (.lreturn, 1) := by decide +kernel
theorem d_LR_count_11 : decode prog_1_method_17_code 11 = .ok (.iload_n 1, 1) := by decide +kernel
theorem d_LR_count_12 : decode prog_1_method_17_code 12 = .ok (.tableswitch 117 0 7 #[48, 57, 66, 75, 84, 93, 101, 109], 48) := by decide +kernel
theorem d_LR_count_60 : decode prog_1_method_17_code 60 = .ok (.aload_n 0, 1) := by decide +kernel
theorem d_LR_count_61 : decode prog_1_method_17_code 61 = .ok (.getfield 19, 3) := by decide +kernel
theorem d_LR_count_64 : decode prog_1_method_17_code 64 = .ok (.getfield 197, 3) := by decide +kernel
theorem d_LR_count_67 : decode prog_1_method_17_code 67 = .ok (.i2l, 1) := by decide +kernel
theorem d_LR_count_68 : decode prog_1_method_17_code 68 = .ok (.lreturn, 1) := by decide +kernel
theorem d_LR_count_69 : decode prog_1_method_17_code 69 = .ok (.aload_n 0, 1) := by decide +kernel
theorem d_LR_count_70 : decode prog_1_method_17_code 70 = .ok (.getfield 19, 3) := by decide +kernel
theorem d_LR_count_73 : decode prog_1_method_17_code 73 = .ok (.getfield 86, 3) := by decide +kernel
theorem d_LR_count_76 : decode prog_1_method_17_code 76 = .ok (.i2l, 1) := by decide +kernel
theorem d_LR_count_77 : decode prog_1_method_17_code 77 = .ok (.lreturn, 1) := by decide +kernel
theorem d_LR_count_78 : decode prog_1_method_17_code 78 = .ok (.aload_n 0, 1) := by decide +kernel
theorem d_LR_count_79 : decode prog_1_method_17_code 79 = .ok (.getfield 19, 3) := by decide +kernel
theorem d_LR_count_82 : decode prog_1_method_17_code 82 = .ok (.invokevirtual 200, 3) := by decide +kernel
theorem d_LR_count_85 : decode prog_1_method_17_code 85 = .ok (.i2l, 1) := by decide +kernel
theorem d_LR_count_86 : decode prog_1_method_17_code 86 = .ok (.lreturn, 1) := by decide +kernel
theorem d_LR_count_87 : decode prog_1_method_17_code 87 = .ok (.aload_n 0, 1) := by decide +kernel
theorem d_LR_count_88 : decode prog_1_method_17_code 88 = .ok (.getfield 28, 3) := by decide +kernel
theorem d_LR_count_91 : decode prog_1_method_17_code 91 = .ok (.getfield 204, 3) := by decide +kernel
theorem d_LR_count_94 : decode prog_1_method_17_code 94 = .ok (.i2l, 1) := by decide +kernel
theorem d_LR_count_95 : decode prog_1_method_17_code 95 = .ok (.lreturn, 1) := by decide +kernel
theorem d_LR_count_96 : decode prog_1_method_17_code 96 = .ok (.aload_n 0, 1) := by decide +kernel
theorem d_LR_count_97 : decode prog_1_method_17_code 97 = .ok (.getfield 28, 3) := by decide +kernel
theorem d_LR_count_100 : decode prog_1_method_17_code 100 = .ok (.invokevirtual 207, 3) := by decide +kernel
theorem d_LR_count_103 : decode prog_1_method_17_code 103 = .ok (.i2l, 1) := by decide +kernel
theorem d_LR_count_104 : decode prog_1_method_17_code 104 = .ok (.lreturn, 1) := by decide +kernel
theorem d_LR_count_105 : decode prog_1_method_17_code 105 = .ok (.aload_n 0, 1) := by decide +kernel
theorem d_LR_count_106 : decode prog_1_method_17_code 106 = .ok (.getfield 28, 3) := by decide +kernel
theorem d_LR_count_109 : decode prog_1_method_17_code 109 = .ok (.invokevirtual 210, 3) := by decide +kernel
theorem d_LR_count_112 : decode prog_1_method_17_code 112 = .ok (.lreturn, 1) := by decide +kernel
theorem d_LR_count_113 : decode prog_1_method_17_code 113 = .ok (.aload_n 0, 1) := by decide +kernel
theorem d_LR_count_114 : decode prog_1_method_17_code 114 = .ok (.getfield 28, 3) := by decide +kernel
theorem d_LR_count_117 : decode prog_1_method_17_code 117 = .ok (.getfield 214, 3) := by decide +kernel
theorem d_LR_count_120 : decode prog_1_method_17_code 120 = .ok (.lreturn, 1) := by decide +kernel
theorem d_LR_count_121 : decode prog_1_method_17_code 121 = .ok (.aload_n 0, 1) := by decide +kernel
theorem d_LR_count_122 : decode prog_1_method_17_code 122 = .ok (.getfield 28, 3) := by decide +kernel
theorem d_LR_count_125 : decode prog_1_method_17_code 125 = .ok (.getfield 217, 3) := by decide +kernel
theorem d_LR_count_128 : decode prog_1_method_17_code 128 = .ok (.lreturn, 1) := by decide +kernel
theorem d_LR_count_129 : decode prog_1_method_17_code 129 = .ok (.ldc2_w 220, 3) := by decide +kernel
theorem d_LR_count_132 : decode prog_1_method_17_code 132 = .ok (.lreturn, 1) := by decide +kernel
set_option maxHeartbeats 4000000 in
set_option maxRecDepth 100000 in
theorem w_LR_count (x1 : Int32)  (C : Cx prog_1_method_17_code 2 "LakeRelief" (Option.some Jvm.ClassFile.FieldType.long) p s m args meth c) (hG : Geo D adr cA s) {res : Int64} (hf : f_LR_count μ x1 = some res) (hq : ∀ (pc : Nat) (ls : Array Slot) (H : Heap) (locs : List Loc), decode prog_1_method_17_code pc = .ok (.lreturn, 1) → va_P D cls (wld adr cA μ ν) H → va_S (AA adr) s.heap H locs → W p l e rm_LR_count s m args below meth c H locs 0 0 Q (F0 m pc ls [.long res])) {H : Heap} {locs : List Loc} {ls : Array Slot} (hP : va_P D cls (wld adr cA μ ν) H) (hS : va_S (AA adr) s.heap H locs) (hl : lv_has ls 2 [(0, .ref (adr 0)), (1, .int x1)]) : W p l e rm_LR_count s m args below meth c H locs 0 0 Q (F0 m 0 ls []) := by
  obtain ⟨hx, hb, hml, hown, hts, hr, hlocks⟩ := id C
  unfold f_LR_count at hf
  refine lv_aload_n hx hb d_LR_count_0 rfl (lv_at hl 0 rfl) ?_
  refine g_LR_isLaid hx hb hts hown hG hP (hts _ in_178) d_LR_count_1 ?_
  refine lv_if_ne (tgt := 11) hx hb d_LR_count_4 (by decide) (fun hc => ?_) (fun hc => ?_)
  · replace hf := if_n hc hf
    refine lv_iload_n hx hb d_LR_count_11 rfl (lv_at hl 1 rfl) ?_
    by_cases hc0 : x1 = 0
    · replace hf := if_p hc0 hf
      refine lv_tableIn (tgt := 60) (off := 48) hx hb d_LR_count_12 (by rw [hc0]; decide) (by rw [hc0]; decide) (by rw [hc0]; rfl) (by decide) ?_
      refine lv_aload_n hx hb d_LR_count_60 rfl (lv_at hl 0 rfl) ?_
      refine g_LR_relief hx hb hts hown hG hP (hts _ in_176) d_LR_count_61 ?_
      refine g_RE_size hx hb hts hown hG hP (hts _ in_60) d_LR_count_64 ?_
      refine lv_i2l hx hb d_LR_count_67 rfl ?_
      obtain rfl := Option.some.inj hf
      exact hq _ _ _ _ d_LR_count_68 hP hS
    replace hf := if_n hc0 hf
    by_cases hc1 : x1 = 1
    · replace hf := if_p hc1 hf
      refine lv_tableIn (tgt := 69) (off := 57) hx hb d_LR_count_12 (by rw [hc1]; decide) (by rw [hc1]; decide) (by rw [hc1]; rfl) (by decide) ?_
      refine lv_aload_n hx hb d_LR_count_69 rfl (lv_at hl 0 rfl) ?_
      refine g_LR_relief hx hb hts hown hG hP (hts _ in_176) d_LR_count_70 ?_
      refine g_RE_landCount hx hb hts hown hG hP (hts _ in_63) d_LR_count_73 ?_
      refine lv_i2l hx hb d_LR_count_76 rfl ?_
      obtain rfl := Option.some.inj hf
      exact hq _ _ _ _ d_LR_count_77 hP hS
    replace hf := if_n hc1 hf
    by_cases hc2 : x1 = 2
    · replace hf := if_p hc2 hf
      refine lv_tableIn (tgt := 78) (off := 66) hx hb d_LR_count_12 (by rw [hc2]; decide) (by rw [hc2]; decide) (by rw [hc2]; rfl) (by decide) ?_
      refine lv_aload_n hx hb d_LR_count_78 rfl (lv_at hl 0 rfl) ?_
      refine g_LR_relief hx hb hts hown hG hP (hts _ in_176) d_LR_count_79 ?_
      replace hf := B_some hf
      obtain ⟨v1, hv1, hf⟩ := hf
      refine ki (kv (As := []) (rest := []) ⟨hx, hb, hml, hown, hts⟩ (cw_LR_200 hts ⟨Nat.le_of_ble_eq_true rfl, Nat.le_of_ble_eq_true rfl⟩) (c_RE_hollowCount l D adr cA μ ν hv1) hG hP (rc_o (q := 18) (ci := 2) hG hP (by decide) (wc_C (by decide) rfl) rfl) rfl hl.1 (Nat.le_of_ble_eq_true rfl) d_LR_count_82) hS (fun H locs hP hS => ?_)
      refine lv_i2l hx hb d_LR_count_85 rfl ?_
      obtain rfl := Option.some.inj hf
      exact hq _ _ _ _ d_LR_count_86 hP hS
    replace hf := if_n hc2 hf
    by_cases hc3 : x1 = 3
    · replace hf := if_p hc3 hf
      refine lv_tableIn (tgt := 87) (off := 75) hx hb d_LR_count_12 (by rw [hc3]; decide) (by rw [hc3]; decide) (by rw [hc3]; rfl) (by decide) ?_
      refine lv_aload_n hx hb d_LR_count_87 rfl (lv_at hl 0 rfl) ?_
      refine g_LR_lakes hx hb hts hown hG hP (hts _ in_177) d_LR_count_88 ?_
      refine g_LK_number hx hb hts hown hG hP (hts _ in_155) d_LR_count_91 ?_
      refine lv_i2l hx hb d_LR_count_94 rfl ?_
      obtain rfl := Option.some.inj hf
      exact hq _ _ _ _ d_LR_count_95 hP hS
    replace hf := if_n hc3 hf
    by_cases hc4 : x1 = 4
    · replace hf := if_p hc4 hf
      refine lv_tableIn (tgt := 96) (off := 84) hx hb d_LR_count_12 (by rw [hc4]; decide) (by rw [hc4]; decide) (by rw [hc4]; rfl) (by decide) ?_
      refine lv_aload_n hx hb d_LR_count_96 rfl (lv_at hl 0 rfl) ?_
      refine g_LR_lakes hx hb hts hown hG hP (hts _ in_177) d_LR_count_97 ?_
      replace hf := B_some hf
      obtain ⟨v2, hv2, hf⟩ := hf
      refine ki (kv (As := []) (rest := []) ⟨hx, hb, hml, hown, hts⟩ (cw_LR_207 hts ⟨Nat.le_of_ble_eq_true rfl, Nat.le_of_ble_eq_true rfl⟩) (c_LK_numberThere l D adr cA μ ν hv2) hG hP (rc_o (q := 26) (ci := 1) hG hP (by decide) (wc_C (by decide) rfl) rfl) rfl hl.1 (Nat.le_of_ble_eq_true rfl) d_LR_count_100) hS (fun H locs hP hS => ?_)
      refine lv_i2l hx hb d_LR_count_103 rfl ?_
      obtain rfl := Option.some.inj hf
      exact hq _ _ _ _ d_LR_count_104 hP hS
    replace hf := if_n hc4 hf
    by_cases hc5 : x1 = 5
    · replace hf := if_p hc5 hf
      refine lv_tableIn (tgt := 105) (off := 93) hx hb d_LR_count_12 (by rw [hc5]; decide) (by rw [hc5]; decide) (by rw [hc5]; rfl) (by decide) ?_
      refine lv_aload_n hx hb d_LR_count_105 rfl (lv_at hl 0 rfl) ?_
      refine g_LR_lakes hx hb hts hown hG hP (hts _ in_177) d_LR_count_106 ?_
      replace hf := B_some hf
      obtain ⟨v3, hv3, hf⟩ := hf
      refine kl (kv (As := []) (rest := []) ⟨hx, hb, hml, hown, hts⟩ (cw_LR_210 hts ⟨Nat.le_of_ble_eq_true rfl, Nat.le_of_ble_eq_true rfl⟩) (c_LK_waterThere l D adr cA μ ν hv3) hG hP (rc_o (q := 26) (ci := 1) hG hP (by decide) (wc_C (by decide) rfl) rfl) rfl hl.1 (Nat.le_of_ble_eq_true rfl) d_LR_count_109) hS (fun H locs hP hS => ?_)
      obtain rfl := Option.some.inj hf
      exact hq _ _ _ _ d_LR_count_112 hP hS
    replace hf := if_n hc5 hf
    by_cases hc6 : x1 = 6
    · replace hf := if_p hc6 hf
      refine lv_tableIn (tgt := 113) (off := 101) hx hb d_LR_count_12 (by rw [hc6]; decide) (by rw [hc6]; decide) (by rw [hc6]; rfl) (by decide) ?_
      refine lv_aload_n hx hb d_LR_count_113 rfl (lv_at hl 0 rfl) ?_
      refine g_LR_lakes hx hb hts hown hG hP (hts _ in_177) d_LR_count_114 ?_
      refine g_LK_gone hx hb hts hown hG hP (hts _ in_157) d_LR_count_117 ?_
      obtain rfl := Option.some.inj hf
      exact hq _ _ _ _ d_LR_count_120 hP hS
    replace hf := if_n hc6 hf
    by_cases hc7 : x1 = 7
    · replace hf := if_p hc7 hf
      refine lv_tableIn (tgt := 121) (off := 109) hx hb d_LR_count_12 (by rw [hc7]; decide) (by rw [hc7]; decide) (by rw [hc7]; rfl) (by decide) ?_
      refine lv_aload_n hx hb d_LR_count_121 rfl (lv_at hl 0 rfl) ?_
      refine g_LR_lakes hx hb hts hown hG hP (hts _ in_177) d_LR_count_122 ?_
      refine g_LK_poured hx hb hts hown hG hP (hts _ in_159) d_LR_count_125 ?_
      obtain rfl := Option.some.inj hf
      exact hq _ _ _ _ d_LR_count_128 hP hS
    replace hf := if_n hc7 hf
    refine lv_tableOut (tgt := 129) hx hb d_LR_count_12 (by have hn0 := sw_ne (k := 0) hc0 (by decide) (by decide); have hn1 := sw_ne (k := 1) hc1 (by decide) (by decide); have hn2 := sw_ne (k := 2) hc2 (by decide) (by decide); have hn3 := sw_ne (k := 3) hc3 (by decide) (by decide); have hn4 := sw_ne (k := 4) hc4 (by decide) (by decide); have hn5 := sw_ne (k := 5) hc5 (by decide) (by decide); have hn6 := sw_ne (k := 6) hc6 (by decide) (by decide); have hn7 := sw_ne (k := 7) hc7 (by decide) (by decide); omega) (by decide) ?_
    refine lv_ldc2 (v := (-1)) hx hb hown (hts _ in_554) d_LR_count_129 ?_
    obtain rfl := Option.some.inj hf
    exact hq _ _ _ _ d_LR_count_132 hP hS
  · replace hf := if_p hc hf
    refine lv_ldc2 (v := (-2)) hx hb hown (hts _ in_541) d_LR_count_7 ?_
    obtain rfl := Option.some.inj hf
    exact hq _ _ _ _ d_LR_count_10 hP hS
theorem c_LR_count (l : Launch) (D : va_G) (adr : Nat → Nat) (cA : Nat → ClassId) (μ ν : Mem) (x1 : Int32)  {res : Int64} (hf : f_LR_count μ x1 = some res) : Met l y_LR_count (Cond.code y_LR_count prog_1_method_17_code 2 (Option.some Jvm.ClassFile.FieldType.long) :: lw_ok) rm_LR_count (va_Pc [.ref (adr 0), .int x1] (Wd D adr cA μ ν)) (QL D adr cA res μ ν) 0 0 (AA adr) :=
  met_of (own := "LakeRelief") rfl rfl (Nat.le_of_ble_eq_true rfl) (fun p e s m below meth c C hG hP hS ls hl => w_LR_count x1  C hG hf (fun pc ls H locs hd hP hS => ret_l C.1 C.2.1 C.2.2.2.2.2.1 C.2.2.2.2.2.2 hG hd hP hS) hP hS hl)
end X_LR_count
section X_MO_in
variable {p : Program} {l : Launch} {e : Env} {s : State} {m : MethodId} {args : Array Value} {below : List Frame} {meth : Method} {c : Code} {Q : State → Prop}
variable {D : va_G} {adr : Nat → Nat} {cA : Nat → ClassId} {μ ν : Mem}
theorem d_MO_in_0 : decode prog_7_method_2_code 0 = .ok (.lload_n 0, 1) := by decide +kernel
theorem d_MO_in_1 : decode prog_7_method_2_code 1 = .ok (.lload_n 2, 1) := by decide +kernel
theorem d_MO_in_2 : decode prog_7_method_2_code 2 = .ok (.lcmp, 1) := by decide +kernel
theorem d_MO_in_3 : decode prog_7_method_2_code 3 = .ok (.ifCond .lt 14, 3) := by decide +kernel
theorem d_MO_in_6 : decode prog_7_method_2_code 6 = .ok (.lload_n 0, 1) := by decide +kernel
theorem d_MO_in_7 : decode prog_7_method_2_code 7 = .ok (.lload 4, 2) := by decide +kernel
theorem d_MO_in_9 : decode prog_7_method_2_code 9 = .ok (.lcmp, 1) := by decide +kernel
theorem d_MO_in_10 : decode prog_7_method_2_code 10 = .ok (.ifCond .gt 7, 3) := by decide +kernel
theorem d_MO_in_13 : decode prog_7_method_2_code 13 = .ok (.iconst 1, 1) := by decide +kernel
theorem d_MO_in_14 : decode prog_7_method_2_code 14 = .ok (.goto 4, 3) := by decide +kernel
theorem d_MO_in_17 : decode prog_7_method_2_code 17 = .ok (.iconst 0, 1) := by decide +kernel
theorem d_MO_in_18 : decode prog_7_method_2_code 18 = .ok (.ireturn, 1) := by decide +kernel
set_option maxHeartbeats 4000000 in
set_option maxRecDepth 100000 in
theorem w_MO_in (x0 : Int64) (x2 : Int64) (x4 : Int64)  (C : Cx prog_7_method_2_code 6 "LakeReliefModel" (Option.some Jvm.ClassFile.FieldType.boolean) p s m args meth c) (hG : Geo D adr cA s) {res : Int32} (hf : f_MO_in x0 x2 x4 = res) (hq : ∀ (pc : Nat) (ls : Array Slot) (H : Heap) (locs : List Loc), res &&& 1 = res → decode prog_7_method_2_code pc = .ok (.ireturn, 1) → va_P D cls (wld adr cA μ ν) H → va_S (AA adr) s.heap H locs → W p l e rm_MO_in s m args below meth c H locs 0 0 Q (F0 m pc ls [.int res])) {H : Heap} {locs : List Loc} {ls : Array Slot} (hP : va_P D cls (wld adr cA μ ν) H) (hS : va_S (AA adr) s.heap H locs) (hl : lv_has ls 6 [(0, .long x0), (2, .long x2), (4, .long x4)]) : W p l e rm_MO_in s m args below meth c H locs 0 0 Q (F0 m 0 ls []) := by
  obtain ⟨hx, hb, hml, hown, hts, hr, hlocks⟩ := id C
  unfold f_MO_in at hf
  refine lv_lload_n hx hb d_MO_in_0 rfl (lv_at hl 0 rfl) ?_
  refine lv_lload_n hx hb d_MO_in_1 rfl (lv_at hl 1 rfl) ?_
  refine W.lcmp hx hb d_MO_in_2 ?_
  refine lv_if_lt (tgt := 17) hx hb d_MO_in_3 (by decide) (fun hc => ?_) (fun hc => ?_)
  · replace hf := if_p hc hf
    refine lv_iconst (v := 0) hx hb d_MO_in_17 (by decide) ?_
    subst hf
    exact hq _ _ _ _ (by decide) d_MO_in_18 hP hS
  · replace hf := if_n hc hf
    refine lv_lload_n hx hb d_MO_in_6 rfl (lv_at hl 0 rfl) ?_
    refine lv_lload hx hb d_MO_in_7 (lv_at hl 2 rfl) ?_
    refine W.lcmp hx hb d_MO_in_9 ?_
    refine lv_if_gt (tgt := 17) hx hb d_MO_in_10 (by decide) (fun hc => ?_) (fun hc => ?_)
    · replace hf := if_p hc hf
      refine lv_iconst (v := 0) hx hb d_MO_in_17 (by decide) ?_
      subst hf
      exact hq _ _ _ _ (by decide) d_MO_in_18 hP hS
    · replace hf := if_n hc hf
      refine lv_iconst (v := 1) hx hb d_MO_in_13 (by decide) ?_
      refine lv_goto (tgt := 18) hx hb d_MO_in_14 (by decide) ?_
      subst hf
      exact hq _ _ _ _ (by decide) d_MO_in_18 hP hS
theorem c_MO_in (l : Launch) (D : va_G) (adr : Nat → Nat) (cA : Nat → ClassId) (μ ν : Mem) (x0 : Int64) (x2 : Int64) (x4 : Int64)  : Met l y_MO_in (Cond.code y_MO_in prog_7_method_2_code 6 (Option.some Jvm.ClassFile.FieldType.boolean) :: lw_ok) rm_MO_in (va_Pc [.long x0, .long x2, .long x4] (Wd D adr cA μ ν)) (QI D adr cA (f_MO_in x0 x2 x4) μ ν) 0 0 (AA adr) :=
  met_of (own := "LakeReliefModel") rfl rfl (Nat.le_of_ble_eq_true rfl) (fun p e s m below meth c C hG hP hS ls hl => w_MO_in x0 x2 x4  C hG rfl (fun pc ls H locs hz hd hP hS => ret_z C.1 C.2.1 C.2.2.2.2.2.1 C.2.2.2.2.2.2 hG hz hd hP hS) hP hS hl)
end X_MO_in
section X_MO_isStrip
variable {p : Program} {l : Launch} {e : Env} {s : State} {m : MethodId} {args : Array Value} {below : List Frame} {meth : Method} {c : Code} {Q : State → Prop}
variable {D : va_G} {adr : Nat → Nat} {cA : Nat → ClassId} {μ ν : Mem}
theorem d_MO_isStrip_0 : decode prog_7_method_3_code 0 = .ok (.iload_n 0, 1) := by decide +kernel
theorem d_MO_isStrip_1 : decode prog_7_method_3_code 1 = .ok (.i2l, 1) := by decide +kernel
theorem d_MO_isStrip_2 : decode prog_7_method_3_code 2 = .ok (.lconst 0, 1) := by decide +kernel
theorem d_MO_isStrip_3 : decode prog_7_method_3_code 3 = .ok (.ldc2_w 78, 3) := by decide +kernel
theorem d_MO_isStrip_6 : decode prog_7_method_3_code 6 = .ok (.invokestatic 80, 3) := by decide +kernel
theorem d_MO_isStrip_9 : decode prog_7_method_3_code 9 = .ok (.ireturn, 1) := by decide +kernel
set_option maxHeartbeats 4000000 in
set_option maxRecDepth 100000 in
theorem w_MO_isStrip (x0 : Int32)  (C : Cx prog_7_method_3_code 1 "LakeReliefModel" (Option.some Jvm.ClassFile.FieldType.boolean) p s m args meth c) (hG : Geo D adr cA s) {res : Int32} (hf : f_MO_isStrip x0 = some res) (hq : ∀ (pc : Nat) (ls : Array Slot) (H : Heap) (locs : List Loc), res &&& 1 = res → decode prog_7_method_3_code pc = .ok (.ireturn, 1) → va_P D cls (wld adr cA μ ν) H → va_S (AA adr) s.heap H locs → W p l e rm_MO_isStrip s m args below meth c H locs 0 0 Q (F0 m pc ls [.int res])) {H : Heap} {locs : List Loc} {ls : Array Slot} (hP : va_P D cls (wld adr cA μ ν) H) (hS : va_S (AA adr) s.heap H locs) (hl : lv_has ls 1 [(0, .int x0)]) : W p l e rm_MO_isStrip s m args below meth c H locs 0 0 Q (F0 m 0 ls []) := by
  obtain ⟨hx, hb, hml, hown, hts, hr, hlocks⟩ := id C
  unfold f_MO_isStrip at hf
  refine lv_iload_n hx hb d_MO_isStrip_0 rfl (lv_at hl 0 rfl) ?_
  refine lv_i2l hx hb d_MO_isStrip_1 rfl ?_
  refine lv_lconst (v := 0) hx hb d_MO_isStrip_2 (by decide) ?_
  refine lv_ldc2 (v := 7) hx hb hown (hts _ in_658) d_MO_isStrip_3 ?_
  refine ki (ks (As := [.long x0.toInt64, .long 0, .long 7]) (rest := []) ⟨hx, hb, hml, hown, hts⟩ (cw_MO_80 hts ⟨Nat.le_of_ble_eq_true rfl, Nat.le_of_ble_eq_true rfl⟩) (c_MO_in l D adr cA μ ν x0.toInt64 0 7) hG hP rfl hl.1 (Nat.le_of_ble_eq_true rfl) d_MO_isStrip_6) hS (fun H locs hP hS => ?_)
  replace hf := Bg_some hf
  obtain ⟨hb1, hf⟩ := hf
  obtain rfl := Option.some.inj hf
  exact hq _ _ _ _ hb1 d_MO_isStrip_9 hP hS
theorem c_MO_isStrip (l : Launch) (D : va_G) (adr : Nat → Nat) (cA : Nat → ClassId) (μ ν : Mem) (x0 : Int32)  {res : Int32} (hf : f_MO_isStrip x0 = some res) : Met l y_MO_isStrip (Cond.code y_MO_isStrip prog_7_method_3_code 1 (Option.some Jvm.ClassFile.FieldType.boolean) :: lw_ok) rm_MO_isStrip (va_Pc [.int x0] (Wd D adr cA μ ν)) (QI D adr cA res μ ν) 0 0 (AA adr) :=
  met_of (own := "LakeReliefModel") rfl rfl (Nat.le_of_ble_eq_true rfl) (fun p e s m below meth c C hG hP hS ls hl => w_MO_isStrip x0  C hG hf (fun pc ls H locs hz hd hP hS => ret_z C.1 C.2.1 C.2.2.2.2.2.1 C.2.2.2.2.2.2 hG hz hd hP hS) hP hS hl)
end X_MO_isStrip
section X_MO_strip
variable {p : Program} {l : Launch} {e : Env} {s : State} {m : MethodId} {args : Array Value} {below : List Frame} {meth : Method} {c : Code} {Q : State → Prop}
variable {D : va_G} {adr : Nat → Nat} {cA : Nat → ClassId} {μ ν : Mem}
theorem d_MO_strip_0 : decode prog_7_method_4_code 0 = .ok (.iload_n 1, 1) := by decide +kernel
theorem d_MO_strip_1 : decode prog_7_method_4_code 1 = .ok (.invokestatic 84, 3) := by decide +kernel
theorem d_MO_strip_4 : decode prog_7_method_4_code 4 = .ok (.ifCond .eq 27, 3) := by decide +kernel
theorem d_MO_strip_7 : decode prog_7_method_4_code 7 = .ok (.iload_n 2, 1) := by decide +kernel
theorem d_MO_strip_8 : decode prog_7_method_4_code 8 = .ok (.i2l, 1) := by decide +kernel
theorem d_MO_strip_9 : decode prog_7_method_4_code 9 = .ok (.ldc2_w 88, 3) := by decide +kernel
theorem d_MO_strip_12 : decode prog_7_method_4_code 12 = .ok (.ldc2_w 90, 3) := by decide +kernel
theorem d_MO_strip_15 : decode prog_7_method_4_code 15 = .ok (.invokestatic 80, 3) := by decide +kernel
theorem d_MO_strip_18 : decode prog_7_method_4_code 18 = .ok (.ifCond .eq 13, 3) := by decide +kernel
theorem d_MO_strip_21 : decode prog_7_method_4_code 21 = .ok (.iload_n 2, 1) := by decide +kernel
theorem d_MO_strip_22 : decode prog_7_method_4_code 22 = .ok (.ifCond .lt 11, 3) := by decide +kernel
theorem d_MO_strip_25 : decode prog_7_method_4_code 25 = .ok (.iload_n 3, 1) := by decide +kernel
theorem d_MO_strip_26 : decode prog_7_method_4_code 26 = .ok (.bipush 12, 2) := by decide +kernel
theorem d_MO_strip_28 : decode prog_7_method_4_code 28 = .ok (.if_icmp .le 5, 3) := by decide +kernel
theorem d_MO_strip_31 : decode prog_7_method_4_code 31 = .ok (.iconst (-1), 1) := by decide +kernel
theorem d_MO_strip_32 : decode prog_7_method_4_code 32 = .ok (.ireturn, 1) := by decide +kernel
theorem d_MO_strip_33 : decode prog_7_method_4_code 33 = .ok (.iload_n 2, 1) := by decide +kernel
theorem d_MO_strip_34 : decode prog_7_method_4_code 34 = .ok (.ifCond .lt 10, 3) := by decide +kernel
theorem d_MO_strip_37 : decode prog_7_method_4_code 37 = .ok (.iload_n 3, 1) := by decide +kernel
theorem d_MO_strip_38 : decode prog_7_method_4_code 38 = .ok (.ifCond .ge 6, 3) := by decide +kernel
theorem d_MO_strip_41 : decode prog_7_method_4_code 41 = .ok (.bipush (-13), 2) := by decide +kernel
theorem d_MO_strip_43 : decode prog_7_method_4_code 43 = .ok (.ireturn, 1) := by decide +kernel
theorem d_MO_strip_44 : decode prog_7_method_4_code 44 = .ok (.aload_n 0, 1) := by decide +kernel
theorem d_MO_strip_45 : decode prog_7_method_4_code 45 = .ok (.getfield 7, 3) := by decide +kernel
theorem d_MO_strip_48 : decode prog_7_method_4_code 48 = .ok (.iload_n 1, 1) := by decide +kernel
theorem d_MO_strip_49 : decode prog_7_method_4_code 49 = .ok (.iload_n 2, 1) := by decide +kernel
theorem d_MO_strip_50 : decode prog_7_method_4_code 50 = .ok (.iastore, 1) := by decide +kernel
theorem d_MO_strip_51 : decode prog_7_method_4_code 51 = .ok (.aload_n 0, 1) := by decide +kernel
theorem d_MO_strip_52 : decode prog_7_method_4_code 52 = .ok (.getfield 13, 3) := by decide +kernel
theorem d_MO_strip_55 : decode prog_7_method_4_code 55 = .ok (.iload_n 1, 1) := by decide +kernel
theorem d_MO_strip_56 : decode prog_7_method_4_code 56 = .ok (.iload_n 2, 1) := by decide +kernel
theorem d_MO_strip_57 : decode prog_7_method_4_code 57 = .ok (.ifCond .ge 7, 3) := by decide +kernel
theorem d_MO_strip_60 : decode prog_7_method_4_code 60 = .ok (.iconst 0, 1) := by decide +kernel
theorem d_MO_strip_61 : decode prog_7_method_4_code 61 = .ok (.goto 4, 3) := by decide +kernel
theorem d_MO_strip_64 : decode prog_7_method_4_code 64 = .ok (.iload_n 3, 1) := by decide +kernel
theorem d_MO_strip_65 : decode prog_7_method_4_code 65 = .ok (.iastore, 1) := by decide +kernel
theorem d_MO_strip_66 : decode prog_7_method_4_code 66 = .ok (.iconst 0, 1) := by decide +kernel
theorem d_MO_strip_67 : decode prog_7_method_4_code 67 = .ok (.istore 4, 2) := by decide +kernel
theorem d_MO_strip_69 : decode prog_7_method_4_code 69 = .ok (.iload 4, 2) := by decide +kernel
theorem d_MO_strip_71 : decode prog_7_method_4_code 71 = .ok (.bipush 12, 2) := by decide +kernel
theorem d_MO_strip_73 : decode prog_7_method_4_code 73 = .ok (.if_icmp .ge 22, 3) := by decide +kernel
theorem d_MO_strip_76 : decode prog_7_method_4_code 76 = .ok (.aload_n 0, 1) := by decide +kernel
theorem d_MO_strip_77 : decode prog_7_method_4_code 77 = .ok (.getfield 16, 3) := by decide +kernel
theorem d_MO_strip_80 : decode prog_7_method_4_code 80 = .ok (.bipush 12, 2) := by decide +kernel
theorem d_MO_strip_82 : decode prog_7_method_4_code 82 = .ok (.iload_n 1, 1) := by decide +kernel
theorem d_MO_strip_83 : decode prog_7_method_4_code 83 = .ok (.imul, 1) := by decide +kernel
theorem d_MO_strip_84 : decode prog_7_method_4_code 84 = .ok (.iload 4, 2) := by decide +kernel
theorem d_MO_strip_86 : decode prog_7_method_4_code 86 = .ok (.iadd, 1) := by decide +kernel
theorem d_MO_strip_87 : decode prog_7_method_4_code 87 = .ok (.iconst 0, 1) := by decide +kernel
theorem d_MO_strip_88 : decode prog_7_method_4_code 88 = .ok (.iastore, 1) := by decide +kernel
theorem d_MO_strip_89 : decode prog_7_method_4_code 89 = .ok (.iinc 4 1, 3) := by decide +kernel
theorem d_MO_strip_92 : decode prog_7_method_4_code 92 = .ok (.goto (-23), 3) := by decide +kernel
theorem d_MO_strip_95 : decode prog_7_method_4_code 95 = .ok (.iconst 0, 1) := by decide +kernel
theorem d_MO_strip_96 : decode prog_7_method_4_code 96 = .ok (.ireturn, 1) := by decide +kernel
set_option maxHeartbeats 4000000 in
set_option maxRecDepth 100000 in
theorem w_MO_strip_L69 (y1 : Int32)  (C : Cx prog_7_method_4_code 5 "LakeReliefModel" (Option.some Jvm.ClassFile.FieldType.int) p s m args meth c) (hG : Geo D adr cA s) (v : Mem) (hE : ∀ (H : Heap) (locs : List Loc) (ls : Array Slot), va_P D cls (wld adr cA μ v) H → va_S (AA adr) s.heap H locs → lv_has ls 5 [] → W p l e rm_MO_strip s m args below meth c H locs 0 0 Q (F0 m 95 ls [])) : ∀ (n : Nat) (ν : Mem) (y4 : Int32), f_MO_strip_L69 y1 n ν y4 = some v → ∀ {H : Heap} {locs : List Loc} {ls : Array Slot}, va_P D cls (wld adr cA μ ν) H → va_S (AA adr) s.heap H locs → lv_has ls 5 [(0, .ref (adr 63)), (1, .int y1), (4, .int y4)] → W p l e rm_MO_strip s m args below meth c H locs 0 0 Q (F0 m 69 ls []) := by
  obtain ⟨hx, hb, hml, hown, hts, hr, hlocks⟩ := id C
  intro n
  induction n with
  | zero => intro ν y4 hf; rw [f_MO_strip_L69.eq_1] at hf; cases hf
  | succ n ih =>
    intro ν y4 hf H locs ls hP hS hl
    rw [f_MO_strip_L69.eq_2] at hf
    refine lv_iload hx hb d_MO_strip_69 (lv_at hl 2 rfl) ?_
    refine lv_bipush (v := 12) hx hb d_MO_strip_71 (by decide) ?_
    refine lv_icmp_ge (tgt := 95) hx hb d_MO_strip_73 (by decide) (fun hc => ?_) (fun hc => ?_)
    · replace hf := if_p hc hf
      obtain rfl := Option.some.inj hf
      exact hE _ _ _ hP hS (lv_sub hl [] rfl)
    · replace hf := if_n hc hf
      refine lv_aload_n hx hb d_MO_strip_76 rfl (lv_at hl 0 rfl) ?_
      refine g_MO_strips hx hb hts hown hG hP (hts _ in_563) d_MO_strip_77 ?_
      refine lv_bipush (v := 12) hx hb d_MO_strip_80 (by decide) ?_
      refine lv_iload_n hx hb d_MO_strip_82 rfl (lv_at hl 1 rfl) ?_
      refine lv_imul hx hb d_MO_strip_83 ?_
      refine lv_iload hx hb d_MO_strip_84 (lv_at hl 2 rfl) ?_
      refine lv_iadd hx hb d_MO_strip_86 ?_
      refine lv_iconst (v := 0) hx hb d_MO_strip_87 (by decide) ?_
      replace hf := G_some hf
      obtain ⟨hi5, hf⟩ := hf
      refine rM_iast hx hb hG hP hS 66 96 (by decide) (by decide) (fun _ _ => rfl) hi5 d_MO_strip_88 (fun H locs hP hS => ?_)
      refine lv_iinc (v := (y4 + 1)) (lv' := [(4, .int (y4 + 1)), (0, .ref (adr 63)), (1, .int y1)]) hx hb d_MO_strip_89 hl (k := 2) rfl rfl (by decide) rfl (fun ls hl => ?_)
      refine lv_goto (tgt := 69) hx hb d_MO_strip_92 (by decide) ?_
      exact ih _ _ hf hP hS (lv_sub hl [1, 2, 0] rfl)
set_option maxHeartbeats 4000000 in
set_option maxRecDepth 100000 in
theorem w_MO_strip (x1 : Int32) (x2 : Int32) (x3 : Int32)  (C : Cx prog_7_method_4_code 5 "LakeReliefModel" (Option.some Jvm.ClassFile.FieldType.int) p s m args meth c) (hG : Geo D adr cA s) {res : Int32 × Mem} (hf : f_MO_strip ν x1 x2 x3 = some res) (hq : ∀ (pc : Nat) (ls : Array Slot) (H : Heap) (locs : List Loc), decode prog_7_method_4_code pc = .ok (.ireturn, 1) → va_P D cls (wld adr cA μ res.2) H → va_S (AA adr) s.heap H locs → W p l e rm_MO_strip s m args below meth c H locs 0 0 Q (F0 m pc ls [.int res.1])) {H : Heap} {locs : List Loc} {ls : Array Slot} (hP : va_P D cls (wld adr cA μ ν) H) (hS : va_S (AA adr) s.heap H locs) (hl : lv_has ls 5 [(0, .ref (adr 63)), (1, .int x1), (2, .int x2), (3, .int x3)]) : W p l e rm_MO_strip s m args below meth c H locs 0 0 Q (F0 m 0 ls []) := by
  obtain ⟨hx, hb, hml, hown, hts, hr, hlocks⟩ := id C
  unfold f_MO_strip at hf
  refine lv_iload_n hx hb d_MO_strip_0 rfl (lv_at hl 1 rfl) ?_
  replace hf := B_some hf
  obtain ⟨v1, hv1, hf⟩ := hf
  refine ki (ks (As := [.int x1]) (rest := []) ⟨hx, hb, hml, hown, hts⟩ (cw_MO_84 hts ⟨Nat.le_of_ble_eq_true rfl, Nat.le_of_ble_eq_true rfl⟩) (c_MO_isStrip l D adr cA μ ν x1 hv1) hG hP rfl hl.1 (Nat.le_of_ble_eq_true rfl) d_MO_strip_1) hS (fun H locs hP hS => ?_)
  refine lv_if_eq (tgt := 31) hx hb d_MO_strip_4 (by decide) (fun hc => ?_) (fun hc => ?_)
  · replace hf := if_p hc hf
    refine lv_iconst (v := (-1)) hx hb d_MO_strip_31 (by decide) ?_
    obtain rfl := Option.some.inj hf
    exact hq _ _ _ _ d_MO_strip_32 hP hS
  · replace hf := if_n hc hf
    refine lv_iload_n hx hb d_MO_strip_7 rfl (lv_at hl 2 rfl) ?_
    refine lv_i2l hx hb d_MO_strip_8 rfl ?_
    refine lv_ldc2 (v := (-1)) hx hb hown (hts _ in_662) d_MO_strip_9 ?_
    refine lv_ldc2 (v := 2) hx hb hown (hts _ in_663) d_MO_strip_12 ?_
    refine ki (ks (As := [.long x2.toInt64, .long (-1), .long 2]) (rest := []) ⟨hx, hb, hml, hown, hts⟩ (cw_MO_80 hts ⟨Nat.le_of_ble_eq_true rfl, Nat.le_of_ble_eq_true rfl⟩) (c_MO_in l D adr cA μ ν x2.toInt64 (-1) 2) hG hP rfl hl.1 (Nat.le_of_ble_eq_true rfl) d_MO_strip_15) hS (fun H locs hP hS => ?_)
    refine lv_if_eq (tgt := 31) hx hb d_MO_strip_18 (by decide) (fun hc => ?_) (fun hc => ?_)
    · replace hf := if_p hc hf
      refine lv_iconst (v := (-1)) hx hb d_MO_strip_31 (by decide) ?_
      obtain rfl := Option.some.inj hf
      exact hq _ _ _ _ d_MO_strip_32 hP hS
    · replace hf := if_n hc hf
      refine lv_iload_n hx hb d_MO_strip_21 rfl (lv_at hl 2 rfl) ?_
      refine lv_if_lt (tgt := 33) hx hb d_MO_strip_22 (by decide) (fun hc => ?_) (fun hc => ?_)
      · replace hf := if_p hc hf
        refine lv_iload_n hx hb d_MO_strip_33 rfl (lv_at hl 2 rfl) ?_
        refine lv_if_lt (tgt := 44) hx hb d_MO_strip_34 (by decide) (fun hc => ?_) (fun hc => ?_)
        · replace hf := if_p hc hf
          refine lv_aload_n hx hb d_MO_strip_44 rfl (lv_at hl 0 rfl) ?_
          refine g_MO_kind hx hb hts hown hG hP (hts _ in_561) d_MO_strip_45 ?_
          refine lv_iload_n hx hb d_MO_strip_48 rfl (lv_at hl 1 rfl) ?_
          refine lv_iload_n hx hb d_MO_strip_49 rfl (lv_at hl 2 rfl) ?_
          replace hf := G_some hf
          obtain ⟨hi2, hf⟩ := hf
          refine rM_iast hx hb hG hP hS 64 8 (by decide) (by decide) (fun _ _ => rfl) hi2 d_MO_strip_50 (fun H locs hP hS => ?_)
          refine lv_aload_n hx hb d_MO_strip_51 rfl (lv_at hl 0 rfl) ?_
          refine g_MO_size hx hb hts hown hG hP (hts _ in_562) d_MO_strip_52 ?_
          refine lv_iload_n hx hb d_MO_strip_55 rfl (lv_at hl 1 rfl) ?_
          refine lv_iload_n hx hb d_MO_strip_56 rfl (lv_at hl 2 rfl) ?_
          replace hf := B_some hf
          obtain ⟨v3, hv3, hf⟩ := hf
          have hJ : ∀ (H : Heap) (locs : List Loc) (ls : Array Slot), va_P D cls (wld adr cA μ (sI ν 64 x1.toNatClampNeg x2)) H → va_S (AA adr) s.heap H locs → lv_has ls 5 [(0, .ref (adr 63)), (1, .int x1)] → W p l e rm_MO_strip s m args below meth c H locs 0 0 Q (F0 m 65 ls [.int v3, .int x1, .ref (adr 65)]) := by
            clear hv3
            intro H locs ls hP hS hl
            replace hf := G_some hf
            obtain ⟨hi4, hf⟩ := hf
            refine rM_iast hx hb hG hP hS 65 8 (by decide) (by decide) (fun _ _ => rfl) hi4 d_MO_strip_65 (fun H locs hP hS => ?_)
            refine lv_iconst (v := 0) hx hb d_MO_strip_66 (by decide) ?_
            refine lv_istore (lv' := [(4, .int 0), (0, .ref (adr 63)), (1, .int x1)]) hx hb d_MO_strip_67 hl (by decide) rfl (fun ls hl => ?_)
            replace hf := B_some hf
            obtain ⟨v6, hv6, hf⟩ := hf
            refine w_MO_strip_L69 x1  C hG v6 ?_ FU _ _ hv6 hP hS (lv_sub hl [1, 2, 0] rfl)
            clear hv6 hP hS hl
            intro H locs ls hP hS hl
            refine lv_iconst (v := 0) hx hb d_MO_strip_95 (by decide) ?_
            obtain rfl := Option.some.inj hf
            exact hq _ _ _ _ d_MO_strip_96 hP hS
          clear hf
          have hf := hv3
          clear hv3
          refine lv_if_ge (tgt := 64) hx hb d_MO_strip_57 (by decide) (fun hc => ?_) (fun hc => ?_)
          · replace hf := if_p hc hf
            refine lv_iload_n hx hb d_MO_strip_64 rfl (lv_at hl 3 rfl) ?_
            obtain rfl := Option.some.inj hf
            exact hJ _ _ _ hP hS (lv_sub hl [0, 1] rfl)
          · replace hf := if_n hc hf
            refine lv_iconst (v := 0) hx hb d_MO_strip_60 (by decide) ?_
            refine lv_goto (tgt := 65) hx hb d_MO_strip_61 (by decide) ?_
            obtain rfl := Option.some.inj hf
            exact hJ _ _ _ hP hS (lv_sub hl [0, 1] rfl)
        · replace hf := if_n hc hf
          refine lv_iload_n hx hb d_MO_strip_37 rfl (lv_at hl 3 rfl) ?_
          refine lv_if_ge (tgt := 44) hx hb d_MO_strip_38 (by decide) (fun hc => ?_) (fun hc => ?_)
          · replace hf := if_p hc hf
            refine lv_aload_n hx hb d_MO_strip_44 rfl (lv_at hl 0 rfl) ?_
            refine g_MO_kind hx hb hts hown hG hP (hts _ in_561) d_MO_strip_45 ?_
            refine lv_iload_n hx hb d_MO_strip_48 rfl (lv_at hl 1 rfl) ?_
            refine lv_iload_n hx hb d_MO_strip_49 rfl (lv_at hl 2 rfl) ?_
            replace hf := G_some hf
            obtain ⟨hi7, hf⟩ := hf
            refine rM_iast hx hb hG hP hS 64 8 (by decide) (by decide) (fun _ _ => rfl) hi7 d_MO_strip_50 (fun H locs hP hS => ?_)
            refine lv_aload_n hx hb d_MO_strip_51 rfl (lv_at hl 0 rfl) ?_
            refine g_MO_size hx hb hts hown hG hP (hts _ in_562) d_MO_strip_52 ?_
            refine lv_iload_n hx hb d_MO_strip_55 rfl (lv_at hl 1 rfl) ?_
            refine lv_iload_n hx hb d_MO_strip_56 rfl (lv_at hl 2 rfl) ?_
            replace hf := B_some hf
            obtain ⟨v8, hv8, hf⟩ := hf
            have hJ : ∀ (H : Heap) (locs : List Loc) (ls : Array Slot), va_P D cls (wld adr cA μ (sI ν 64 x1.toNatClampNeg x2)) H → va_S (AA adr) s.heap H locs → lv_has ls 5 [(0, .ref (adr 63)), (1, .int x1)] → W p l e rm_MO_strip s m args below meth c H locs 0 0 Q (F0 m 65 ls [.int v8, .int x1, .ref (adr 65)]) := by
              clear hv8
              intro H locs ls hP hS hl
              replace hf := G_some hf
              obtain ⟨hi9, hf⟩ := hf
              refine rM_iast hx hb hG hP hS 65 8 (by decide) (by decide) (fun _ _ => rfl) hi9 d_MO_strip_65 (fun H locs hP hS => ?_)
              refine lv_iconst (v := 0) hx hb d_MO_strip_66 (by decide) ?_
              refine lv_istore (lv' := [(4, .int 0), (0, .ref (adr 63)), (1, .int x1)]) hx hb d_MO_strip_67 hl (by decide) rfl (fun ls hl => ?_)
              replace hf := B_some hf
              obtain ⟨v11, hv11, hf⟩ := hf
              refine w_MO_strip_L69 x1  C hG v11 ?_ FU _ _ hv11 hP hS (lv_sub hl [1, 2, 0] rfl)
              clear hv11 hP hS hl
              intro H locs ls hP hS hl
              refine lv_iconst (v := 0) hx hb d_MO_strip_95 (by decide) ?_
              obtain rfl := Option.some.inj hf
              exact hq _ _ _ _ d_MO_strip_96 hP hS
            clear hf
            have hf := hv8
            clear hv8
            refine lv_if_ge (tgt := 64) hx hb d_MO_strip_57 (by decide) (fun hc => ?_) (fun hc => ?_)
            · replace hf := if_p hc hf
              refine lv_iload_n hx hb d_MO_strip_64 rfl (lv_at hl 3 rfl) ?_
              obtain rfl := Option.some.inj hf
              exact hJ _ _ _ hP hS (lv_sub hl [0, 1] rfl)
            · replace hf := if_n hc hf
              refine lv_iconst (v := 0) hx hb d_MO_strip_60 (by decide) ?_
              refine lv_goto (tgt := 65) hx hb d_MO_strip_61 (by decide) ?_
              obtain rfl := Option.some.inj hf
              exact hJ _ _ _ hP hS (lv_sub hl [0, 1] rfl)
          · replace hf := if_n hc hf
            refine lv_bipush (v := (-13)) hx hb d_MO_strip_41 (by decide) ?_
            obtain rfl := Option.some.inj hf
            exact hq _ _ _ _ d_MO_strip_43 hP hS
      · replace hf := if_n hc hf
        refine lv_iload_n hx hb d_MO_strip_25 rfl (lv_at hl 3 rfl) ?_
        refine lv_bipush (v := 12) hx hb d_MO_strip_26 (by decide) ?_
        refine lv_icmp_le (tgt := 33) hx hb d_MO_strip_28 (by decide) (fun hc => ?_) (fun hc => ?_)
        · replace hf := if_p hc hf
          refine lv_iload_n hx hb d_MO_strip_33 rfl (lv_at hl 2 rfl) ?_
          refine lv_if_lt (tgt := 44) hx hb d_MO_strip_34 (by decide) (fun hc => ?_) (fun hc => ?_)
          · replace hf := if_p hc hf
            refine lv_aload_n hx hb d_MO_strip_44 rfl (lv_at hl 0 rfl) ?_
            refine g_MO_kind hx hb hts hown hG hP (hts _ in_561) d_MO_strip_45 ?_
            refine lv_iload_n hx hb d_MO_strip_48 rfl (lv_at hl 1 rfl) ?_
            refine lv_iload_n hx hb d_MO_strip_49 rfl (lv_at hl 2 rfl) ?_
            replace hf := G_some hf
            obtain ⟨hi12, hf⟩ := hf
            refine rM_iast hx hb hG hP hS 64 8 (by decide) (by decide) (fun _ _ => rfl) hi12 d_MO_strip_50 (fun H locs hP hS => ?_)
            refine lv_aload_n hx hb d_MO_strip_51 rfl (lv_at hl 0 rfl) ?_
            refine g_MO_size hx hb hts hown hG hP (hts _ in_562) d_MO_strip_52 ?_
            refine lv_iload_n hx hb d_MO_strip_55 rfl (lv_at hl 1 rfl) ?_
            refine lv_iload_n hx hb d_MO_strip_56 rfl (lv_at hl 2 rfl) ?_
            replace hf := B_some hf
            obtain ⟨v13, hv13, hf⟩ := hf
            have hJ : ∀ (H : Heap) (locs : List Loc) (ls : Array Slot), va_P D cls (wld adr cA μ (sI ν 64 x1.toNatClampNeg x2)) H → va_S (AA adr) s.heap H locs → lv_has ls 5 [(0, .ref (adr 63)), (1, .int x1)] → W p l e rm_MO_strip s m args below meth c H locs 0 0 Q (F0 m 65 ls [.int v13, .int x1, .ref (adr 65)]) := by
              clear hv13
              intro H locs ls hP hS hl
              replace hf := G_some hf
              obtain ⟨hi14, hf⟩ := hf
              refine rM_iast hx hb hG hP hS 65 8 (by decide) (by decide) (fun _ _ => rfl) hi14 d_MO_strip_65 (fun H locs hP hS => ?_)
              refine lv_iconst (v := 0) hx hb d_MO_strip_66 (by decide) ?_
              refine lv_istore (lv' := [(4, .int 0), (0, .ref (adr 63)), (1, .int x1)]) hx hb d_MO_strip_67 hl (by decide) rfl (fun ls hl => ?_)
              replace hf := B_some hf
              obtain ⟨v16, hv16, hf⟩ := hf
              refine w_MO_strip_L69 x1  C hG v16 ?_ FU _ _ hv16 hP hS (lv_sub hl [1, 2, 0] rfl)
              clear hv16 hP hS hl
              intro H locs ls hP hS hl
              refine lv_iconst (v := 0) hx hb d_MO_strip_95 (by decide) ?_
              obtain rfl := Option.some.inj hf
              exact hq _ _ _ _ d_MO_strip_96 hP hS
            clear hf
            have hf := hv13
            clear hv13
            refine lv_if_ge (tgt := 64) hx hb d_MO_strip_57 (by decide) (fun hc => ?_) (fun hc => ?_)
            · replace hf := if_p hc hf
              refine lv_iload_n hx hb d_MO_strip_64 rfl (lv_at hl 3 rfl) ?_
              obtain rfl := Option.some.inj hf
              exact hJ _ _ _ hP hS (lv_sub hl [0, 1] rfl)
            · replace hf := if_n hc hf
              refine lv_iconst (v := 0) hx hb d_MO_strip_60 (by decide) ?_
              refine lv_goto (tgt := 65) hx hb d_MO_strip_61 (by decide) ?_
              obtain rfl := Option.some.inj hf
              exact hJ _ _ _ hP hS (lv_sub hl [0, 1] rfl)
          · replace hf := if_n hc hf
            refine lv_iload_n hx hb d_MO_strip_37 rfl (lv_at hl 3 rfl) ?_
            refine lv_if_ge (tgt := 44) hx hb d_MO_strip_38 (by decide) (fun hc => ?_) (fun hc => ?_)
            · replace hf := if_p hc hf
              refine lv_aload_n hx hb d_MO_strip_44 rfl (lv_at hl 0 rfl) ?_
              refine g_MO_kind hx hb hts hown hG hP (hts _ in_561) d_MO_strip_45 ?_
              refine lv_iload_n hx hb d_MO_strip_48 rfl (lv_at hl 1 rfl) ?_
              refine lv_iload_n hx hb d_MO_strip_49 rfl (lv_at hl 2 rfl) ?_
              replace hf := G_some hf
              obtain ⟨hi17, hf⟩ := hf
              refine rM_iast hx hb hG hP hS 64 8 (by decide) (by decide) (fun _ _ => rfl) hi17 d_MO_strip_50 (fun H locs hP hS => ?_)
              refine lv_aload_n hx hb d_MO_strip_51 rfl (lv_at hl 0 rfl) ?_
              refine g_MO_size hx hb hts hown hG hP (hts _ in_562) d_MO_strip_52 ?_
              refine lv_iload_n hx hb d_MO_strip_55 rfl (lv_at hl 1 rfl) ?_
              refine lv_iload_n hx hb d_MO_strip_56 rfl (lv_at hl 2 rfl) ?_
              replace hf := B_some hf
              obtain ⟨v18, hv18, hf⟩ := hf
              have hJ : ∀ (H : Heap) (locs : List Loc) (ls : Array Slot), va_P D cls (wld adr cA μ (sI ν 64 x1.toNatClampNeg x2)) H → va_S (AA adr) s.heap H locs → lv_has ls 5 [(0, .ref (adr 63)), (1, .int x1)] → W p l e rm_MO_strip s m args below meth c H locs 0 0 Q (F0 m 65 ls [.int v18, .int x1, .ref (adr 65)]) := by
                clear hv18
                intro H locs ls hP hS hl
                replace hf := G_some hf
                obtain ⟨hi19, hf⟩ := hf
                refine rM_iast hx hb hG hP hS 65 8 (by decide) (by decide) (fun _ _ => rfl) hi19 d_MO_strip_65 (fun H locs hP hS => ?_)
                refine lv_iconst (v := 0) hx hb d_MO_strip_66 (by decide) ?_
                refine lv_istore (lv' := [(4, .int 0), (0, .ref (adr 63)), (1, .int x1)]) hx hb d_MO_strip_67 hl (by decide) rfl (fun ls hl => ?_)
                replace hf := B_some hf
                obtain ⟨v21, hv21, hf⟩ := hf
                refine w_MO_strip_L69 x1  C hG v21 ?_ FU _ _ hv21 hP hS (lv_sub hl [1, 2, 0] rfl)
                clear hv21 hP hS hl
                intro H locs ls hP hS hl
                refine lv_iconst (v := 0) hx hb d_MO_strip_95 (by decide) ?_
                obtain rfl := Option.some.inj hf
                exact hq _ _ _ _ d_MO_strip_96 hP hS
              clear hf
              have hf := hv18
              clear hv18
              refine lv_if_ge (tgt := 64) hx hb d_MO_strip_57 (by decide) (fun hc => ?_) (fun hc => ?_)
              · replace hf := if_p hc hf
                refine lv_iload_n hx hb d_MO_strip_64 rfl (lv_at hl 3 rfl) ?_
                obtain rfl := Option.some.inj hf
                exact hJ _ _ _ hP hS (lv_sub hl [0, 1] rfl)
              · replace hf := if_n hc hf
                refine lv_iconst (v := 0) hx hb d_MO_strip_60 (by decide) ?_
                refine lv_goto (tgt := 65) hx hb d_MO_strip_61 (by decide) ?_
                obtain rfl := Option.some.inj hf
                exact hJ _ _ _ hP hS (lv_sub hl [0, 1] rfl)
            · replace hf := if_n hc hf
              refine lv_bipush (v := (-13)) hx hb d_MO_strip_41 (by decide) ?_
              obtain rfl := Option.some.inj hf
              exact hq _ _ _ _ d_MO_strip_43 hP hS
        · replace hf := if_n hc hf
          refine lv_iconst (v := (-1)) hx hb d_MO_strip_31 (by decide) ?_
          obtain rfl := Option.some.inj hf
          exact hq _ _ _ _ d_MO_strip_32 hP hS
theorem c_MO_strip (l : Launch) (D : va_G) (adr : Nat → Nat) (cA : Nat → ClassId) (μ ν : Mem) (x1 : Int32) (x2 : Int32) (x3 : Int32)  {res : Int32 × Mem} (hf : f_MO_strip ν x1 x2 x3 = some res) : Met l y_MO_strip (Cond.code y_MO_strip prog_7_method_4_code 5 (Option.some Jvm.ClassFile.FieldType.int) :: lw_ok) rm_MO_strip (va_Pc [.ref (adr 63), .int x1, .int x2, .int x3] (Wd D adr cA μ ν)) (QI D adr cA res.1 μ res.2) 0 0 (AA adr) :=
  met_of (own := "LakeReliefModel") rfl rfl (Nat.le_of_ble_eq_true rfl) (fun p e s m below meth c C hG hP hS ls hl => w_MO_strip x1 x2 x3  C hG hf (fun pc ls H locs hd hP hS => ret_i C.1 C.2.1 C.2.2.2.2.2.1 C.2.2.2.2.2.2 hG hd hP hS) hP hS hl)
end X_MO_strip
section X_MO_against
variable {p : Program} {l : Launch} {e : Env} {s : State} {m : MethodId} {args : Array Value} {below : List Frame} {meth : Method} {c : Code} {Q : State → Prop}
variable {D : va_G} {adr : Nat → Nat} {cA : Nat → ClassId} {μ ν : Mem}
theorem d_MO_against_0 : decode prog_7_method_5_code 0 = .ok (.iload_n 1, 1) := by decide +kernel
theorem d_MO_against_1 : decode prog_7_method_5_code 1 = .ok (.invokestatic 84, 3) := by decide +kernel
theorem d_MO_against_4 : decode prog_7_method_5_code 4 = .ok (.ifCond .ne 7, 3) := by decide +kernel
theorem d_MO_against_7 : decode prog_7_method_5_code 7 = .ok (.iconst (-1), 1) := by decide +kernel
theorem d_MO_against_8 : decode prog_7_method_5_code 8 = .ok (.goto 41, 3) := by decide +kernel
theorem d_MO_against_11 : decode prog_7_method_5_code 11 = .ok (.aload_n 0, 1) := by decide +kernel
theorem d_MO_against_12 : decode prog_7_method_5_code 12 = .ok (.getfield 7, 3) := by decide +kernel
theorem d_MO_against_15 : decode prog_7_method_5_code 15 = .ok (.iload_n 1, 1) := by decide +kernel
theorem d_MO_against_16 : decode prog_7_method_5_code 16 = .ok (.iaload, 1) := by decide +kernel
theorem d_MO_against_17 : decode prog_7_method_5_code 17 = .ok (.ifCond .ge 8, 3) := by decide +kernel
theorem d_MO_against_20 : decode prog_7_method_5_code 20 = .ok (.bipush (-11), 2) := by decide +kernel
theorem d_MO_against_22 : decode prog_7_method_5_code 22 = .ok (.goto 27, 3) := by decide +kernel
theorem d_MO_against_25 : decode prog_7_method_5_code 25 = .ok (.iload_n 2, 1) := by decide +kernel
theorem d_MO_against_26 : decode prog_7_method_5_code 26 = .ok (.i2l, 1) := by decide +kernel
theorem d_MO_against_27 : decode prog_7_method_5_code 27 = .ok (.lconst 0, 1) := by decide +kernel
theorem d_MO_against_28 : decode prog_7_method_5_code 28 = .ok (.aload_n 0, 1) := by decide +kernel
theorem d_MO_against_29 : decode prog_7_method_5_code 29 = .ok (.getfield 13, 3) := by decide +kernel
theorem d_MO_against_32 : decode prog_7_method_5_code 32 = .ok (.iload_n 1, 1) := by decide +kernel
theorem d_MO_against_33 : decode prog_7_method_5_code 33 = .ok (.iaload, 1) := by decide +kernel
theorem d_MO_against_34 : decode prog_7_method_5_code 34 = .ok (.iconst 1, 1) := by decide +kernel
theorem d_MO_against_35 : decode prog_7_method_5_code 35 = .ok (.isub, 1) := by decide +kernel
theorem d_MO_against_36 : decode prog_7_method_5_code 36 = .ok (.i2l, 1) := by decide +kernel
theorem d_MO_against_37 : decode prog_7_method_5_code 37 = .ok (.invokestatic 80, 3) := by decide +kernel
theorem d_MO_against_40 : decode prog_7_method_5_code 40 = .ok (.ifCond .ne 8, 3) := by decide +kernel
theorem d_MO_against_43 : decode prog_7_method_5_code 43 = .ok (.bipush (-12), 2) := by decide +kernel
theorem d_MO_against_45 : decode prog_7_method_5_code 45 = .ok (.goto 4, 3) := by decide +kernel
theorem d_MO_against_48 : decode prog_7_method_5_code 48 = .ok (.iconst 0, 1) := by decide +kernel
theorem d_MO_against_49 : decode prog_7_method_5_code 49 = .ok (.ireturn, 1) := by decide +kernel
set_option maxHeartbeats 4000000 in
set_option maxRecDepth 100000 in
theorem w_MO_against (x1 : Int32) (x2 : Int32)  (C : Cx prog_7_method_5_code 3 "LakeReliefModel" (Option.some Jvm.ClassFile.FieldType.int) p s m args meth c) (hG : Geo D adr cA s) {res : Int32} (hf : f_MO_against ν x1 x2 = some res) (hq : ∀ (pc : Nat) (ls : Array Slot) (H : Heap) (locs : List Loc), decode prog_7_method_5_code pc = .ok (.ireturn, 1) → va_P D cls (wld adr cA μ ν) H → va_S (AA adr) s.heap H locs → W p l e rm_MO_against s m args below meth c H locs 0 0 Q (F0 m pc ls [.int res])) {H : Heap} {locs : List Loc} {ls : Array Slot} (hP : va_P D cls (wld adr cA μ ν) H) (hS : va_S (AA adr) s.heap H locs) (hl : lv_has ls 3 [(0, .ref (adr 63)), (1, .int x1), (2, .int x2)]) : W p l e rm_MO_against s m args below meth c H locs 0 0 Q (F0 m 0 ls []) := by
  obtain ⟨hx, hb, hml, hown, hts, hr, hlocks⟩ := id C
  unfold f_MO_against at hf
  refine lv_iload_n hx hb d_MO_against_0 rfl (lv_at hl 1 rfl) ?_
  replace hf := B_some hf
  obtain ⟨v1, hv1, hf⟩ := hf
  refine ki (ks (As := [.int x1]) (rest := []) ⟨hx, hb, hml, hown, hts⟩ (cw_MO_84 hts ⟨Nat.le_of_ble_eq_true rfl, Nat.le_of_ble_eq_true rfl⟩) (c_MO_isStrip l D adr cA μ ν x1 hv1) hG hP rfl hl.1 (Nat.le_of_ble_eq_true rfl) d_MO_against_1) hS (fun H locs hP hS => ?_)
  refine lv_if_ne (tgt := 11) hx hb d_MO_against_4 (by decide) (fun hc => ?_) (fun hc => ?_)
  · replace hf := if_n hc hf
    refine lv_aload_n hx hb d_MO_against_11 rfl (lv_at hl 0 rfl) ?_
    refine g_MO_kind hx hb hts hown hG hP (hts _ in_561) d_MO_against_12 ?_
    refine lv_iload_n hx hb d_MO_against_15 rfl (lv_at hl 1 rfl) ?_
    replace hf := G_some hf
    obtain ⟨hi2, hf⟩ := hf
    refine r_iald hx hb hG hP 64 8 (f := ν.1 64) (by decide) (wc_M (by decide) rfl) hi2 d_MO_against_16 ?_
    refine lv_if_ge (tgt := 25) hx hb d_MO_against_17 (by decide) (fun hc => ?_) (fun hc => ?_)
    · replace hf := if_p hc hf
      refine lv_iload_n hx hb d_MO_against_25 rfl (lv_at hl 2 rfl) ?_
      refine lv_i2l hx hb d_MO_against_26 rfl ?_
      refine lv_lconst (v := 0) hx hb d_MO_against_27 (by decide) ?_
      refine lv_aload_n hx hb d_MO_against_28 rfl (lv_at hl 0 rfl) ?_
      refine g_MO_size hx hb hts hown hG hP (hts _ in_562) d_MO_against_29 ?_
      refine lv_iload_n hx hb d_MO_against_32 rfl (lv_at hl 1 rfl) ?_
      replace hf := G_some hf
      obtain ⟨hi3, hf⟩ := hf
      refine r_iald hx hb hG hP 65 8 (f := ν.1 65) (by decide) (wc_M (by decide) rfl) hi3 d_MO_against_33 ?_
      refine lv_iconst (v := 1) hx hb d_MO_against_34 (by decide) ?_
      refine lv_isub hx hb d_MO_against_35 ?_
      refine lv_i2l hx hb d_MO_against_36 rfl ?_
      refine ki (ks (As := [.long x2.toInt64, .long 0, .long ((ν.1 65 x1.toNatClampNeg) - 1).toInt64]) (rest := []) ⟨hx, hb, hml, hown, hts⟩ (cw_MO_80 hts ⟨Nat.le_of_ble_eq_true rfl, Nat.le_of_ble_eq_true rfl⟩) (c_MO_in l D adr cA μ ν x2.toInt64 0 (((ν.1 65 x1.toNatClampNeg) - 1).toInt64)) hG hP rfl hl.1 (Nat.le_of_ble_eq_true rfl) d_MO_against_37) hS (fun H locs hP hS => ?_)
      refine lv_if_ne (tgt := 48) hx hb d_MO_against_40 (by decide) (fun hc => ?_) (fun hc => ?_)
      · replace hf := if_n hc hf
        refine lv_iconst (v := 0) hx hb d_MO_against_48 (by decide) ?_
        obtain rfl := Option.some.inj hf
        exact hq _ _ _ _ d_MO_against_49 hP hS
      · replace hf := if_p hc hf
        refine lv_bipush (v := (-12)) hx hb d_MO_against_43 (by decide) ?_
        refine lv_goto (tgt := 49) hx hb d_MO_against_45 (by decide) ?_
        obtain rfl := Option.some.inj hf
        exact hq _ _ _ _ d_MO_against_49 hP hS
    · replace hf := if_n hc hf
      refine lv_bipush (v := (-11)) hx hb d_MO_against_20 (by decide) ?_
      refine lv_goto (tgt := 49) hx hb d_MO_against_22 (by decide) ?_
      obtain rfl := Option.some.inj hf
      exact hq _ _ _ _ d_MO_against_49 hP hS
  · replace hf := if_p hc hf
    refine lv_iconst (v := (-1)) hx hb d_MO_against_7 (by decide) ?_
    refine lv_goto (tgt := 49) hx hb d_MO_against_8 (by decide) ?_
    obtain rfl := Option.some.inj hf
    exact hq _ _ _ _ d_MO_against_49 hP hS
theorem c_MO_against (l : Launch) (D : va_G) (adr : Nat → Nat) (cA : Nat → ClassId) (μ ν : Mem) (x1 : Int32) (x2 : Int32)  {res : Int32} (hf : f_MO_against ν x1 x2 = some res) : Met l y_MO_against (Cond.code y_MO_against prog_7_method_5_code 3 (Option.some Jvm.ClassFile.FieldType.int) :: lw_ok) rm_MO_against (va_Pc [.ref (adr 63), .int x1, .int x2] (Wd D adr cA μ ν)) (QI D adr cA res μ ν) 0 0 (AA adr) :=
  met_of (own := "LakeReliefModel") rfl rfl (Nat.le_of_ble_eq_true rfl) (fun p e s m below meth c C hG hP hS ls hl => w_MO_against x1 x2  C hG hf (fun pc ls H locs hd hP hS => ret_i C.1 C.2.1 C.2.2.2.2.2.1 C.2.2.2.2.2.2 hG hd hP hS) hP hS hl)
end X_MO_against
section X_MO_put
variable {p : Program} {l : Launch} {e : Env} {s : State} {m : MethodId} {args : Array Value} {below : List Frame} {meth : Method} {c : Code} {Q : State → Prop}
variable {D : va_G} {adr : Nat → Nat} {cA : Nat → ClassId} {μ ν : Mem}
theorem d_MO_put_0 : decode prog_7_method_6_code 0 = .ok (.aload_n 0, 1) := by decide +kernel
theorem d_MO_put_1 : decode prog_7_method_6_code 1 = .ok (.iload_n 1, 1) := by decide +kernel
theorem d_MO_put_2 : decode prog_7_method_6_code 2 = .ok (.iload_n 2, 1) := by decide +kernel
theorem d_MO_put_3 : decode prog_7_method_6_code 3 = .ok (.invokevirtual 92, 3) := by decide +kernel
theorem d_MO_put_6 : decode prog_7_method_6_code 6 = .ok (.istore 4, 2) := by decide +kernel
theorem d_MO_put_8 : decode prog_7_method_6_code 8 = .ok (.iload 4, 2) := by decide +kernel
theorem d_MO_put_10 : decode prog_7_method_6_code 10 = .ok (.ifCond .ne 44, 3) := by decide +kernel
theorem d_MO_put_13 : decode prog_7_method_6_code 13 = .ok (.aload_n 0, 1) := by decide +kernel
theorem d_MO_put_14 : decode prog_7_method_6_code 14 = .ok (.getfield 16, 3) := by decide +kernel
theorem d_MO_put_17 : decode prog_7_method_6_code 17 = .ok (.bipush 12, 2) := by decide +kernel
theorem d_MO_put_19 : decode prog_7_method_6_code 19 = .ok (.iload_n 1, 1) := by decide +kernel
theorem d_MO_put_20 : decode prog_7_method_6_code 20 = .ok (.imul, 1) := by decide +kernel
theorem d_MO_put_21 : decode prog_7_method_6_code 21 = .ok (.iload_n 2, 1) := by decide +kernel
theorem d_MO_put_22 : decode prog_7_method_6_code 22 = .ok (.iadd, 1) := by decide +kernel
theorem d_MO_put_23 : decode prog_7_method_6_code 23 = .ok (.aload_n 0, 1) := by decide +kernel
theorem d_MO_put_24 : decode prog_7_method_6_code 24 = .ok (.getfield 7, 3) := by decide +kernel
theorem d_MO_put_27 : decode prog_7_method_6_code 27 = .ok (.iload_n 1, 1) := by decide +kernel
theorem d_MO_put_28 : decode prog_7_method_6_code 28 = .ok (.iaload, 1) := by decide +kernel
theorem d_MO_put_29 : decode prog_7_method_6_code 29 = .ok (.ifCond .ne 8, 3) := by decide +kernel
theorem d_MO_put_32 : decode prog_7_method_6_code 32 = .ok (.iload_n 3, 1) := by decide +kernel
theorem d_MO_put_33 : decode prog_7_method_6_code 33 = .ok (.i2b, 1) := by decide +kernel
theorem d_MO_put_34 : decode prog_7_method_6_code 34 = .ok (.goto 19, 3) := by decide +kernel
theorem d_MO_put_37 : decode prog_7_method_6_code 37 = .ok (.aload_n 0, 1) := by decide +kernel
theorem d_MO_put_38 : decode prog_7_method_6_code 38 = .ok (.getfield 7, 3) := by decide +kernel
theorem d_MO_put_41 : decode prog_7_method_6_code 41 = .ok (.iload_n 1, 1) := by decide +kernel
theorem d_MO_put_42 : decode prog_7_method_6_code 42 = .ok (.iaload, 1) := by decide +kernel
theorem d_MO_put_43 : decode prog_7_method_6_code 43 = .ok (.iconst 1, 1) := by decide +kernel
theorem d_MO_put_44 : decode prog_7_method_6_code 44 = .ok (.if_icmp .ne 8, 3) := by decide +kernel
theorem d_MO_put_47 : decode prog_7_method_6_code 47 = .ok (.iload_n 3, 1) := by decide +kernel
theorem d_MO_put_48 : decode prog_7_method_6_code 48 = .ok (.i2s, 1) := by decide +kernel
theorem d_MO_put_49 : decode prog_7_method_6_code 49 = .ok (.goto 4, 3) := by decide +kernel
theorem d_MO_put_52 : decode prog_7_method_6_code 52 = .ok (.iload_n 3, 1) := by decide +kernel
theorem d_MO_put_53 : decode prog_7_method_6_code 53 = .ok (.iastore, 1) := by decide +kernel
theorem d_MO_put_54 : decode prog_7_method_6_code 54 = .ok (.iload 4, 2) := by decide +kernel
theorem d_MO_put_56 : decode prog_7_method_6_code 56 = .ok (.ireturn, 1) := by decide +kernel
set_option maxHeartbeats 4000000 in
set_option maxRecDepth 100000 in
theorem w_MO_put (x1 : Int32) (x2 : Int32) (x3 : Int32)  (C : Cx prog_7_method_6_code 5 "LakeReliefModel" (Option.some Jvm.ClassFile.FieldType.int) p s m args meth c) (hG : Geo D adr cA s) {res : Int32 × Mem} (hf : f_MO_put ν x1 x2 x3 = some res) (hq : ∀ (pc : Nat) (ls : Array Slot) (H : Heap) (locs : List Loc), decode prog_7_method_6_code pc = .ok (.ireturn, 1) → va_P D cls (wld adr cA μ res.2) H → va_S (AA adr) s.heap H locs → W p l e rm_MO_put s m args below meth c H locs 0 0 Q (F0 m pc ls [.int res.1])) {H : Heap} {locs : List Loc} {ls : Array Slot} (hP : va_P D cls (wld adr cA μ ν) H) (hS : va_S (AA adr) s.heap H locs) (hl : lv_has ls 5 [(0, .ref (adr 63)), (1, .int x1), (2, .int x2), (3, .int x3)]) : W p l e rm_MO_put s m args below meth c H locs 0 0 Q (F0 m 0 ls []) := by
  obtain ⟨hx, hb, hml, hown, hts, hr, hlocks⟩ := id C
  unfold f_MO_put at hf
  refine lv_aload_n hx hb d_MO_put_0 rfl (lv_at hl 0 rfl) ?_
  refine lv_iload_n hx hb d_MO_put_1 rfl (lv_at hl 1 rfl) ?_
  refine lv_iload_n hx hb d_MO_put_2 rfl (lv_at hl 2 rfl) ?_
  replace hf := B_some hf
  obtain ⟨v1, hv1, hf⟩ := hf
  refine ki (kv (As := [.int x1, .int x2]) (rest := []) ⟨hx, hb, hml, hown, hts⟩ (cw_MO_92 hts ⟨Nat.le_of_ble_eq_true rfl, Nat.le_of_ble_eq_true rfl⟩) (c_MO_against l D adr cA μ ν x1 x2 hv1) hG hP (rc_o (q := 63) (ci := 5) hG hP (by decide) (wc_M (by decide) rfl) rfl) rfl hl.1 (Nat.le_of_ble_eq_true rfl) d_MO_put_3) hS (fun H locs hP hS => ?_)
  refine lv_istore (lv' := [(4, .int v1), (0, .ref (adr 63)), (1, .int x1), (2, .int x2), (3, .int x3)]) hx hb d_MO_put_6 hl (by decide) rfl (fun ls hl => ?_)
  refine lv_iload hx hb d_MO_put_8 (lv_at hl 0 rfl) ?_
  replace hf := B_some hf
  obtain ⟨v2, hv2, hf⟩ := hf
  have hJ : ∀ (H : Heap) (locs : List Loc) (ls : Array Slot), va_P D cls (wld adr cA μ v2) H → va_S (AA adr) s.heap H locs → lv_has ls 5 [(4, .int v1)] → W p l e rm_MO_put s m args below meth c H locs 0 0 Q (F0 m 54 ls []) := by
    clear hv2
    intro H locs ls hP hS hl
    refine lv_iload hx hb d_MO_put_54 (lv_at hl 0 rfl) ?_
    obtain rfl := Option.some.inj hf
    exact hq _ _ _ _ d_MO_put_56 hP hS
  clear hf
  have hf := hv2
  clear hv2
  refine lv_if_ne (tgt := 54) hx hb d_MO_put_10 (by decide) (fun hc => ?_) (fun hc => ?_)
  · replace hf := if_n hc hf
    obtain rfl := Option.some.inj hf
    exact hJ _ _ _ hP hS (lv_sub hl [0] rfl)
  · replace hf := if_p hc hf
    refine lv_aload_n hx hb d_MO_put_13 rfl (lv_at hl 1 rfl) ?_
    refine g_MO_strips hx hb hts hown hG hP (hts _ in_563) d_MO_put_14 ?_
    refine lv_bipush (v := 12) hx hb d_MO_put_17 (by decide) ?_
    refine lv_iload_n hx hb d_MO_put_19 rfl (lv_at hl 2 rfl) ?_
    refine lv_imul hx hb d_MO_put_20 ?_
    refine lv_iload_n hx hb d_MO_put_21 rfl (lv_at hl 3 rfl) ?_
    refine lv_iadd hx hb d_MO_put_22 ?_
    refine lv_aload_n hx hb d_MO_put_23 rfl (lv_at hl 1 rfl) ?_
    refine g_MO_kind hx hb hts hown hG hP (hts _ in_561) d_MO_put_24 ?_
    refine lv_iload_n hx hb d_MO_put_27 rfl (lv_at hl 2 rfl) ?_
    replace hf := G_some hf
    obtain ⟨hi3, hf⟩ := hf
    refine r_iald hx hb hG hP 64 8 (f := ν.1 64) (by decide) (wc_M (by decide) rfl) hi3 d_MO_put_28 ?_
    replace hf := B_some hf
    obtain ⟨v4, hv4, hf⟩ := hf
    have hJ : ∀ (H : Heap) (locs : List Loc) (ls : Array Slot), va_P D cls (wld adr cA μ ν) H → va_S (AA adr) s.heap H locs → lv_has ls 5 [(4, .int v1)] → W p l e rm_MO_put s m args below meth c H locs 0 0 Q (F0 m 53 ls [.int v4, .int ((12 * x1) + x2), .ref (adr 66)]) := by
      clear hv4
      intro H locs ls hP hS hl
      replace hf := G_some hf
      obtain ⟨hi6, hf⟩ := hf
      refine rM_iast hx hb hG hP hS 66 96 (by decide) (by decide) (fun _ _ => rfl) hi6 d_MO_put_53 (fun H locs hP hS => ?_)
      obtain rfl := Option.some.inj hf
      exact hJ _ _ _ hP hS (lv_sub hl [0] rfl)
    clear hf
    have hf := hv4
    clear hv4
    refine lv_if_ne (tgt := 37) hx hb d_MO_put_29 (by decide) (fun hc => ?_) (fun hc => ?_)
    · replace hf := if_n hc hf
      refine lv_aload_n hx hb d_MO_put_37 rfl (lv_at hl 1 rfl) ?_
      refine g_MO_kind hx hb hts hown hG hP (hts _ in_561) d_MO_put_38 ?_
      refine lv_iload_n hx hb d_MO_put_41 rfl (lv_at hl 2 rfl) ?_
      replace hf := G_some hf
      obtain ⟨hi5, hf⟩ := hf
      refine r_iald hx hb hG hP 64 8 (f := ν.1 64) (by decide) (wc_M (by decide) rfl) hi5 d_MO_put_42 ?_
      refine lv_iconst (v := 1) hx hb d_MO_put_43 (by decide) ?_
      refine lv_icmp_ne (tgt := 52) hx hb d_MO_put_44 (by decide) (fun hc => ?_) (fun hc => ?_)
      · replace hf := if_n hc hf
        refine lv_iload_n hx hb d_MO_put_52 rfl (lv_at hl 4 rfl) ?_
        obtain rfl := Option.some.inj hf
        exact hJ _ _ _ hP hS (lv_sub hl [0] rfl)
      · replace hf := if_p hc hf
        refine lv_iload_n hx hb d_MO_put_47 rfl (lv_at hl 4 rfl) ?_
        refine lv_i2s hx hb d_MO_put_48 rfl ?_
        refine lv_goto (tgt := 53) hx hb d_MO_put_49 (by decide) ?_
        obtain rfl := Option.some.inj hf
        exact hJ _ _ _ hP hS (lv_sub hl [0] rfl)
    · replace hf := if_p hc hf
      refine lv_iload_n hx hb d_MO_put_32 rfl (lv_at hl 4 rfl) ?_
      refine lv_i2b hx hb d_MO_put_33 rfl ?_
      refine lv_goto (tgt := 53) hx hb d_MO_put_34 (by decide) ?_
      obtain rfl := Option.some.inj hf
      exact hJ _ _ _ hP hS (lv_sub hl [0] rfl)
theorem c_MO_put (l : Launch) (D : va_G) (adr : Nat → Nat) (cA : Nat → ClassId) (μ ν : Mem) (x1 : Int32) (x2 : Int32) (x3 : Int32)  {res : Int32 × Mem} (hf : f_MO_put ν x1 x2 x3 = some res) : Met l y_MO_put (Cond.code y_MO_put prog_7_method_6_code 5 (Option.some Jvm.ClassFile.FieldType.int) :: lw_ok) rm_MO_put (va_Pc [.ref (adr 63), .int x1, .int x2, .int x3] (Wd D adr cA μ ν)) (QI D adr cA res.1 μ res.2) 0 0 (AA adr) :=
  met_of (own := "LakeReliefModel") rfl rfl (Nat.le_of_ble_eq_true rfl) (fun p e s m below meth c C hG hP hS ls hl => w_MO_put x1 x2 x3  C hG hf (fun pc ls H locs hd hP hS => ret_i C.1 C.2.1 C.2.2.2.2.2.1 C.2.2.2.2.2.2 hG hd hP hS) hP hS hl)
end X_MO_put
section X_MO_copy
variable {p : Program} {l : Launch} {e : Env} {s : State} {m : MethodId} {args : Array Value} {below : List Frame} {meth : Method} {c : Code} {Q : State → Prop}
variable {D : va_G} {adr : Nat → Nat} {cA : Nat → ClassId} {μ ν : Mem}
theorem d_MO_copy_0 : decode prog_7_method_7_code 0 = .ok (.iload_n 1, 1) := by decide +kernel
theorem d_MO_copy_1 : decode prog_7_method_7_code 1 = .ok (.invokestatic 84, 3) := by decide +kernel
theorem d_MO_copy_4 : decode prog_7_method_7_code 4 = .ok (.ifCond .eq 10, 3) := by decide +kernel
theorem d_MO_copy_7 : decode prog_7_method_7_code 7 = .ok (.iload_n 3, 1) := by decide +kernel
theorem d_MO_copy_8 : decode prog_7_method_7_code 8 = .ok (.invokestatic 84, 3) := by decide +kernel
theorem d_MO_copy_11 : decode prog_7_method_7_code 11 = .ok (.ifCond .ne 5, 3) := by decide +kernel
theorem d_MO_copy_14 : decode prog_7_method_7_code 14 = .ok (.iconst (-1), 1) := by decide +kernel
theorem d_MO_copy_15 : decode prog_7_method_7_code 15 = .ok (.ireturn, 1) := by decide +kernel
theorem d_MO_copy_16 : decode prog_7_method_7_code 16 = .ok (.aload_n 0, 1) := by decide +kernel
theorem d_MO_copy_17 : decode prog_7_method_7_code 17 = .ok (.getfield 7, 3) := by decide +kernel
theorem d_MO_copy_20 : decode prog_7_method_7_code 20 = .ok (.iload_n 1, 1) := by decide +kernel
theorem d_MO_copy_21 : decode prog_7_method_7_code 21 = .ok (.iaload, 1) := by decide +kernel
theorem d_MO_copy_22 : decode prog_7_method_7_code 22 = .ok (.ifCond .lt 12, 3) := by decide +kernel
theorem d_MO_copy_25 : decode prog_7_method_7_code 25 = .ok (.aload_n 0, 1) := by decide +kernel
theorem d_MO_copy_26 : decode prog_7_method_7_code 26 = .ok (.getfield 7, 3) := by decide +kernel
theorem d_MO_copy_29 : decode prog_7_method_7_code 29 = .ok (.iload_n 3, 1) := by decide +kernel
theorem d_MO_copy_30 : decode prog_7_method_7_code 30 = .ok (.iaload, 1) := by decide +kernel
theorem d_MO_copy_31 : decode prog_7_method_7_code 31 = .ok (.ifCond .ge 6, 3) := by decide +kernel
theorem d_MO_copy_34 : decode prog_7_method_7_code 34 = .ok (.bipush (-11), 2) := by decide +kernel
theorem d_MO_copy_36 : decode prog_7_method_7_code 36 = .ok (.ireturn, 1) := by decide +kernel
theorem d_MO_copy_37 : decode prog_7_method_7_code 37 = .ok (.aload_n 0, 1) := by decide +kernel
theorem d_MO_copy_38 : decode prog_7_method_7_code 38 = .ok (.getfield 7, 3) := by decide +kernel
theorem d_MO_copy_41 : decode prog_7_method_7_code 41 = .ok (.iload_n 1, 1) := by decide +kernel
theorem d_MO_copy_42 : decode prog_7_method_7_code 42 = .ok (.iaload, 1) := by decide +kernel
theorem d_MO_copy_43 : decode prog_7_method_7_code 43 = .ok (.aload_n 0, 1) := by decide +kernel
theorem d_MO_copy_44 : decode prog_7_method_7_code 44 = .ok (.getfield 7, 3) := by decide +kernel
theorem d_MO_copy_47 : decode prog_7_method_7_code 47 = .ok (.iload_n 3, 1) := by decide +kernel
theorem d_MO_copy_48 : decode prog_7_method_7_code 48 = .ok (.iaload, 1) := by decide +kernel
theorem d_MO_copy_49 : decode prog_7_method_7_code 49 = .ok (.if_icmp .eq 6, 3) := by decide +kernel
theorem d_MO_copy_52 : decode prog_7_method_7_code 52 = .ok (.bipush (-14), 2) := by decide +kernel
theorem d_MO_copy_54 : decode prog_7_method_7_code 54 = .ok (.ireturn, 1) := by decide +kernel
theorem d_MO_copy_55 : decode prog_7_method_7_code 55 = .ok (.iload 5, 2) := by decide +kernel
theorem d_MO_copy_57 : decode prog_7_method_7_code 57 = .ok (.ifCond .lt 47, 3) := by decide +kernel
theorem d_MO_copy_60 : decode prog_7_method_7_code 60 = .ok (.iload_n 2, 1) := by decide +kernel
theorem d_MO_copy_61 : decode prog_7_method_7_code 61 = .ok (.ifCond .lt 43, 3) := by decide +kernel
theorem d_MO_copy_64 : decode prog_7_method_7_code 64 = .ok (.iload 4, 2) := by decide +kernel
theorem d_MO_copy_66 : decode prog_7_method_7_code 66 = .ok (.ifCond .lt 38, 3) := by decide +kernel
theorem d_MO_copy_69 : decode prog_7_method_7_code 69 = .ok (.iload_n 2, 1) := by decide +kernel
theorem d_MO_copy_70 : decode prog_7_method_7_code 70 = .ok (.i2l, 1) := by decide +kernel
theorem d_MO_copy_71 : decode prog_7_method_7_code 71 = .ok (.iload 5, 2) := by decide +kernel
theorem d_MO_copy_73 : decode prog_7_method_7_code 73 = .ok (.i2l, 1) := by decide +kernel
theorem d_MO_copy_74 : decode prog_7_method_7_code 74 = .ok (.ladd, 1) := by decide +kernel
theorem d_MO_copy_75 : decode prog_7_method_7_code 75 = .ok (.aload_n 0, 1) := by decide +kernel
theorem d_MO_copy_76 : decode prog_7_method_7_code 76 = .ok (.getfield 13, 3) := by decide +kernel
theorem d_MO_copy_79 : decode prog_7_method_7_code 79 = .ok (.iload_n 1, 1) := by decide +kernel
theorem d_MO_copy_80 : decode prog_7_method_7_code 80 = .ok (.iaload, 1) := by decide +kernel
theorem d_MO_copy_81 : decode prog_7_method_7_code 81 = .ok (.i2l, 1) := by decide +kernel
theorem d_MO_copy_82 : decode prog_7_method_7_code 82 = .ok (.lcmp, 1) := by decide +kernel
theorem d_MO_copy_83 : decode prog_7_method_7_code 83 = .ok (.ifCond .gt 21, 3) := by decide +kernel
theorem d_MO_copy_86 : decode prog_7_method_7_code 86 = .ok (.iload 4, 2) := by decide +kernel
theorem d_MO_copy_88 : decode prog_7_method_7_code 88 = .ok (.i2l, 1) := by decide +kernel
theorem d_MO_copy_89 : decode prog_7_method_7_code 89 = .ok (.iload 5, 2) := by decide +kernel
theorem d_MO_copy_91 : decode prog_7_method_7_code 91 = .ok (.i2l, 1) := by decide +kernel
theorem d_MO_copy_92 : decode prog_7_method_7_code 92 = .ok (.ladd, 1) := by decide +kernel
theorem d_MO_copy_93 : decode prog_7_method_7_code 93 = .ok (.aload_n 0, 1) := by decide +kernel
theorem d_MO_copy_94 : decode prog_7_method_7_code 94 = .ok (.getfield 13, 3) := by decide +kernel
theorem d_MO_copy_97 : decode prog_7_method_7_code 97 = .ok (.iload_n 3, 1) := by decide +kernel
theorem d_MO_copy_98 : decode prog_7_method_7_code 98 = .ok (.iaload, 1) := by decide +kernel
theorem d_MO_copy_99 : decode prog_7_method_7_code 99 = .ok (.i2l, 1) := by decide +kernel
theorem d_MO_copy_100 : decode prog_7_method_7_code 100 = .ok (.lcmp, 1) := by decide +kernel
theorem d_MO_copy_101 : decode prog_7_method_7_code 101 = .ok (.ifCond .le 6, 3) := by decide +kernel
theorem d_MO_copy_104 : decode prog_7_method_7_code 104 = .ok (.bipush (-12), 2) := by decide +kernel
theorem d_MO_copy_106 : decode prog_7_method_7_code 106 = .ok (.ireturn, 1) := by decide +kernel
theorem d_MO_copy_107 : decode prog_7_method_7_code 107 = .ok (.iconst 0, 1) := by decide +kernel
theorem d_MO_copy_108 : decode prog_7_method_7_code 108 = .ok (.istore 6, 2) := by decide +kernel
theorem d_MO_copy_110 : decode prog_7_method_7_code 110 = .ok (.iload 6, 2) := by decide +kernel
theorem d_MO_copy_112 : decode prog_7_method_7_code 112 = .ok (.iload 5, 2) := by decide +kernel
theorem d_MO_copy_114 : decode prog_7_method_7_code 114 = .ok (.if_icmp .ge 30, 3) := by decide +kernel
theorem d_MO_copy_117 : decode prog_7_method_7_code 117 = .ok (.aload_n 0, 1) := by decide +kernel
theorem d_MO_copy_118 : decode prog_7_method_7_code 118 = .ok (.getfield 60, 3) := by decide +kernel
theorem d_MO_copy_121 : decode prog_7_method_7_code 121 = .ok (.iload 6, 2) := by decide +kernel
theorem d_MO_copy_123 : decode prog_7_method_7_code 123 = .ok (.aload_n 0, 1) := by decide +kernel
theorem d_MO_copy_124 : decode prog_7_method_7_code 124 = .ok (.getfield 16, 3) := by decide +kernel
theorem d_MO_copy_127 : decode prog_7_method_7_code 127 = .ok (.bipush 12, 2) := by decide +kernel
theorem d_MO_copy_129 : decode prog_7_method_7_code 129 = .ok (.iload_n 1, 1) := by decide +kernel
theorem d_MO_copy_130 : decode prog_7_method_7_code 130 = .ok (.imul, 1) := by decide +kernel
theorem d_MO_copy_131 : decode prog_7_method_7_code 131 = .ok (.iload_n 2, 1) := by decide +kernel
theorem d_MO_copy_132 : decode prog_7_method_7_code 132 = .ok (.iadd, 1) := by decide +kernel
theorem d_MO_copy_133 : decode prog_7_method_7_code 133 = .ok (.iload 6, 2) := by decide +kernel
theorem d_MO_copy_135 : decode prog_7_method_7_code 135 = .ok (.iadd, 1) := by decide +kernel
theorem d_MO_copy_136 : decode prog_7_method_7_code 136 = .ok (.iaload, 1) := by decide +kernel
theorem d_MO_copy_137 : decode prog_7_method_7_code 137 = .ok (.iastore, 1) := by decide +kernel
theorem d_MO_copy_138 : decode prog_7_method_7_code 138 = .ok (.iinc 6 1, 3) := by decide +kernel
theorem d_MO_copy_141 : decode prog_7_method_7_code 141 = .ok (.goto (-31), 3) := by decide +kernel
theorem d_MO_copy_144 : decode prog_7_method_7_code 144 = .ok (.iconst 0, 1) := by decide +kernel
theorem d_MO_copy_145 : decode prog_7_method_7_code 145 = .ok (.istore 6, 2) := by decide +kernel
theorem d_MO_copy_147 : decode prog_7_method_7_code 147 = .ok (.iload 6, 2) := by decide +kernel
theorem d_MO_copy_149 : decode prog_7_method_7_code 149 = .ok (.iload 5, 2) := by decide +kernel
theorem d_MO_copy_151 : decode prog_7_method_7_code 151 = .ok (.if_icmp .ge 31, 3) := by decide +kernel
theorem d_MO_copy_154 : decode prog_7_method_7_code 154 = .ok (.aload_n 0, 1) := by decide +kernel
theorem d_MO_copy_155 : decode prog_7_method_7_code 155 = .ok (.getfield 16, 3) := by decide +kernel
theorem d_MO_copy_158 : decode prog_7_method_7_code 158 = .ok (.bipush 12, 2) := by decide +kernel
theorem d_MO_copy_160 : decode prog_7_method_7_code 160 = .ok (.iload_n 3, 1) := by decide +kernel
theorem d_MO_copy_161 : decode prog_7_method_7_code 161 = .ok (.imul, 1) := by decide +kernel
theorem d_MO_copy_162 : decode prog_7_method_7_code 162 = .ok (.iload 4, 2) := by decide +kernel
theorem d_MO_copy_164 : decode prog_7_method_7_code 164 = .ok (.iadd, 1) := by decide +kernel
theorem d_MO_copy_165 : decode prog_7_method_7_code 165 = .ok (.iload 6, 2) := by decide +kernel
theorem d_MO_copy_167 : decode prog_7_method_7_code 167 = .ok (.iadd, 1) := by decide +kernel
theorem d_MO_copy_168 : decode prog_7_method_7_code 168 = .ok (.aload_n 0, 1) := by decide +kernel
theorem d_MO_copy_169 : decode prog_7_method_7_code 169 = .ok (.getfield 60, 3) := by decide +kernel
theorem d_MO_copy_172 : decode prog_7_method_7_code 172 = .ok (.iload 6, 2) := by decide +kernel
theorem d_MO_copy_174 : decode prog_7_method_7_code 174 = .ok (.iaload, 1) := by decide +kernel
theorem d_MO_copy_175 : decode prog_7_method_7_code 175 = .ok (.iastore, 1) := by decide +kernel
theorem d_MO_copy_176 : decode prog_7_method_7_code 176 = .ok (.iinc 6 1, 3) := by decide +kernel
theorem d_MO_copy_179 : decode prog_7_method_7_code 179 = .ok (.goto (-32), 3) := by decide +kernel
theorem d_MO_copy_182 : decode prog_7_method_7_code 182 = .ok (.iconst 0, 1) := by decide +kernel
theorem d_MO_copy_183 : decode prog_7_method_7_code 183 = .ok (.ireturn, 1) := by decide +kernel
set_option maxHeartbeats 4000000 in
set_option maxRecDepth 100000 in
theorem w_MO_copy_L110 (y1 : Int32) (y2 : Int32) (y3 : Int32) (y4 : Int32) (y5 : Int32)  (C : Cx prog_7_method_7_code 7 "LakeReliefModel" (Option.some Jvm.ClassFile.FieldType.int) p s m args meth c) (hG : Geo D adr cA s) (v : Mem) (hE : ∀ (H : Heap) (locs : List Loc) (ls : Array Slot), va_P D cls (wld adr cA μ v) H → va_S (AA adr) s.heap H locs → lv_has ls 7 [(0, .ref (adr 63)), (3, .int y3), (4, .int y4), (5, .int y5)] → W p l e rm_MO_copy s m args below meth c H locs 0 0 Q (F0 m 144 ls [])) : ∀ (n : Nat) (ν : Mem) (y6 : Int32), f_MO_copy_L110 y1 y2 y3 y4 y5 n ν y6 = some v → ∀ {H : Heap} {locs : List Loc} {ls : Array Slot}, va_P D cls (wld adr cA μ ν) H → va_S (AA adr) s.heap H locs → lv_has ls 7 [(0, .ref (adr 63)), (1, .int y1), (2, .int y2), (3, .int y3), (4, .int y4), (5, .int y5), (6, .int y6)] → W p l e rm_MO_copy s m args below meth c H locs 0 0 Q (F0 m 110 ls []) := by
  obtain ⟨hx, hb, hml, hown, hts, hr, hlocks⟩ := id C
  intro n
  induction n with
  | zero => intro ν y6 hf; rw [f_MO_copy_L110.eq_1] at hf; cases hf
  | succ n ih =>
    intro ν y6 hf H locs ls hP hS hl
    rw [f_MO_copy_L110.eq_2] at hf
    refine lv_iload hx hb d_MO_copy_110 (lv_at hl 6 rfl) ?_
    refine lv_iload hx hb d_MO_copy_112 (lv_at hl 5 rfl) ?_
    refine lv_icmp_ge (tgt := 144) hx hb d_MO_copy_114 (by decide) (fun hc => ?_) (fun hc => ?_)
    · replace hf := if_p hc hf
      obtain rfl := Option.some.inj hf
      exact hE _ _ _ hP hS (lv_sub hl [0, 3, 4, 5] rfl)
    · replace hf := if_n hc hf
      refine lv_aload_n hx hb d_MO_copy_117 rfl (lv_at hl 0 rfl) ?_
      refine g_MO_middle hx hb hts hown hG hP (hts _ in_583) d_MO_copy_118 ?_
      refine lv_iload hx hb d_MO_copy_121 (lv_at hl 6 rfl) ?_
      refine lv_aload_n hx hb d_MO_copy_123 rfl (lv_at hl 0 rfl) ?_
      refine g_MO_strips hx hb hts hown hG hP (hts _ in_563) d_MO_copy_124 ?_
      refine lv_bipush (v := 12) hx hb d_MO_copy_127 (by decide) ?_
      refine lv_iload_n hx hb d_MO_copy_129 rfl (lv_at hl 1 rfl) ?_
      refine lv_imul hx hb d_MO_copy_130 ?_
      refine lv_iload_n hx hb d_MO_copy_131 rfl (lv_at hl 2 rfl) ?_
      refine lv_iadd hx hb d_MO_copy_132 ?_
      refine lv_iload hx hb d_MO_copy_133 (lv_at hl 6 rfl) ?_
      refine lv_iadd hx hb d_MO_copy_135 ?_
      replace hf := G_some hf
      obtain ⟨hi9, hf⟩ := hf
      refine r_iald hx hb hG hP 66 96 (f := ν.1 66) (by decide) (wc_M (by decide) rfl) hi9 d_MO_copy_136 ?_
      replace hf := G_some hf
      obtain ⟨hi10, hf⟩ := hf
      refine rM_iast hx hb hG hP hS 80 12 (by decide) (by decide) (fun _ _ => rfl) hi10 d_MO_copy_137 (fun H locs hP hS => ?_)
      refine lv_iinc (v := (y6 + 1)) (lv' := [(6, .int (y6 + 1)), (0, .ref (adr 63)), (1, .int y1), (2, .int y2), (3, .int y3), (4, .int y4), (5, .int y5)]) hx hb d_MO_copy_138 hl (k := 6) rfl rfl (by decide) rfl (fun ls hl => ?_)
      refine lv_goto (tgt := 110) hx hb d_MO_copy_141 (by decide) ?_
      exact ih _ _ hf hP hS (lv_sub hl [1, 2, 3, 4, 5, 6, 0] rfl)
set_option maxHeartbeats 4000000 in
set_option maxRecDepth 100000 in
theorem w_MO_copy_L147 (y3 : Int32) (y4 : Int32) (y5 : Int32)  (C : Cx prog_7_method_7_code 7 "LakeReliefModel" (Option.some Jvm.ClassFile.FieldType.int) p s m args meth c) (hG : Geo D adr cA s) (v : Mem) (hE : ∀ (H : Heap) (locs : List Loc) (ls : Array Slot), va_P D cls (wld adr cA μ v) H → va_S (AA adr) s.heap H locs → lv_has ls 7 [] → W p l e rm_MO_copy s m args below meth c H locs 0 0 Q (F0 m 182 ls [])) : ∀ (n : Nat) (ν : Mem) (y6 : Int32), f_MO_copy_L147 y3 y4 y5 n ν y6 = some v → ∀ {H : Heap} {locs : List Loc} {ls : Array Slot}, va_P D cls (wld adr cA μ ν) H → va_S (AA adr) s.heap H locs → lv_has ls 7 [(0, .ref (adr 63)), (3, .int y3), (4, .int y4), (5, .int y5), (6, .int y6)] → W p l e rm_MO_copy s m args below meth c H locs 0 0 Q (F0 m 147 ls []) := by
  obtain ⟨hx, hb, hml, hown, hts, hr, hlocks⟩ := id C
  intro n
  induction n with
  | zero => intro ν y6 hf; rw [f_MO_copy_L147.eq_1] at hf; cases hf
  | succ n ih =>
    intro ν y6 hf H locs ls hP hS hl
    rw [f_MO_copy_L147.eq_2] at hf
    refine lv_iload hx hb d_MO_copy_147 (lv_at hl 4 rfl) ?_
    refine lv_iload hx hb d_MO_copy_149 (lv_at hl 3 rfl) ?_
    refine lv_icmp_ge (tgt := 182) hx hb d_MO_copy_151 (by decide) (fun hc => ?_) (fun hc => ?_)
    · replace hf := if_p hc hf
      obtain rfl := Option.some.inj hf
      exact hE _ _ _ hP hS (lv_sub hl [] rfl)
    · replace hf := if_n hc hf
      refine lv_aload_n hx hb d_MO_copy_154 rfl (lv_at hl 0 rfl) ?_
      refine g_MO_strips hx hb hts hown hG hP (hts _ in_563) d_MO_copy_155 ?_
      refine lv_bipush (v := 12) hx hb d_MO_copy_158 (by decide) ?_
      refine lv_iload_n hx hb d_MO_copy_160 rfl (lv_at hl 1 rfl) ?_
      refine lv_imul hx hb d_MO_copy_161 ?_
      refine lv_iload hx hb d_MO_copy_162 (lv_at hl 2 rfl) ?_
      refine lv_iadd hx hb d_MO_copy_164 ?_
      refine lv_iload hx hb d_MO_copy_165 (lv_at hl 4 rfl) ?_
      refine lv_iadd hx hb d_MO_copy_167 ?_
      refine lv_aload_n hx hb d_MO_copy_168 rfl (lv_at hl 0 rfl) ?_
      refine g_MO_middle hx hb hts hown hG hP (hts _ in_583) d_MO_copy_169 ?_
      refine lv_iload hx hb d_MO_copy_172 (lv_at hl 4 rfl) ?_
      replace hf := G_some hf
      obtain ⟨hi12, hf⟩ := hf
      refine r_iald hx hb hG hP 80 12 (f := ν.1 80) (by decide) (wc_M (by decide) rfl) hi12 d_MO_copy_174 ?_
      replace hf := G_some hf
      obtain ⟨hi13, hf⟩ := hf
      refine rM_iast hx hb hG hP hS 66 96 (by decide) (by decide) (fun _ _ => rfl) hi13 d_MO_copy_175 (fun H locs hP hS => ?_)
      refine lv_iinc (v := (y6 + 1)) (lv' := [(6, .int (y6 + 1)), (0, .ref (adr 63)), (3, .int y3), (4, .int y4), (5, .int y5)]) hx hb d_MO_copy_176 hl (k := 4) rfl rfl (by decide) rfl (fun ls hl => ?_)
      refine lv_goto (tgt := 147) hx hb d_MO_copy_179 (by decide) ?_
      exact ih _ _ hf hP hS (lv_sub hl [1, 2, 3, 4, 0] rfl)
set_option maxHeartbeats 4000000 in
set_option maxRecDepth 100000 in
theorem w_MO_copy (x1 : Int32) (x2 : Int32) (x3 : Int32) (x4 : Int32) (x5 : Int32)  (C : Cx prog_7_method_7_code 7 "LakeReliefModel" (Option.some Jvm.ClassFile.FieldType.int) p s m args meth c) (hG : Geo D adr cA s) {res : Int32 × Mem} (hf : f_MO_copy ν x1 x2 x3 x4 x5 = some res) (hq : ∀ (pc : Nat) (ls : Array Slot) (H : Heap) (locs : List Loc), decode prog_7_method_7_code pc = .ok (.ireturn, 1) → va_P D cls (wld adr cA μ res.2) H → va_S (AA adr) s.heap H locs → W p l e rm_MO_copy s m args below meth c H locs 0 0 Q (F0 m pc ls [.int res.1])) {H : Heap} {locs : List Loc} {ls : Array Slot} (hP : va_P D cls (wld adr cA μ ν) H) (hS : va_S (AA adr) s.heap H locs) (hl : lv_has ls 7 [(0, .ref (adr 63)), (1, .int x1), (2, .int x2), (3, .int x3), (4, .int x4), (5, .int x5)]) : W p l e rm_MO_copy s m args below meth c H locs 0 0 Q (F0 m 0 ls []) := by
  obtain ⟨hx, hb, hml, hown, hts, hr, hlocks⟩ := id C
  unfold f_MO_copy at hf
  refine lv_iload_n hx hb d_MO_copy_0 rfl (lv_at hl 1 rfl) ?_
  replace hf := B_some hf
  obtain ⟨v1, hv1, hf⟩ := hf
  refine ki (ks (As := [.int x1]) (rest := []) ⟨hx, hb, hml, hown, hts⟩ (cw_MO_84 hts ⟨Nat.le_of_ble_eq_true rfl, Nat.le_of_ble_eq_true rfl⟩) (c_MO_isStrip l D adr cA μ ν x1 hv1) hG hP rfl hl.1 (Nat.le_of_ble_eq_true rfl) d_MO_copy_1) hS (fun H locs hP hS => ?_)
  refine lv_if_eq (tgt := 14) hx hb d_MO_copy_4 (by decide) (fun hc => ?_) (fun hc => ?_)
  · replace hf := if_p hc hf
    refine lv_iconst (v := (-1)) hx hb d_MO_copy_14 (by decide) ?_
    obtain rfl := Option.some.inj hf
    exact hq _ _ _ _ d_MO_copy_15 hP hS
  · replace hf := if_n hc hf
    refine lv_iload_n hx hb d_MO_copy_7 rfl (lv_at hl 3 rfl) ?_
    replace hf := B_some hf
    obtain ⟨v2, hv2, hf⟩ := hf
    refine ki (ks (As := [.int x3]) (rest := []) ⟨hx, hb, hml, hown, hts⟩ (cw_MO_84 hts ⟨Nat.le_of_ble_eq_true rfl, Nat.le_of_ble_eq_true rfl⟩) (c_MO_isStrip l D adr cA μ ν x3 hv2) hG hP rfl hl.1 (Nat.le_of_ble_eq_true rfl) d_MO_copy_8) hS (fun H locs hP hS => ?_)
    refine lv_if_ne (tgt := 16) hx hb d_MO_copy_11 (by decide) (fun hc => ?_) (fun hc => ?_)
    · replace hf := if_n hc hf
      refine lv_aload_n hx hb d_MO_copy_16 rfl (lv_at hl 0 rfl) ?_
      refine g_MO_kind hx hb hts hown hG hP (hts _ in_561) d_MO_copy_17 ?_
      refine lv_iload_n hx hb d_MO_copy_20 rfl (lv_at hl 1 rfl) ?_
      replace hf := G_some hf
      obtain ⟨hi3, hf⟩ := hf
      refine r_iald hx hb hG hP 64 8 (f := ν.1 64) (by decide) (wc_M (by decide) rfl) hi3 d_MO_copy_21 ?_
      refine lv_if_lt (tgt := 34) hx hb d_MO_copy_22 (by decide) (fun hc => ?_) (fun hc => ?_)
      · replace hf := if_p hc hf
        refine lv_bipush (v := (-11)) hx hb d_MO_copy_34 (by decide) ?_
        obtain rfl := Option.some.inj hf
        exact hq _ _ _ _ d_MO_copy_36 hP hS
      · replace hf := if_n hc hf
        refine lv_aload_n hx hb d_MO_copy_25 rfl (lv_at hl 0 rfl) ?_
        refine g_MO_kind hx hb hts hown hG hP (hts _ in_561) d_MO_copy_26 ?_
        refine lv_iload_n hx hb d_MO_copy_29 rfl (lv_at hl 3 rfl) ?_
        replace hf := G_some hf
        obtain ⟨hi4, hf⟩ := hf
        refine r_iald hx hb hG hP 64 8 (f := ν.1 64) (by decide) (wc_M (by decide) rfl) hi4 d_MO_copy_30 ?_
        refine lv_if_ge (tgt := 37) hx hb d_MO_copy_31 (by decide) (fun hc => ?_) (fun hc => ?_)
        · replace hf := if_p hc hf
          refine lv_aload_n hx hb d_MO_copy_37 rfl (lv_at hl 0 rfl) ?_
          refine g_MO_kind hx hb hts hown hG hP (hts _ in_561) d_MO_copy_38 ?_
          refine lv_iload_n hx hb d_MO_copy_41 rfl (lv_at hl 1 rfl) ?_
          replace hf := G_some hf
          obtain ⟨hi5, hf⟩ := hf
          refine r_iald hx hb hG hP 64 8 (f := ν.1 64) (by decide) (wc_M (by decide) rfl) hi5 d_MO_copy_42 ?_
          refine lv_aload_n hx hb d_MO_copy_43 rfl (lv_at hl 0 rfl) ?_
          refine g_MO_kind hx hb hts hown hG hP (hts _ in_561) d_MO_copy_44 ?_
          refine lv_iload_n hx hb d_MO_copy_47 rfl (lv_at hl 3 rfl) ?_
          replace hf := G_some hf
          obtain ⟨hi6, hf⟩ := hf
          refine r_iald hx hb hG hP 64 8 (f := ν.1 64) (by decide) (wc_M (by decide) rfl) hi6 d_MO_copy_48 ?_
          refine lv_icmp_eq (tgt := 55) hx hb d_MO_copy_49 (by decide) (fun hc => ?_) (fun hc => ?_)
          · replace hf := if_p hc hf
            refine lv_iload hx hb d_MO_copy_55 (lv_at hl 5 rfl) ?_
            refine lv_if_lt (tgt := 104) hx hb d_MO_copy_57 (by decide) (fun hc => ?_) (fun hc => ?_)
            · replace hf := if_p hc hf
              refine lv_bipush (v := (-12)) hx hb d_MO_copy_104 (by decide) ?_
              obtain rfl := Option.some.inj hf
              exact hq _ _ _ _ d_MO_copy_106 hP hS
            · replace hf := if_n hc hf
              refine lv_iload_n hx hb d_MO_copy_60 rfl (lv_at hl 2 rfl) ?_
              refine lv_if_lt (tgt := 104) hx hb d_MO_copy_61 (by decide) (fun hc => ?_) (fun hc => ?_)
              · replace hf := if_p hc hf
                refine lv_bipush (v := (-12)) hx hb d_MO_copy_104 (by decide) ?_
                obtain rfl := Option.some.inj hf
                exact hq _ _ _ _ d_MO_copy_106 hP hS
              · replace hf := if_n hc hf
                refine lv_iload hx hb d_MO_copy_64 (lv_at hl 4 rfl) ?_
                refine lv_if_lt (tgt := 104) hx hb d_MO_copy_66 (by decide) (fun hc => ?_) (fun hc => ?_)
                · replace hf := if_p hc hf
                  refine lv_bipush (v := (-12)) hx hb d_MO_copy_104 (by decide) ?_
                  obtain rfl := Option.some.inj hf
                  exact hq _ _ _ _ d_MO_copy_106 hP hS
                · replace hf := if_n hc hf
                  refine lv_iload_n hx hb d_MO_copy_69 rfl (lv_at hl 2 rfl) ?_
                  refine lv_i2l hx hb d_MO_copy_70 rfl ?_
                  refine lv_iload hx hb d_MO_copy_71 (lv_at hl 5 rfl) ?_
                  refine lv_i2l hx hb d_MO_copy_73 rfl ?_
                  refine lv_ladd hx hb d_MO_copy_74 ?_
                  refine lv_aload_n hx hb d_MO_copy_75 rfl (lv_at hl 0 rfl) ?_
                  refine g_MO_size hx hb hts hown hG hP (hts _ in_562) d_MO_copy_76 ?_
                  refine lv_iload_n hx hb d_MO_copy_79 rfl (lv_at hl 1 rfl) ?_
                  replace hf := G_some hf
                  obtain ⟨hi7, hf⟩ := hf
                  refine r_iald hx hb hG hP 65 8 (f := ν.1 65) (by decide) (wc_M (by decide) rfl) hi7 d_MO_copy_80 ?_
                  refine lv_i2l hx hb d_MO_copy_81 rfl ?_
                  refine W.lcmp hx hb d_MO_copy_82 ?_
                  refine lv_if_gt (tgt := 104) hx hb d_MO_copy_83 (by decide) (fun hc => ?_) (fun hc => ?_)
                  · replace hf := if_p hc hf
                    refine lv_bipush (v := (-12)) hx hb d_MO_copy_104 (by decide) ?_
                    obtain rfl := Option.some.inj hf
                    exact hq _ _ _ _ d_MO_copy_106 hP hS
                  · replace hf := if_n hc hf
                    refine lv_iload hx hb d_MO_copy_86 (lv_at hl 4 rfl) ?_
                    refine lv_i2l hx hb d_MO_copy_88 rfl ?_
                    refine lv_iload hx hb d_MO_copy_89 (lv_at hl 5 rfl) ?_
                    refine lv_i2l hx hb d_MO_copy_91 rfl ?_
                    refine lv_ladd hx hb d_MO_copy_92 ?_
                    refine lv_aload_n hx hb d_MO_copy_93 rfl (lv_at hl 0 rfl) ?_
                    refine g_MO_size hx hb hts hown hG hP (hts _ in_562) d_MO_copy_94 ?_
                    refine lv_iload_n hx hb d_MO_copy_97 rfl (lv_at hl 3 rfl) ?_
                    replace hf := G_some hf
                    obtain ⟨hi8, hf⟩ := hf
                    refine r_iald hx hb hG hP 65 8 (f := ν.1 65) (by decide) (wc_M (by decide) rfl) hi8 d_MO_copy_98 ?_
                    refine lv_i2l hx hb d_MO_copy_99 rfl ?_
                    refine W.lcmp hx hb d_MO_copy_100 ?_
                    refine lv_if_le (tgt := 107) hx hb d_MO_copy_101 (by decide) (fun hc => ?_) (fun hc => ?_)
                    · replace hf := if_p hc hf
                      refine lv_iconst (v := 0) hx hb d_MO_copy_107 (by decide) ?_
                      refine lv_istore (lv' := [(6, .int 0), (0, .ref (adr 63)), (1, .int x1), (2, .int x2), (3, .int x3), (4, .int x4), (5, .int x5)]) hx hb d_MO_copy_108 hl (by decide) rfl (fun ls hl => ?_)
                      replace hf := B_some hf
                      obtain ⟨v11, hv11, hf⟩ := hf
                      refine w_MO_copy_L110 x1 x2 x3 x4 x5  C hG v11 ?_ FU _ _ hv11 hP hS (lv_sub hl [1, 2, 3, 4, 5, 6, 0] rfl)
                      clear hv11 hP hS hl
                      intro H locs ls hP hS hl
                      refine lv_iconst (v := 0) hx hb d_MO_copy_144 (by decide) ?_
                      refine lv_istore (lv' := [(6, .int 0), (0, .ref (adr 63)), (3, .int x3), (4, .int x4), (5, .int x5)]) hx hb d_MO_copy_145 hl (by decide) rfl (fun ls hl => ?_)
                      replace hf := B_some hf
                      obtain ⟨v14, hv14, hf⟩ := hf
                      refine w_MO_copy_L147 x3 x4 x5  C hG v14 ?_ FU _ _ hv14 hP hS (lv_sub hl [1, 2, 3, 4, 0] rfl)
                      clear hv14 hP hS hl
                      intro H locs ls hP hS hl
                      refine lv_iconst (v := 0) hx hb d_MO_copy_182 (by decide) ?_
                      obtain rfl := Option.some.inj hf
                      exact hq _ _ _ _ d_MO_copy_183 hP hS
                    · replace hf := if_n hc hf
                      refine lv_bipush (v := (-12)) hx hb d_MO_copy_104 (by decide) ?_
                      obtain rfl := Option.some.inj hf
                      exact hq _ _ _ _ d_MO_copy_106 hP hS
          · replace hf := if_n hc hf
            refine lv_bipush (v := (-14)) hx hb d_MO_copy_52 (by decide) ?_
            obtain rfl := Option.some.inj hf
            exact hq _ _ _ _ d_MO_copy_54 hP hS
        · replace hf := if_n hc hf
          refine lv_bipush (v := (-11)) hx hb d_MO_copy_34 (by decide) ?_
          obtain rfl := Option.some.inj hf
          exact hq _ _ _ _ d_MO_copy_36 hP hS
    · replace hf := if_p hc hf
      refine lv_iconst (v := (-1)) hx hb d_MO_copy_14 (by decide) ?_
      obtain rfl := Option.some.inj hf
      exact hq _ _ _ _ d_MO_copy_15 hP hS
theorem c_MO_copy (l : Launch) (D : va_G) (adr : Nat → Nat) (cA : Nat → ClassId) (μ ν : Mem) (x1 : Int32) (x2 : Int32) (x3 : Int32) (x4 : Int32) (x5 : Int32)  {res : Int32 × Mem} (hf : f_MO_copy ν x1 x2 x3 x4 x5 = some res) : Met l y_MO_copy (Cond.code y_MO_copy prog_7_method_7_code 7 (Option.some Jvm.ClassFile.FieldType.int) :: lw_ok) rm_MO_copy (va_Pc [.ref (adr 63), .int x1, .int x2, .int x3, .int x4, .int x5] (Wd D adr cA μ ν)) (QI D adr cA res.1 μ res.2) 0 0 (AA adr) :=
  met_of (own := "LakeReliefModel") rfl rfl (Nat.le_of_ble_eq_true rfl) (fun p e s m below meth c C hG hP hS ls hl => w_MO_copy x1 x2 x3 x4 x5  C hG hf (fun pc ls H locs hd hP hS => ret_i C.1 C.2.1 C.2.2.2.2.2.1 C.2.2.2.2.2.2 hG hd hP hS) hP hS hl)
end X_MO_copy
