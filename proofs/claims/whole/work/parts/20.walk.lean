section X_MO_layLakes
variable {p : Program} {l : Launch} {e : Env} {s : State} {m : MethodId} {args : Array Value} {below : List Frame} {meth : Method} {c : Code} {Q : State → Prop}
variable {D : va_G} {adr : Nat → Nat} {cA : Nat → ClassId} {μ ν : Mem}
theorem d_MO_layLakes_0 : decode prog_7_method_21_code 0 = .ok (.aload_n 0, 1) := by decide +kernel
theorem d_MO_layLakes_1 : decode prog_7_method_21_code 1 = .ok (.iconst 0, 1) := by decide +kernel
theorem d_MO_layLakes_2 : decode prog_7_method_21_code 2 = .ok (.putfield 116, 3) := by decide +kernel
theorem d_MO_layLakes_5 : decode prog_7_method_21_code 5 = .ok (.iconst 0, 1) := by decide +kernel
theorem d_MO_layLakes_6 : decode prog_7_method_21_code 6 = .ok (.istore_n 1, 1) := by decide +kernel
theorem d_MO_layLakes_7 : decode prog_7_method_21_code 7 = .ok (.iload_n 1, 1) := by decide +kernel
theorem d_MO_layLakes_8 : decode prog_7_method_21_code 8 = .ok (.aload_n 0, 1) := by decide +kernel
theorem d_MO_layLakes_9 : decode prog_7_method_21_code 9 = .ok (.getfield 102, 3) := by decide +kernel
theorem d_MO_layLakes_12 : decode prog_7_method_21_code 12 = .ok (.if_icmp .ge 24, 3) := by decide +kernel
theorem d_MO_layLakes_15 : decode prog_7_method_21_code 15 = .ok (.aload_n 0, 1) := by decide +kernel
theorem d_MO_layLakes_16 : decode prog_7_method_21_code 16 = .ok (.getfield 66, 3) := by decide +kernel
theorem d_MO_layLakes_19 : decode prog_7_method_21_code 19 = .ok (.iload_n 1, 1) := by decide +kernel
theorem d_MO_layLakes_20 : decode prog_7_method_21_code 20 = .ok (.iconst 0, 1) := by decide +kernel
theorem d_MO_layLakes_21 : decode prog_7_method_21_code 21 = .ok (.bastore, 1) := by decide +kernel
theorem d_MO_layLakes_22 : decode prog_7_method_21_code 22 = .ok (.aload_n 0, 1) := by decide +kernel
theorem d_MO_layLakes_23 : decode prog_7_method_21_code 23 = .ok (.getfield 63, 3) := by decide +kernel
theorem d_MO_layLakes_26 : decode prog_7_method_21_code 26 = .ok (.iload_n 1, 1) := by decide +kernel
theorem d_MO_layLakes_27 : decode prog_7_method_21_code 27 = .ok (.bipush (-3), 2) := by decide +kernel
theorem d_MO_layLakes_29 : decode prog_7_method_21_code 29 = .ok (.iastore, 1) := by decide +kernel
theorem d_MO_layLakes_30 : decode prog_7_method_21_code 30 = .ok (.iinc 1 1, 3) := by decide +kernel
theorem d_MO_layLakes_33 : decode prog_7_method_21_code 33 = .ok (.goto (-26), 3) := by decide +kernel
theorem d_MO_layLakes_36 : decode prog_7_method_21_code 36 = .ok (.iconst 0, 1) := by decide +kernel
theorem d_MO_layLakes_37 : decode prog_7_method_21_code 37 = .ok (.istore_n 1, 1) := by decide +kernel
theorem d_MO_layLakes_38 : decode prog_7_method_21_code 38 = .ok (.iload_n 1, 1) := by decide +kernel
theorem d_MO_layLakes_39 : decode prog_7_method_21_code 39 = .ok (.aload_n 0, 1) := by decide +kernel
theorem d_MO_layLakes_40 : decode prog_7_method_21_code 40 = .ok (.getfield 102, 3) := by decide +kernel
theorem d_MO_layLakes_43 : decode prog_7_method_21_code 43 = .ok (.if_icmp .ge 74, 3) := by decide +kernel
theorem d_MO_layLakes_46 : decode prog_7_method_21_code 46 = .ok (.bipush (-3), 2) := by decide +kernel
theorem d_MO_layLakes_48 : decode prog_7_method_21_code 48 = .ok (.istore_n 2, 1) := by decide +kernel
theorem d_MO_layLakes_49 : decode prog_7_method_21_code 49 = .ok (.iconst 0, 1) := by decide +kernel
theorem d_MO_layLakes_50 : decode prog_7_method_21_code 50 = .ok (.istore_n 3, 1) := by decide +kernel
theorem d_MO_layLakes_51 : decode prog_7_method_21_code 51 = .ok (.iload_n 3, 1) := by decide +kernel
theorem d_MO_layLakes_52 : decode prog_7_method_21_code 52 = .ok (.aload_n 0, 1) := by decide +kernel
theorem d_MO_layLakes_53 : decode prog_7_method_21_code 53 = .ok (.getfield 102, 3) := by decide +kernel
theorem d_MO_layLakes_56 : decode prog_7_method_21_code 56 = .ok (.if_icmp .ge 44, 3) := by decide +kernel
theorem d_MO_layLakes_59 : decode prog_7_method_21_code 59 = .ok (.aload_n 0, 1) := by decide +kernel
theorem d_MO_layLakes_60 : decode prog_7_method_21_code 60 = .ok (.getfield 19, 3) := by decide +kernel
theorem d_MO_layLakes_63 : decode prog_7_method_21_code 63 = .ok (.iload_n 3, 1) := by decide +kernel
theorem d_MO_layLakes_64 : decode prog_7_method_21_code 64 = .ok (.baload, 1) := by decide +kernel
theorem d_MO_layLakes_65 : decode prog_7_method_21_code 65 = .ok (.ifCond .ne 29, 3) := by decide +kernel
theorem d_MO_layLakes_68 : decode prog_7_method_21_code 68 = .ok (.aload_n 0, 1) := by decide +kernel
theorem d_MO_layLakes_69 : decode prog_7_method_21_code 69 = .ok (.getfield 66, 3) := by decide +kernel
theorem d_MO_layLakes_72 : decode prog_7_method_21_code 72 = .ok (.iload_n 3, 1) := by decide +kernel
theorem d_MO_layLakes_73 : decode prog_7_method_21_code 73 = .ok (.baload, 1) := by decide +kernel
theorem d_MO_layLakes_74 : decode prog_7_method_21_code 74 = .ok (.ifCond .ne 20, 3) := by decide +kernel
theorem d_MO_layLakes_77 : decode prog_7_method_21_code 77 = .ok (.iload_n 2, 1) := by decide +kernel
theorem d_MO_layLakes_78 : decode prog_7_method_21_code 78 = .ok (.bipush (-3), 2) := by decide +kernel
theorem d_MO_layLakes_80 : decode prog_7_method_21_code 80 = .ok (.if_icmp .eq 12, 3) := by decide +kernel
theorem d_MO_layLakes_83 : decode prog_7_method_21_code 83 = .ok (.aload_n 0, 1) := by decide +kernel
theorem d_MO_layLakes_84 : decode prog_7_method_21_code 84 = .ok (.iload_n 3, 1) := by decide +kernel
theorem d_MO_layLakes_85 : decode prog_7_method_21_code 85 = .ok (.iload_n 2, 1) := by decide +kernel
theorem d_MO_layLakes_86 : decode prog_7_method_21_code 86 = .ok (.invokevirtual 111, 3) := by decide +kernel
theorem d_MO_layLakes_89 : decode prog_7_method_21_code 89 = .ok (.ifCond .eq 5, 3) := by decide +kernel
theorem d_MO_layLakes_92 : decode prog_7_method_21_code 92 = .ok (.iload_n 3, 1) := by decide +kernel
theorem d_MO_layLakes_93 : decode prog_7_method_21_code 93 = .ok (.istore_n 2, 1) := by decide +kernel
theorem d_MO_layLakes_94 : decode prog_7_method_21_code 94 = .ok (.iinc 3 1, 3) := by decide +kernel
theorem d_MO_layLakes_97 : decode prog_7_method_21_code 97 = .ok (.goto (-46), 3) := by decide +kernel
theorem d_MO_layLakes_100 : decode prog_7_method_21_code 100 = .ok (.iload_n 2, 1) := by decide +kernel
theorem d_MO_layLakes_101 : decode prog_7_method_21_code 101 = .ok (.bipush (-3), 2) := by decide +kernel
theorem d_MO_layLakes_103 : decode prog_7_method_21_code 103 = .ok (.if_icmp .eq 8, 3) := by decide +kernel
theorem d_MO_layLakes_106 : decode prog_7_method_21_code 106 = .ok (.aload_n 0, 1) := by decide +kernel
theorem d_MO_layLakes_107 : decode prog_7_method_21_code 107 = .ok (.iload_n 2, 1) := by decide +kernel
theorem d_MO_layLakes_108 : decode prog_7_method_21_code 108 = .ok (.invokevirtual 140, 3) := by decide +kernel
theorem d_MO_layLakes_111 : decode prog_7_method_21_code 111 = .ok (.iinc 1 1, 3) := by decide +kernel
theorem d_MO_layLakes_114 : decode prog_7_method_21_code 114 = .ok (.goto (-76), 3) := by decide +kernel
theorem d_MO_layLakes_117 : decode prog_7_method_21_code 117 = .ok (.iconst 0, 1) := by decide +kernel
theorem d_MO_layLakes_118 : decode prog_7_method_21_code 118 = .ok (.istore_n 1, 1) := by decide +kernel
theorem d_MO_layLakes_119 : decode prog_7_method_21_code 119 = .ok (.iload_n 1, 1) := by decide +kernel
theorem d_MO_layLakes_120 : decode prog_7_method_21_code 120 = .ok (.aload_n 0, 1) := by decide +kernel
theorem d_MO_layLakes_121 : decode prog_7_method_21_code 121 = .ok (.getfield 116, 3) := by decide +kernel
theorem d_MO_layLakes_124 : decode prog_7_method_21_code 124 = .ok (.if_icmp .ge 29, 3) := by decide +kernel
theorem d_MO_layLakes_127 : decode prog_7_method_21_code 127 = .ok (.aload_n 0, 1) := by decide +kernel
theorem d_MO_layLakes_128 : decode prog_7_method_21_code 128 = .ok (.getfield 54, 3) := by decide +kernel
theorem d_MO_layLakes_131 : decode prog_7_method_21_code 131 = .ok (.iload_n 1, 1) := by decide +kernel
theorem d_MO_layLakes_132 : decode prog_7_method_21_code 132 = .ok (.aload_n 0, 1) := by decide +kernel
theorem d_MO_layLakes_133 : decode prog_7_method_21_code 133 = .ok (.getfield 35, 3) := by decide +kernel
theorem d_MO_layLakes_136 : decode prog_7_method_21_code 136 = .ok (.iload_n 1, 1) := by decide +kernel
theorem d_MO_layLakes_137 : decode prog_7_method_21_code 137 = .ok (.baload, 1) := by decide +kernel
theorem d_MO_layLakes_138 : decode prog_7_method_21_code 138 = .ok (.ifCond .ne 7, 3) := by decide +kernel
theorem d_MO_layLakes_141 : decode prog_7_method_21_code 141 = .ok (.iconst 1, 1) := by decide +kernel
theorem d_MO_layLakes_142 : decode prog_7_method_21_code 142 = .ok (.goto 4, 3) := by decide +kernel
theorem d_MO_layLakes_145 : decode prog_7_method_21_code 145 = .ok (.iconst 0, 1) := by decide +kernel
theorem d_MO_layLakes_146 : decode prog_7_method_21_code 146 = .ok (.bastore, 1) := by decide +kernel
theorem d_MO_layLakes_147 : decode prog_7_method_21_code 147 = .ok (.iinc 1 1, 3) := by decide +kernel
theorem d_MO_layLakes_150 : decode prog_7_method_21_code 150 = .ok (.goto (-31), 3) := by decide +kernel
theorem d_MO_layLakes_153 : decode prog_7_method_21_code 153 = .ok (.return_, 1) := by decide +kernel
set_option maxHeartbeats 4000000 in
set_option maxRecDepth 100000 in
theorem w_MO_layLakes_L7   (C : Cx prog_7_method_21_code 4 "LakeReliefModel" (Option.none : Option Jvm.ClassFile.FieldType) p s m args meth c) (hG : Geo D adr cA s) (v : Mem) (hE : ∀ (H : Heap) (locs : List Loc) (ls : Array Slot), va_P D cls (wld adr cA μ v) H → va_S (AA adr) s.heap H locs → lv_has ls 4 [(0, .ref (adr 63))] → W p l e rm_MO_layLakes s m args below meth c H locs 0 0 Q (F0 m 36 ls [])) : ∀ (n : Nat) (ν : Mem) (y1 : Int32), f_MO_layLakes_L7 n ν y1 = some v → ∀ {H : Heap} {locs : List Loc} {ls : Array Slot}, va_P D cls (wld adr cA μ ν) H → va_S (AA adr) s.heap H locs → lv_has ls 4 [(0, .ref (adr 63)), (1, .int y1)] → W p l e rm_MO_layLakes s m args below meth c H locs 0 0 Q (F0 m 7 ls []) := by
  obtain ⟨hx, hb, hml, hown, hts, hr, hlocks⟩ := id C
  intro n
  induction n with
  | zero => intro ν y1 hf; rw [f_MO_layLakes_L7.eq_1] at hf; cases hf
  | succ n ih =>
    intro ν y1 hf H locs ls hP hS hl
    rw [f_MO_layLakes_L7.eq_2] at hf
    refine lv_iload_n hx hb d_MO_layLakes_7 rfl (lv_at hl 1 rfl) ?_
    refine lv_aload_n hx hb d_MO_layLakes_8 rfl (lv_at hl 0 rfl) ?_
    refine g_MO_fields hx hb hts hown hG hP (hts _ in_566) d_MO_layLakes_9 ?_
    refine lv_icmp_ge (tgt := 36) hx hb d_MO_layLakes_12 (by decide) (fun hc => ?_) (fun hc => ?_)
    · replace hf := if_p hc hf
      obtain rfl := Option.some.inj hf
      exact hE _ _ _ hP hS (lv_sub hl [0] rfl)
    · replace hf := if_n hc hf
      refine lv_aload_n hx hb d_MO_layLakes_15 rfl (lv_at hl 0 rfl) ?_
      refine g_MO_isUnder hx hb hts hown hG hP (hts _ in_585) d_MO_layLakes_16 ?_
      refine lv_iload_n hx hb d_MO_layLakes_19 rfl (lv_at hl 1 rfl) ?_
      refine lv_iconst (v := 0) hx hb d_MO_layLakes_20 (by decide) ?_
      replace hf := G_some hf
      obtain ⟨hi1, hf⟩ := hf
      refine rM_zast hx hb hG hP hS 82 64 (by decide) (by decide) (fun _ _ => rfl) hi1 d_MO_layLakes_21 (fun H locs hP hS => ?_)
      refine lv_aload_n hx hb d_MO_layLakes_22 rfl (lv_at hl 0 rfl) ?_
      refine g_MO_owner hx hb hts hown hG hP (hts _ in_584) d_MO_layLakes_23 ?_
      refine lv_iload_n hx hb d_MO_layLakes_26 rfl (lv_at hl 1 rfl) ?_
      refine lv_bipush (v := (-3)) hx hb d_MO_layLakes_27 (by decide) ?_
      replace hf := G_some hf
      obtain ⟨hi2, hf⟩ := hf
      refine rM_iast hx hb hG hP hS 81 64 (by decide) (by decide) (fun _ _ => rfl) hi2 d_MO_layLakes_29 (fun H locs hP hS => ?_)
      refine lv_iinc (v := (y1 + 1)) (lv' := [(1, .int (y1 + 1)), (0, .ref (adr 63))]) hx hb d_MO_layLakes_30 hl (k := 1) rfl rfl (by decide) rfl (fun ls hl => ?_)
      refine lv_goto (tgt := 7) hx hb d_MO_layLakes_33 (by decide) ?_
      exact ih _ _ hf hP hS (lv_sub hl [1, 0] rfl)
set_option maxHeartbeats 4000000 in
set_option maxRecDepth 100000 in
theorem w_MO_layLakes_L51 (y1 : Int32)  (C : Cx prog_7_method_21_code 4 "LakeReliefModel" (Option.none : Option Jvm.ClassFile.FieldType) p s m args meth c) (hG : Geo D adr cA s) (v : Int32) (hE : ∀ (H : Heap) (locs : List Loc) (ls : Array Slot), va_P D cls (wld adr cA μ ν) H → va_S (AA adr) s.heap H locs → lv_has ls 4 [(0, .ref (adr 63)), (1, .int y1), (2, .int v)] → W p l e rm_MO_layLakes s m args below meth c H locs 0 0 Q (F0 m 100 ls [])) : ∀ (n : Nat) (y2 : Int32) (y3 : Int32), f_MO_layLakes_L51 ν y1 n y2 y3 = some v → ∀ {H : Heap} {locs : List Loc} {ls : Array Slot}, va_P D cls (wld adr cA μ ν) H → va_S (AA adr) s.heap H locs → lv_has ls 4 [(0, .ref (adr 63)), (1, .int y1), (2, .int y2), (3, .int y3)] → W p l e rm_MO_layLakes s m args below meth c H locs 0 0 Q (F0 m 51 ls []) := by
  obtain ⟨hx, hb, hml, hown, hts, hr, hlocks⟩ := id C
  intro n
  induction n with
  | zero => intro y2 y3 hf; rw [f_MO_layLakes_L51.eq_1] at hf; cases hf
  | succ n ih =>
    intro y2 y3 hf H locs ls hP hS hl
    rw [f_MO_layLakes_L51.eq_2] at hf
    refine lv_iload_n hx hb d_MO_layLakes_51 rfl (lv_at hl 3 rfl) ?_
    refine lv_aload_n hx hb d_MO_layLakes_52 rfl (lv_at hl 0 rfl) ?_
    refine g_MO_fields hx hb hts hown hG hP (hts _ in_566) d_MO_layLakes_53 ?_
    refine lv_icmp_ge (tgt := 100) hx hb d_MO_layLakes_56 (by decide) (fun hc => ?_) (fun hc => ?_)
    · replace hf := if_p hc hf
      obtain rfl := Option.some.inj hf
      exact hE _ _ _ hP hS (lv_sub hl [0, 1, 2] rfl)
    · replace hf := if_n hc hf
      refine lv_aload_n hx hb d_MO_layLakes_59 rfl (lv_at hl 0 rfl) ?_
      refine g_MO_isSea hx hb hts hown hG hP (hts _ in_567) d_MO_layLakes_60 ?_
      refine lv_iload_n hx hb d_MO_layLakes_63 rfl (lv_at hl 3 rfl) ?_
      replace hf := G_some hf
      obtain ⟨hi4, hf⟩ := hf
      refine r_zald hx hb hG hP 67 64 (f := ν.1 67) (by decide) (wc_M (by decide) rfl) hi4 d_MO_layLakes_64 ?_
      replace hf := B_some hf
      obtain ⟨v5, hv5, hf⟩ := hf
      have hJ : ∀ (H : Heap) (locs : List Loc) (ls : Array Slot), va_P D cls (wld adr cA μ ν) H → va_S (AA adr) s.heap H locs → lv_has ls 4 [(0, .ref (adr 63)), (1, .int y1), (2, .int v5), (3, .int y3)] → W p l e rm_MO_layLakes s m args below meth c H locs 0 0 Q (F0 m 94 ls []) := by
        clear hv5
        intro H locs ls hP hS hl
        refine lv_iinc (v := (y3 + 1)) (lv' := [(3, .int (y3 + 1)), (0, .ref (adr 63)), (1, .int y1), (2, .int v5)]) hx hb d_MO_layLakes_94 hl (k := 3) rfl rfl (by decide) rfl (fun ls hl => ?_)
        refine lv_goto (tgt := 51) hx hb d_MO_layLakes_97 (by decide) ?_
        exact ih _ _ hf hP hS (lv_sub hl [1, 2, 3, 0] rfl)
      clear hf
      have hf := hv5
      clear hv5
      refine lv_if_ne (tgt := 94) hx hb d_MO_layLakes_65 (by decide) (fun hc => ?_) (fun hc => ?_)
      · replace hf := if_n hc hf
        obtain rfl := Option.some.inj hf
        exact hJ _ _ _ hP hS (lv_sub hl [0, 1, 2, 3] rfl)
      · replace hf := if_p hc hf
        refine lv_aload_n hx hb d_MO_layLakes_68 rfl (lv_at hl 0 rfl) ?_
        refine g_MO_isUnder hx hb hts hown hG hP (hts _ in_585) d_MO_layLakes_69 ?_
        refine lv_iload_n hx hb d_MO_layLakes_72 rfl (lv_at hl 3 rfl) ?_
        replace hf := G_some hf
        obtain ⟨hi6, hf⟩ := hf
        refine r_zald hx hb hG hP 82 64 (f := ν.1 82) (by decide) (wc_M (by decide) rfl) hi6 d_MO_layLakes_73 ?_
        refine lv_if_ne (tgt := 94) hx hb d_MO_layLakes_74 (by decide) (fun hc => ?_) (fun hc => ?_)
        · replace hf := if_n hc hf
          obtain rfl := Option.some.inj hf
          exact hJ _ _ _ hP hS (lv_sub hl [0, 1, 2, 3] rfl)
        · replace hf := if_p hc hf
          refine lv_iload_n hx hb d_MO_layLakes_77 rfl (lv_at hl 2 rfl) ?_
          refine lv_bipush (v := (-3)) hx hb d_MO_layLakes_78 (by decide) ?_
          refine lv_icmp_eq (tgt := 92) hx hb d_MO_layLakes_80 (by decide) (fun hc => ?_) (fun hc => ?_)
          · replace hf := if_p hc hf
            refine lv_iload_n hx hb d_MO_layLakes_92 rfl (lv_at hl 3 rfl) ?_
            refine lv_istore_n (lv' := [(2, .int y3), (0, .ref (adr 63)), (1, .int y1), (3, .int y3)]) hx hb d_MO_layLakes_93 rfl hl (by decide) rfl (fun ls hl => ?_)
            obtain rfl := Option.some.inj hf
            exact hJ _ _ _ hP hS (lv_sub hl [1, 2, 0, 3] rfl)
          · replace hf := if_n hc hf
            refine lv_aload_n hx hb d_MO_layLakes_83 rfl (lv_at hl 0 rfl) ?_
            refine lv_iload_n hx hb d_MO_layLakes_84 rfl (lv_at hl 3 rfl) ?_
            refine lv_iload_n hx hb d_MO_layLakes_85 rfl (lv_at hl 2 rfl) ?_
            replace hf := B_some hf
            obtain ⟨v7, hv7, hf⟩ := hf
            refine ki (kv (As := [.int y3, .int y2]) (rest := []) ⟨hx, hb, hml, hown, hts⟩ (cw_MO_111 hts ⟨Nat.le_of_ble_eq_true rfl, Nat.le_of_ble_eq_true rfl⟩) (c_MO_isLower l D adr cA μ ν y3 y2 hv7) hG hP (rc_o (q := 63) (ci := 5) hG hP (by decide) (wc_M (by decide) rfl) rfl) rfl hl.1 (Nat.le_of_ble_eq_true rfl) d_MO_layLakes_86) hS (fun H locs hP hS => ?_)
            refine lv_if_eq (tgt := 94) hx hb d_MO_layLakes_89 (by decide) (fun hc => ?_) (fun hc => ?_)
            · replace hf := if_p hc hf
              obtain rfl := Option.some.inj hf
              exact hJ _ _ _ hP hS (lv_sub hl [0, 1, 2, 3] rfl)
            · replace hf := if_n hc hf
              refine lv_iload_n hx hb d_MO_layLakes_92 rfl (lv_at hl 3 rfl) ?_
              refine lv_istore_n (lv' := [(2, .int y3), (0, .ref (adr 63)), (1, .int y1), (3, .int y3)]) hx hb d_MO_layLakes_93 rfl hl (by decide) rfl (fun ls hl => ?_)
              obtain rfl := Option.some.inj hf
              exact hJ _ _ _ hP hS (lv_sub hl [1, 2, 0, 3] rfl)
set_option maxHeartbeats 4000000 in
set_option maxRecDepth 100000 in
theorem w_MO_layLakes_L38   (C : Cx prog_7_method_21_code 4 "LakeReliefModel" (Option.none : Option Jvm.ClassFile.FieldType) p s m args meth c) (hG : Geo D adr cA s) (v : Mem) (hE : ∀ (H : Heap) (locs : List Loc) (ls : Array Slot), va_P D cls (wld adr cA μ v) H → va_S (AA adr) s.heap H locs → lv_has ls 4 [(0, .ref (adr 63))] → W p l e rm_MO_layLakes s m args below meth c H locs 0 0 Q (F0 m 117 ls [])) : ∀ (n : Nat) (ν : Mem) (y1 : Int32), f_MO_layLakes_L38 n ν y1 = some v → ∀ {H : Heap} {locs : List Loc} {ls : Array Slot}, va_P D cls (wld adr cA μ ν) H → va_S (AA adr) s.heap H locs → lv_has ls 4 [(0, .ref (adr 63)), (1, .int y1)] → W p l e rm_MO_layLakes s m args below meth c H locs 0 0 Q (F0 m 38 ls []) := by
  obtain ⟨hx, hb, hml, hown, hts, hr, hlocks⟩ := id C
  intro n
  induction n with
  | zero => intro ν y1 hf; rw [f_MO_layLakes_L38.eq_1] at hf; cases hf
  | succ n ih =>
    intro ν y1 hf H locs ls hP hS hl
    rw [f_MO_layLakes_L38.eq_2] at hf
    refine lv_iload_n hx hb d_MO_layLakes_38 rfl (lv_at hl 1 rfl) ?_
    refine lv_aload_n hx hb d_MO_layLakes_39 rfl (lv_at hl 0 rfl) ?_
    refine g_MO_fields hx hb hts hown hG hP (hts _ in_566) d_MO_layLakes_40 ?_
    refine lv_icmp_ge (tgt := 117) hx hb d_MO_layLakes_43 (by decide) (fun hc => ?_) (fun hc => ?_)
    · replace hf := if_p hc hf
      obtain rfl := Option.some.inj hf
      exact hE _ _ _ hP hS (lv_sub hl [0] rfl)
    · replace hf := if_n hc hf
      refine lv_bipush (v := (-3)) hx hb d_MO_layLakes_46 (by decide) ?_
      refine lv_istore_n (lv' := [(2, .int (-3)), (0, .ref (adr 63)), (1, .int y1)]) hx hb d_MO_layLakes_48 rfl hl (by decide) rfl (fun ls hl => ?_)
      refine lv_iconst (v := 0) hx hb d_MO_layLakes_49 (by decide) ?_
      refine lv_istore_n (lv' := [(3, .int 0), (2, .int (-3)), (0, .ref (adr 63)), (1, .int y1)]) hx hb d_MO_layLakes_50 rfl hl (by decide) rfl (fun ls hl => ?_)
      replace hf := B_some hf
      obtain ⟨v8, hv8, hf⟩ := hf
      refine w_MO_layLakes_L51 y1  C hG v8 ?_ FU _ _ hv8 hP hS (lv_sub hl [2, 3, 1, 0] rfl)
      clear hv8 hP hS hl
      intro H locs ls hP hS hl
      refine lv_iload_n hx hb d_MO_layLakes_100 rfl (lv_at hl 2 rfl) ?_
      refine lv_bipush (v := (-3)) hx hb d_MO_layLakes_101 (by decide) ?_
      replace hf := B_some hf
      obtain ⟨v9, hv9, hf⟩ := hf
      have hJ : ∀ (H : Heap) (locs : List Loc) (ls : Array Slot), va_P D cls (wld adr cA μ v9) H → va_S (AA adr) s.heap H locs → lv_has ls 4 [(0, .ref (adr 63)), (1, .int y1)] → W p l e rm_MO_layLakes s m args below meth c H locs 0 0 Q (F0 m 111 ls []) := by
        clear hv9
        intro H locs ls hP hS hl
        refine lv_iinc (v := (y1 + 1)) (lv' := [(1, .int (y1 + 1)), (0, .ref (adr 63))]) hx hb d_MO_layLakes_111 hl (k := 1) rfl rfl (by decide) rfl (fun ls hl => ?_)
        refine lv_goto (tgt := 38) hx hb d_MO_layLakes_114 (by decide) ?_
        exact ih _ _ hf hP hS (lv_sub hl [1, 0] rfl)
      clear hf
      have hf := hv9
      clear hv9
      refine lv_icmp_eq (tgt := 111) hx hb d_MO_layLakes_103 (by decide) (fun hc => ?_) (fun hc => ?_)
      · replace hf := if_p hc hf
        obtain rfl := Option.some.inj hf
        exact hJ _ _ _ hP hS (lv_sub hl [0, 1] rfl)
      · replace hf := if_n hc hf
        refine lv_aload_n hx hb d_MO_layLakes_106 rfl (lv_at hl 0 rfl) ?_
        refine lv_iload_n hx hb d_MO_layLakes_107 rfl (lv_at hl 2 rfl) ?_
        replace hf := B_some hf
        obtain ⟨v10, hv10, hf⟩ := hf
        refine kw (kv (As := [.int v8]) (rest := []) ⟨hx, hb, hml, hown, hts⟩ (cw_MO_140 hts ⟨Nat.le_of_ble_eq_true rfl, Nat.le_of_ble_eq_true rfl⟩) (c_MO_goUnder l D adr cA μ ν v8 hv10) hG hP (rc_o (q := 63) (ci := 5) hG hP (by decide) (wc_M (by decide) rfl) rfl) rfl hl.1 (Nat.le_of_ble_eq_true rfl) d_MO_layLakes_108) hS (fun H locs hP hS => ?_)
        obtain rfl := Option.some.inj hf
        exact hJ _ _ _ hP hS (lv_sub hl [0, 1] rfl)
set_option maxHeartbeats 4000000 in
set_option maxRecDepth 100000 in
theorem w_MO_layLakes_L119   (C : Cx prog_7_method_21_code 4 "LakeReliefModel" (Option.none : Option Jvm.ClassFile.FieldType) p s m args meth c) (hG : Geo D adr cA s) (v : Mem) (hE : ∀ (H : Heap) (locs : List Loc) (ls : Array Slot), va_P D cls (wld adr cA μ v) H → va_S (AA adr) s.heap H locs → lv_has ls 4 [] → W p l e rm_MO_layLakes s m args below meth c H locs 0 0 Q (F0 m 153 ls [])) : ∀ (n : Nat) (ν : Mem) (y1 : Int32), f_MO_layLakes_L119 n ν y1 = some v → ∀ {H : Heap} {locs : List Loc} {ls : Array Slot}, va_P D cls (wld adr cA μ ν) H → va_S (AA adr) s.heap H locs → lv_has ls 4 [(0, .ref (adr 63)), (1, .int y1)] → W p l e rm_MO_layLakes s m args below meth c H locs 0 0 Q (F0 m 119 ls []) := by
  obtain ⟨hx, hb, hml, hown, hts, hr, hlocks⟩ := id C
  intro n
  induction n with
  | zero => intro ν y1 hf; rw [f_MO_layLakes_L119.eq_1] at hf; cases hf
  | succ n ih =>
    intro ν y1 hf H locs ls hP hS hl
    rw [f_MO_layLakes_L119.eq_2] at hf
    refine lv_iload_n hx hb d_MO_layLakes_119 rfl (lv_at hl 1 rfl) ?_
    refine lv_aload_n hx hb d_MO_layLakes_120 rfl (lv_at hl 0 rfl) ?_
    refine g_MO_lakes hx hb hts hown hG hP (hts _ in_572) d_MO_layLakes_121 ?_
    refine lv_icmp_ge (tgt := 153) hx hb d_MO_layLakes_124 (by decide) (fun hc => ?_) (fun hc => ?_)
    · replace hf := if_p hc hf
      obtain rfl := Option.some.inj hf
      exact hE _ _ _ hP hS (lv_sub hl [] rfl)
    · replace hf := if_n hc hf
      refine lv_aload_n hx hb d_MO_layLakes_127 rfl (lv_at hl 0 rfl) ?_
      refine g_MO_isThere hx hb hts hown hG hP (hts _ in_579) d_MO_layLakes_128 ?_
      refine lv_iload_n hx hb d_MO_layLakes_131 rfl (lv_at hl 1 rfl) ?_
      refine lv_aload_n hx hb d_MO_layLakes_132 rfl (lv_at hl 0 rfl) ?_
      refine g_MO_isDouble hx hb hts hown hG hP (hts _ in_573) d_MO_layLakes_133 ?_
      refine lv_iload_n hx hb d_MO_layLakes_136 rfl (lv_at hl 1 rfl) ?_
      replace hf := G_some hf
      obtain ⟨hi12, hf⟩ := hf
      refine r_zald hx hb hG hP 72 64 (f := ν.1 72) (by decide) (wc_M (by decide) rfl) hi12 d_MO_layLakes_137 ?_
      replace hf := B_some hf
      obtain ⟨v13, hv13, hf⟩ := hf
      have hJ : ∀ (H : Heap) (locs : List Loc) (ls : Array Slot), va_P D cls (wld adr cA μ ν) H → va_S (AA adr) s.heap H locs → lv_has ls 4 [(0, .ref (adr 63)), (1, .int y1)] → W p l e rm_MO_layLakes s m args below meth c H locs 0 0 Q (F0 m 146 ls [.int v13, .int y1, .ref (adr 78)]) := by
        clear hv13
        intro H locs ls hP hS hl
        replace hf := G_some hf
        obtain ⟨hi14, hf⟩ := hf
        refine rM_zast hx hb hG hP hS 78 64 (by decide) (by decide) (fun _ _ => rfl) hi14 d_MO_layLakes_146 (fun H locs hP hS => ?_)
        refine lv_iinc (v := (y1 + 1)) (lv' := [(1, .int (y1 + 1)), (0, .ref (adr 63))]) hx hb d_MO_layLakes_147 hl (k := 1) rfl rfl (by decide) rfl (fun ls hl => ?_)
        refine lv_goto (tgt := 119) hx hb d_MO_layLakes_150 (by decide) ?_
        exact ih _ _ hf hP hS (lv_sub hl [1, 0] rfl)
      clear hf
      have hf := hv13
      clear hv13
      refine lv_if_ne (tgt := 145) hx hb d_MO_layLakes_138 (by decide) (fun hc => ?_) (fun hc => ?_)
      · replace hf := if_n hc hf
        refine lv_iconst (v := 0) hx hb d_MO_layLakes_145 (by decide) ?_
        obtain rfl := Option.some.inj hf
        exact hJ _ _ _ hP hS (lv_sub hl [0, 1] rfl)
      · replace hf := if_p hc hf
        refine lv_iconst (v := 1) hx hb d_MO_layLakes_141 (by decide) ?_
        refine lv_goto (tgt := 146) hx hb d_MO_layLakes_142 (by decide) ?_
        obtain rfl := Option.some.inj hf
        exact hJ _ _ _ hP hS (lv_sub hl [0, 1] rfl)
set_option maxHeartbeats 4000000 in
set_option maxRecDepth 100000 in
theorem w_MO_layLakes   (C : Cx prog_7_method_21_code 4 "LakeReliefModel" (Option.none : Option Jvm.ClassFile.FieldType) p s m args meth c) (hG : Geo D adr cA s) {res : Mem} (hf : f_MO_layLakes ν  = some res) (hq : ∀ (pc : Nat) (ls : Array Slot) (H : Heap) (locs : List Loc), decode prog_7_method_21_code pc = .ok (.return_, 1) → va_P D cls (wld adr cA μ res) H → va_S (AA adr) s.heap H locs → W p l e rm_MO_layLakes s m args below meth c H locs 0 0 Q (F0 m pc ls [])) {H : Heap} {locs : List Loc} {ls : Array Slot} (hP : va_P D cls (wld adr cA μ ν) H) (hS : va_S (AA adr) s.heap H locs) (hl : lv_has ls 4 [(0, .ref (adr 63))]) : W p l e rm_MO_layLakes s m args below meth c H locs 0 0 Q (F0 m 0 ls []) := by
  obtain ⟨hx, hb, hml, hown, hts, hr, hlocks⟩ := id C
  unfold f_MO_layLakes at hf
  refine lv_aload_n hx hb d_MO_layLakes_0 rfl (lv_at hl 0 rfl) ?_
  refine lv_iconst (v := 0) hx hb d_MO_layLakes_1 (by decide) ?_
  refine p_MO_lakes hx hb hts hown hG hP hS (hts _ in_572) d_MO_layLakes_2 (fun H locs hP hS => ?_)
  refine lv_iconst (v := 0) hx hb d_MO_layLakes_5 (by decide) ?_
  refine lv_istore_n (lv' := [(1, .int 0), (0, .ref (adr 63))]) hx hb d_MO_layLakes_6 rfl hl (by decide) rfl (fun ls hl => ?_)
  replace hf := B_some hf
  obtain ⟨v3, hv3, hf⟩ := hf
  refine w_MO_layLakes_L7   C hG v3 ?_ FU _ _ hv3 hP hS (lv_sub hl [1, 0] rfl)
  clear hv3 hP hS hl
  intro H locs ls hP hS hl
  refine lv_iconst (v := 0) hx hb d_MO_layLakes_36 (by decide) ?_
  refine lv_istore_n (lv' := [(1, .int 0), (0, .ref (adr 63))]) hx hb d_MO_layLakes_37 rfl hl (by decide) rfl (fun ls hl => ?_)
  replace hf := B_some hf
  obtain ⟨v11, hv11, hf⟩ := hf
  refine w_MO_layLakes_L38   C hG v11 ?_ FU _ _ hv11 hP hS (lv_sub hl [1, 0] rfl)
  clear hv11 hP hS hl
  intro H locs ls hP hS hl
  refine lv_iconst (v := 0) hx hb d_MO_layLakes_117 (by decide) ?_
  refine lv_istore_n (lv' := [(1, .int 0), (0, .ref (adr 63))]) hx hb d_MO_layLakes_118 rfl hl (by decide) rfl (fun ls hl => ?_)
  replace hf := B_some hf
  obtain ⟨v15, hv15, hf⟩ := hf
  refine w_MO_layLakes_L119   C hG v15 ?_ FU _ _ hv15 hP hS (lv_sub hl [1, 0] rfl)
  clear hv15 hP hS hl
  intro H locs ls hP hS hl
  obtain rfl := Option.some.inj hf
  exact hq _ _ _ _ d_MO_layLakes_153 hP hS
theorem c_MO_layLakes (l : Launch) (D : va_G) (adr : Nat → Nat) (cA : Nat → ClassId) (μ ν : Mem)   {res : Mem} (hf : f_MO_layLakes ν  = some res) : Met l y_MO_layLakes (Cond.code y_MO_layLakes prog_7_method_21_code 4 (Option.none : Option Jvm.ClassFile.FieldType) :: lw_ok) rm_MO_layLakes (va_Pc [.ref (adr 63)] (Wd D adr cA μ ν)) (QV D adr cA μ res) 0 0 (AA adr) :=
  met_of (own := "LakeReliefModel") rfl rfl (Nat.le_of_ble_eq_true rfl) (fun p e s m below meth c C hG hP hS ls hl => w_MO_layLakes   C hG hf (fun pc ls H locs hd hP hS => ret_v C.1 C.2.1 C.2.2.2.2.2.1 C.2.2.2.2.2.2 hG hd hP hS) hP hS hl)
end X_MO_layLakes
section X_MO_stripAt
variable {p : Program} {l : Launch} {e : Env} {s : State} {m : MethodId} {args : Array Value} {below : List Frame} {meth : Method} {c : Code} {Q : State → Prop}
variable {D : va_G} {adr : Nat → Nat} {cA : Nat → ClassId} {μ ν : Mem}
theorem d_MO_stripAt_0 : decode prog_7_method_22_code 0 = .ok (.aload_n 0, 1) := by decide +kernel
theorem d_MO_stripAt_1 : decode prog_7_method_22_code 1 = .ok (.getfield 16, 3) := by decide +kernel
theorem d_MO_stripAt_4 : decode prog_7_method_22_code 4 = .ok (.bipush 12, 2) := by decide +kernel
theorem d_MO_stripAt_6 : decode prog_7_method_22_code 6 = .ok (.iload_n 1, 1) := by decide +kernel
theorem d_MO_stripAt_7 : decode prog_7_method_22_code 7 = .ok (.imul, 1) := by decide +kernel
theorem d_MO_stripAt_8 : decode prog_7_method_22_code 8 = .ok (.iload_n 2, 1) := by decide +kernel
theorem d_MO_stripAt_9 : decode prog_7_method_22_code 9 = .ok (.iadd, 1) := by decide +kernel
theorem d_MO_stripAt_10 : decode prog_7_method_22_code 10 = .ok (.iaload, 1) := by decide +kernel
theorem d_MO_stripAt_11 : decode prog_7_method_22_code 11 = .ok (.ireturn, 1) := by decide +kernel
set_option maxHeartbeats 4000000 in
set_option maxRecDepth 100000 in
theorem w_MO_stripAt (x1 : Int32) (x2 : Int32)  (C : Cx prog_7_method_22_code 3 "LakeReliefModel" (Option.some Jvm.ClassFile.FieldType.int) p s m args meth c) (hG : Geo D adr cA s) {res : Int32} (hf : f_MO_stripAt ν x1 x2 = some res) (hq : ∀ (pc : Nat) (ls : Array Slot) (H : Heap) (locs : List Loc), decode prog_7_method_22_code pc = .ok (.ireturn, 1) → va_P D cls (wld adr cA μ ν) H → va_S (AA adr) s.heap H locs → W p l e rm_MO_stripAt s m args below meth c H locs 0 0 Q (F0 m pc ls [.int res])) {H : Heap} {locs : List Loc} {ls : Array Slot} (hP : va_P D cls (wld adr cA μ ν) H) (hS : va_S (AA adr) s.heap H locs) (hl : lv_has ls 3 [(0, .ref (adr 63)), (1, .int x1), (2, .int x2)]) : W p l e rm_MO_stripAt s m args below meth c H locs 0 0 Q (F0 m 0 ls []) := by
  obtain ⟨hx, hb, hml, hown, hts, hr, hlocks⟩ := id C
  unfold f_MO_stripAt at hf
  refine lv_aload_n hx hb d_MO_stripAt_0 rfl (lv_at hl 0 rfl) ?_
  refine g_MO_strips hx hb hts hown hG hP (hts _ in_563) d_MO_stripAt_1 ?_
  refine lv_bipush (v := 12) hx hb d_MO_stripAt_4 (by decide) ?_
  refine lv_iload_n hx hb d_MO_stripAt_6 rfl (lv_at hl 1 rfl) ?_
  refine lv_imul hx hb d_MO_stripAt_7 ?_
  refine lv_iload_n hx hb d_MO_stripAt_8 rfl (lv_at hl 2 rfl) ?_
  refine lv_iadd hx hb d_MO_stripAt_9 ?_
  replace hf := G_some hf
  obtain ⟨hi1, hf⟩ := hf
  refine r_iald hx hb hG hP 66 96 (f := ν.1 66) (by decide) (wc_M (by decide) rfl) hi1 d_MO_stripAt_10 ?_
  obtain rfl := Option.some.inj hf
  exact hq _ _ _ _ d_MO_stripAt_11 hP hS
theorem c_MO_stripAt (l : Launch) (D : va_G) (adr : Nat → Nat) (cA : Nat → ClassId) (μ ν : Mem) (x1 : Int32) (x2 : Int32)  {res : Int32} (hf : f_MO_stripAt ν x1 x2 = some res) : Met l y_MO_stripAt (Cond.code y_MO_stripAt prog_7_method_22_code 3 (Option.some Jvm.ClassFile.FieldType.int) :: lw_ok) rm_MO_stripAt (va_Pc [.ref (adr 63), .int x1, .int x2] (Wd D adr cA μ ν)) (QI D adr cA res μ ν) 0 0 (AA adr) :=
  met_of (own := "LakeReliefModel") rfl rfl (Nat.le_of_ble_eq_true rfl) (fun p e s m below meth c C hG hP hS ls hl => w_MO_stripAt x1 x2  C hG hf (fun pc ls H locs hd hP hS => ret_i C.1 C.2.1 C.2.2.2.2.2.1 C.2.2.2.2.2.2 hG hd hP hS) hP hS hl)
end X_MO_stripAt
section X_MO_isPlace
variable {p : Program} {l : Launch} {e : Env} {s : State} {m : MethodId} {args : Array Value} {below : List Frame} {meth : Method} {c : Code} {Q : State → Prop}
variable {D : va_G} {adr : Nat → Nat} {cA : Nat → ClassId} {μ ν : Mem}
theorem d_MO_isPlace_0 : decode prog_7_method_23_code 0 = .ok (.aload_n 0, 1) := by decide +kernel
theorem d_MO_isPlace_1 : decode prog_7_method_23_code 1 = .ok (.getfield 7, 3) := by decide +kernel
theorem d_MO_isPlace_4 : decode prog_7_method_23_code 4 = .ok (.iload_n 1, 1) := by decide +kernel
theorem d_MO_isPlace_5 : decode prog_7_method_23_code 5 = .ok (.iaload, 1) := by decide +kernel
theorem d_MO_isPlace_6 : decode prog_7_method_23_code 6 = .ok (.ifCond .lt 17, 3) := by decide +kernel
theorem d_MO_isPlace_9 : decode prog_7_method_23_code 9 = .ok (.iload_n 2, 1) := by decide +kernel
theorem d_MO_isPlace_10 : decode prog_7_method_23_code 10 = .ok (.aload_n 0, 1) := by decide +kernel
theorem d_MO_isPlace_11 : decode prog_7_method_23_code 11 = .ok (.getfield 13, 3) := by decide +kernel
theorem d_MO_isPlace_14 : decode prog_7_method_23_code 14 = .ok (.iload_n 1, 1) := by decide +kernel
theorem d_MO_isPlace_15 : decode prog_7_method_23_code 15 = .ok (.iaload, 1) := by decide +kernel
theorem d_MO_isPlace_16 : decode prog_7_method_23_code 16 = .ok (.if_icmp .ge 7, 3) := by decide +kernel
theorem d_MO_isPlace_19 : decode prog_7_method_23_code 19 = .ok (.iconst 1, 1) := by decide +kernel
theorem d_MO_isPlace_20 : decode prog_7_method_23_code 20 = .ok (.goto 4, 3) := by decide +kernel
theorem d_MO_isPlace_23 : decode prog_7_method_23_code 23 = .ok (.iconst 0, 1) := by decide +kernel
theorem d_MO_isPlace_24 : decode prog_7_method_23_code 24 = .ok (.ireturn, 1) := by decide +kernel
set_option maxHeartbeats 4000000 in
set_option maxRecDepth 100000 in
theorem w_MO_isPlace (x1 : Int32) (x2 : Int32)  (C : Cx prog_7_method_23_code 3 "LakeReliefModel" (Option.some Jvm.ClassFile.FieldType.boolean) p s m args meth c) (hG : Geo D adr cA s) {res : Int32} (hf : f_MO_isPlace ν x1 x2 = some res) (hq : ∀ (pc : Nat) (ls : Array Slot) (H : Heap) (locs : List Loc), res &&& 1 = res → decode prog_7_method_23_code pc = .ok (.ireturn, 1) → va_P D cls (wld adr cA μ ν) H → va_S (AA adr) s.heap H locs → W p l e rm_MO_isPlace s m args below meth c H locs 0 0 Q (F0 m pc ls [.int res])) {H : Heap} {locs : List Loc} {ls : Array Slot} (hP : va_P D cls (wld adr cA μ ν) H) (hS : va_S (AA adr) s.heap H locs) (hl : lv_has ls 3 [(0, .ref (adr 63)), (1, .int x1), (2, .int x2)]) : W p l e rm_MO_isPlace s m args below meth c H locs 0 0 Q (F0 m 0 ls []) := by
  obtain ⟨hx, hb, hml, hown, hts, hr, hlocks⟩ := id C
  unfold f_MO_isPlace at hf
  refine lv_aload_n hx hb d_MO_isPlace_0 rfl (lv_at hl 0 rfl) ?_
  refine g_MO_kind hx hb hts hown hG hP (hts _ in_561) d_MO_isPlace_1 ?_
  refine lv_iload_n hx hb d_MO_isPlace_4 rfl (lv_at hl 1 rfl) ?_
  replace hf := G_some hf
  obtain ⟨hi1, hf⟩ := hf
  refine r_iald hx hb hG hP 64 8 (f := ν.1 64) (by decide) (wc_M (by decide) rfl) hi1 d_MO_isPlace_5 ?_
  refine lv_if_lt (tgt := 23) hx hb d_MO_isPlace_6 (by decide) (fun hc => ?_) (fun hc => ?_)
  · replace hf := if_p hc hf
    refine lv_iconst (v := 0) hx hb d_MO_isPlace_23 (by decide) ?_
    obtain rfl := Option.some.inj hf
    exact hq _ _ _ _ (by decide) d_MO_isPlace_24 hP hS
  · replace hf := if_n hc hf
    refine lv_iload_n hx hb d_MO_isPlace_9 rfl (lv_at hl 2 rfl) ?_
    refine lv_aload_n hx hb d_MO_isPlace_10 rfl (lv_at hl 0 rfl) ?_
    refine g_MO_size hx hb hts hown hG hP (hts _ in_562) d_MO_isPlace_11 ?_
    refine lv_iload_n hx hb d_MO_isPlace_14 rfl (lv_at hl 1 rfl) ?_
    replace hf := G_some hf
    obtain ⟨hi2, hf⟩ := hf
    refine r_iald hx hb hG hP 65 8 (f := ν.1 65) (by decide) (wc_M (by decide) rfl) hi2 d_MO_isPlace_15 ?_
    refine lv_icmp_ge (tgt := 23) hx hb d_MO_isPlace_16 (by decide) (fun hc => ?_) (fun hc => ?_)
    · replace hf := if_p hc hf
      refine lv_iconst (v := 0) hx hb d_MO_isPlace_23 (by decide) ?_
      obtain rfl := Option.some.inj hf
      exact hq _ _ _ _ (by decide) d_MO_isPlace_24 hP hS
    · replace hf := if_n hc hf
      refine lv_iconst (v := 1) hx hb d_MO_isPlace_19 (by decide) ?_
      refine lv_goto (tgt := 24) hx hb d_MO_isPlace_20 (by decide) ?_
      obtain rfl := Option.some.inj hf
      exact hq _ _ _ _ (by decide) d_MO_isPlace_24 hP hS
theorem c_MO_isPlace (l : Launch) (D : va_G) (adr : Nat → Nat) (cA : Nat → ClassId) (μ ν : Mem) (x1 : Int32) (x2 : Int32)  {res : Int32} (hf : f_MO_isPlace ν x1 x2 = some res) : Met l y_MO_isPlace (Cond.code y_MO_isPlace prog_7_method_23_code 3 (Option.some Jvm.ClassFile.FieldType.boolean) :: lw_ok) rm_MO_isPlace (va_Pc [.ref (adr 63), .int x1, .int x2] (Wd D adr cA μ ν)) (QI D adr cA res μ ν) 0 0 (AA adr) :=
  met_of (own := "LakeReliefModel") rfl rfl (Nat.le_of_ble_eq_true rfl) (fun p e s m below meth c C hG hP hS ls hl => w_MO_isPlace x1 x2  C hG hf (fun pc ls H locs hz hd hP hS => ret_z C.1 C.2.1 C.2.2.2.2.2.1 C.2.2.2.2.2.2 hG hz hd hP hS) hP hS hl)
end X_MO_isPlace
section X_MO_lay
variable {p : Program} {l : Launch} {e : Env} {s : State} {m : MethodId} {args : Array Value} {below : List Frame} {meth : Method} {c : Code} {Q : State → Prop}
variable {D : va_G} {adr : Nat → Nat} {cA : Nat → ClassId} {μ ν : Mem}
theorem d_MO_lay_0 : decode prog_7_method_24_code 0 = .ok (.iload_n 1, 1) := by decide +kernel
theorem d_MO_lay_1 : decode prog_7_method_24_code 1 = .ok (.i2l, 1) := by decide +kernel
theorem d_MO_lay_2 : decode prog_7_method_24_code 2 = .ok (.lconst 1, 1) := by decide +kernel
theorem d_MO_lay_3 : decode prog_7_method_24_code 3 = .ok (.ldc2_w 144, 3) := by decide +kernel
theorem d_MO_lay_6 : decode prog_7_method_24_code 6 = .ok (.invokestatic 80, 3) := by decide +kernel
theorem d_MO_lay_9 : decode prog_7_method_24_code 9 = .ok (.ifCond .eq 15, 3) := by decide +kernel
theorem d_MO_lay_12 : decode prog_7_method_24_code 12 = .ok (.iload_n 2, 1) := by decide +kernel
theorem d_MO_lay_13 : decode prog_7_method_24_code 13 = .ok (.i2l, 1) := by decide +kernel
theorem d_MO_lay_14 : decode prog_7_method_24_code 14 = .ok (.lconst 1, 1) := by decide +kernel
theorem d_MO_lay_15 : decode prog_7_method_24_code 15 = .ok (.ldc2_w 144, 3) := by decide +kernel
theorem d_MO_lay_18 : decode prog_7_method_24_code 18 = .ok (.invokestatic 80, 3) := by decide +kernel
theorem d_MO_lay_21 : decode prog_7_method_24_code 21 = .ok (.ifCond .ne 5, 3) := by decide +kernel
theorem d_MO_lay_24 : decode prog_7_method_24_code 24 = .ok (.iconst (-1), 1) := by decide +kernel
theorem d_MO_lay_25 : decode prog_7_method_24_code 25 = .ok (.ireturn, 1) := by decide +kernel
theorem d_MO_lay_26 : decode prog_7_method_24_code 26 = .ok (.iconst 0, 1) := by decide +kernel
theorem d_MO_lay_27 : decode prog_7_method_24_code 27 = .ok (.istore_n 3, 1) := by decide +kernel
theorem d_MO_lay_28 : decode prog_7_method_24_code 28 = .ok (.iload_n 3, 1) := by decide +kernel
theorem d_MO_lay_29 : decode prog_7_method_24_code 29 = .ok (.iload_n 2, 1) := by decide +kernel
theorem d_MO_lay_30 : decode prog_7_method_24_code 30 = .ok (.if_icmp .ge 56, 3) := by decide +kernel
theorem d_MO_lay_33 : decode prog_7_method_24_code 33 = .ok (.iconst 0, 1) := by decide +kernel
theorem d_MO_lay_34 : decode prog_7_method_24_code 34 = .ok (.istore 4, 2) := by decide +kernel
theorem d_MO_lay_36 : decode prog_7_method_24_code 36 = .ok (.iload 4, 2) := by decide +kernel
theorem d_MO_lay_38 : decode prog_7_method_24_code 38 = .ok (.iload_n 1, 1) := by decide +kernel
theorem d_MO_lay_39 : decode prog_7_method_24_code 39 = .ok (.if_icmp .ge 41, 3) := by decide +kernel
theorem d_MO_lay_42 : decode prog_7_method_24_code 42 = .ok (.aload_n 0, 1) := by decide +kernel
theorem d_MO_lay_43 : decode prog_7_method_24_code 43 = .ok (.iload_n 3, 1) := by decide +kernel
theorem d_MO_lay_44 : decode prog_7_method_24_code 44 = .ok (.iload 4, 2) := by decide +kernel
theorem d_MO_lay_46 : decode prog_7_method_24_code 46 = .ok (.invokevirtual 146, 3) := by decide +kernel
theorem d_MO_lay_49 : decode prog_7_method_24_code 49 = .ok (.ifCond .eq 25, 3) := by decide +kernel
theorem d_MO_lay_52 : decode prog_7_method_24_code 52 = .ok (.aload_n 0, 1) := by decide +kernel
theorem d_MO_lay_53 : decode prog_7_method_24_code 53 = .ok (.iload_n 3, 1) := by decide +kernel
theorem d_MO_lay_54 : decode prog_7_method_24_code 54 = .ok (.iload 4, 2) := by decide +kernel
theorem d_MO_lay_56 : decode prog_7_method_24_code 56 = .ok (.invokevirtual 149, 3) := by decide +kernel
theorem d_MO_lay_59 : decode prog_7_method_24_code 59 = .ok (.i2l, 1) := by decide +kernel
theorem d_MO_lay_60 : decode prog_7_method_24_code 60 = .ok (.ldc2_w 152, 3) := by decide +kernel
theorem d_MO_lay_63 : decode prog_7_method_24_code 63 = .ok (.ldc2_w 154, 3) := by decide +kernel
theorem d_MO_lay_66 : decode prog_7_method_24_code 66 = .ok (.invokestatic 80, 3) := by decide +kernel
theorem d_MO_lay_69 : decode prog_7_method_24_code 69 = .ok (.ifCond .ne 5, 3) := by decide +kernel
theorem d_MO_lay_72 : decode prog_7_method_24_code 72 = .ok (.iconst (-1), 1) := by decide +kernel
theorem d_MO_lay_73 : decode prog_7_method_24_code 73 = .ok (.ireturn, 1) := by decide +kernel
theorem d_MO_lay_74 : decode prog_7_method_24_code 74 = .ok (.iinc 4 1, 3) := by decide +kernel
theorem d_MO_lay_77 : decode prog_7_method_24_code 77 = .ok (.goto (-41), 3) := by decide +kernel
theorem d_MO_lay_80 : decode prog_7_method_24_code 80 = .ok (.iinc 3 1, 3) := by decide +kernel
theorem d_MO_lay_83 : decode prog_7_method_24_code 83 = .ok (.goto (-55), 3) := by decide +kernel
theorem d_MO_lay_86 : decode prog_7_method_24_code 86 = .ok (.aload_n 0, 1) := by decide +kernel
theorem d_MO_lay_87 : decode prog_7_method_24_code 87 = .ok (.iconst 1, 1) := by decide +kernel
theorem d_MO_lay_88 : decode prog_7_method_24_code 88 = .ok (.putfield 156, 3) := by decide +kernel
theorem d_MO_lay_91 : decode prog_7_method_24_code 91 = .ok (.aload_n 0, 1) := by decide +kernel
theorem d_MO_lay_92 : decode prog_7_method_24_code 92 = .ok (.iload_n 1, 1) := by decide +kernel
theorem d_MO_lay_93 : decode prog_7_method_24_code 93 = .ok (.putfield 98, 3) := by decide +kernel
theorem d_MO_lay_96 : decode prog_7_method_24_code 96 = .ok (.aload_n 0, 1) := by decide +kernel
theorem d_MO_lay_97 : decode prog_7_method_24_code 97 = .ok (.iload_n 1, 1) := by decide +kernel
theorem d_MO_lay_98 : decode prog_7_method_24_code 98 = .ok (.iload_n 2, 1) := by decide +kernel
theorem d_MO_lay_99 : decode prog_7_method_24_code 99 = .ok (.imul, 1) := by decide +kernel
theorem d_MO_lay_100 : decode prog_7_method_24_code 100 = .ok (.putfield 102, 3) := by decide +kernel
theorem d_MO_lay_103 : decode prog_7_method_24_code 103 = .ok (.iconst 0, 1) := by decide +kernel
theorem d_MO_lay_104 : decode prog_7_method_24_code 104 = .ok (.istore_n 3, 1) := by decide +kernel
theorem d_MO_lay_105 : decode prog_7_method_24_code 105 = .ok (.iconst 0, 1) := by decide +kernel
theorem d_MO_lay_106 : decode prog_7_method_24_code 106 = .ok (.istore 4, 2) := by decide +kernel
theorem d_MO_lay_108 : decode prog_7_method_24_code 108 = .ok (.iload 4, 2) := by decide +kernel
theorem d_MO_lay_110 : decode prog_7_method_24_code 110 = .ok (.aload_n 0, 1) := by decide +kernel
theorem d_MO_lay_111 : decode prog_7_method_24_code 111 = .ok (.getfield 102, 3) := by decide +kernel
theorem d_MO_lay_114 : decode prog_7_method_24_code 114 = .ok (.if_icmp .ge 87, 3) := by decide +kernel
theorem d_MO_lay_117 : decode prog_7_method_24_code 117 = .ok (.aload_n 0, 1) := by decide +kernel
theorem d_MO_lay_118 : decode prog_7_method_24_code 118 = .ok (.getfield 19, 3) := by decide +kernel
theorem d_MO_lay_121 : decode prog_7_method_24_code 121 = .ok (.iload 4, 2) := by decide +kernel
theorem d_MO_lay_123 : decode prog_7_method_24_code 123 = .ok (.aload_n 0, 1) := by decide +kernel
theorem d_MO_lay_124 : decode prog_7_method_24_code 124 = .ok (.iload 4, 2) := by decide +kernel
theorem d_MO_lay_126 : decode prog_7_method_24_code 126 = .ok (.iload_n 1, 1) := by decide +kernel
theorem d_MO_lay_127 : decode prog_7_method_24_code 127 = .ok (.idiv, 1) := by decide +kernel
theorem d_MO_lay_128 : decode prog_7_method_24_code 128 = .ok (.iload 4, 2) := by decide +kernel
theorem d_MO_lay_130 : decode prog_7_method_24_code 130 = .ok (.iload_n 1, 1) := by decide +kernel
theorem d_MO_lay_131 : decode prog_7_method_24_code 131 = .ok (.irem, 1) := by decide +kernel
theorem d_MO_lay_132 : decode prog_7_method_24_code 132 = .ok (.invokevirtual 146, 3) := by decide +kernel
theorem d_MO_lay_135 : decode prog_7_method_24_code 135 = .ok (.ifCond .ne 7, 3) := by decide +kernel
theorem d_MO_lay_138 : decode prog_7_method_24_code 138 = .ok (.iconst 1, 1) := by decide +kernel
theorem d_MO_lay_139 : decode prog_7_method_24_code 139 = .ok (.goto 4, 3) := by decide +kernel
theorem d_MO_lay_142 : decode prog_7_method_24_code 142 = .ok (.iconst 0, 1) := by decide +kernel
theorem d_MO_lay_143 : decode prog_7_method_24_code 143 = .ok (.bastore, 1) := by decide +kernel
theorem d_MO_lay_144 : decode prog_7_method_24_code 144 = .ok (.aload_n 0, 1) := by decide +kernel
theorem d_MO_lay_145 : decode prog_7_method_24_code 145 = .ok (.getfield 23, 3) := by decide +kernel
theorem d_MO_lay_148 : decode prog_7_method_24_code 148 = .ok (.iload 4, 2) := by decide +kernel
theorem d_MO_lay_150 : decode prog_7_method_24_code 150 = .ok (.aload_n 0, 1) := by decide +kernel
theorem d_MO_lay_151 : decode prog_7_method_24_code 151 = .ok (.getfield 19, 3) := by decide +kernel
theorem d_MO_lay_154 : decode prog_7_method_24_code 154 = .ok (.iload 4, 2) := by decide +kernel
theorem d_MO_lay_156 : decode prog_7_method_24_code 156 = .ok (.baload, 1) := by decide +kernel
theorem d_MO_lay_157 : decode prog_7_method_24_code 157 = .ok (.ifCond .eq 7, 3) := by decide +kernel
theorem d_MO_lay_160 : decode prog_7_method_24_code 160 = .ok (.iconst 0, 1) := by decide +kernel
theorem d_MO_lay_161 : decode prog_7_method_24_code 161 = .ok (.goto 15, 3) := by decide +kernel
theorem d_MO_lay_164 : decode prog_7_method_24_code 164 = .ok (.aload_n 0, 1) := by decide +kernel
theorem d_MO_lay_165 : decode prog_7_method_24_code 165 = .ok (.iload 4, 2) := by decide +kernel
theorem d_MO_lay_167 : decode prog_7_method_24_code 167 = .ok (.iload_n 1, 1) := by decide +kernel
theorem d_MO_lay_168 : decode prog_7_method_24_code 168 = .ok (.idiv, 1) := by decide +kernel
theorem d_MO_lay_169 : decode prog_7_method_24_code 169 = .ok (.iload 4, 2) := by decide +kernel
theorem d_MO_lay_171 : decode prog_7_method_24_code 171 = .ok (.iload_n 1, 1) := by decide +kernel
theorem d_MO_lay_172 : decode prog_7_method_24_code 172 = .ok (.irem, 1) := by decide +kernel
theorem d_MO_lay_173 : decode prog_7_method_24_code 173 = .ok (.invokevirtual 149, 3) := by decide +kernel
theorem d_MO_lay_176 : decode prog_7_method_24_code 176 = .ok (.iastore, 1) := by decide +kernel
theorem d_MO_lay_177 : decode prog_7_method_24_code 177 = .ok (.iload_n 3, 1) := by decide +kernel
theorem d_MO_lay_178 : decode prog_7_method_24_code 178 = .ok (.aload_n 0, 1) := by decide +kernel
theorem d_MO_lay_179 : decode prog_7_method_24_code 179 = .ok (.getfield 19, 3) := by decide +kernel
theorem d_MO_lay_182 : decode prog_7_method_24_code 182 = .ok (.iload 4, 2) := by decide +kernel
theorem d_MO_lay_184 : decode prog_7_method_24_code 184 = .ok (.baload, 1) := by decide +kernel
theorem d_MO_lay_185 : decode prog_7_method_24_code 185 = .ok (.ifCond .eq 7, 3) := by decide +kernel
theorem d_MO_lay_188 : decode prog_7_method_24_code 188 = .ok (.iconst 0, 1) := by decide +kernel
theorem d_MO_lay_189 : decode prog_7_method_24_code 189 = .ok (.goto 4, 3) := by decide +kernel
theorem d_MO_lay_192 : decode prog_7_method_24_code 192 = .ok (.iconst 1, 1) := by decide +kernel
theorem d_MO_lay_193 : decode prog_7_method_24_code 193 = .ok (.iadd, 1) := by decide +kernel
theorem d_MO_lay_194 : decode prog_7_method_24_code 194 = .ok (.istore_n 3, 1) := by decide +kernel
theorem d_MO_lay_195 : decode prog_7_method_24_code 195 = .ok (.iinc 4 1, 3) := by decide +kernel
theorem d_MO_lay_198 : decode prog_7_method_24_code 198 = .ok (.goto (-90), 3) := by decide +kernel
theorem d_MO_lay_201 : decode prog_7_method_24_code 201 = .ok (.iconst 0, 1) := by decide +kernel
theorem d_MO_lay_202 : decode prog_7_method_24_code 202 = .ok (.istore 4, 2) := by decide +kernel
theorem d_MO_lay_204 : decode prog_7_method_24_code 204 = .ok (.iload 4, 2) := by decide +kernel
theorem d_MO_lay_206 : decode prog_7_method_24_code 206 = .ok (.aload_n 0, 1) := by decide +kernel
theorem d_MO_lay_207 : decode prog_7_method_24_code 207 = .ok (.getfield 102, 3) := by decide +kernel
theorem d_MO_lay_210 : decode prog_7_method_24_code 210 = .ok (.if_icmp .ge 25, 3) := by decide +kernel
theorem d_MO_lay_213 : decode prog_7_method_24_code 213 = .ok (.aload_n 0, 1) := by decide +kernel
theorem d_MO_lay_214 : decode prog_7_method_24_code 214 = .ok (.getfield 19, 3) := by decide +kernel
theorem d_MO_lay_217 : decode prog_7_method_24_code 217 = .ok (.iload 4, 2) := by decide +kernel
theorem d_MO_lay_219 : decode prog_7_method_24_code 219 = .ok (.baload, 1) := by decide +kernel
theorem d_MO_lay_220 : decode prog_7_method_24_code 220 = .ok (.ifCond .ne 9, 3) := by decide +kernel
theorem d_MO_lay_223 : decode prog_7_method_24_code 223 = .ok (.aload_n 0, 1) := by decide +kernel
theorem d_MO_lay_224 : decode prog_7_method_24_code 224 = .ok (.iload 4, 2) := by decide +kernel
theorem d_MO_lay_226 : decode prog_7_method_24_code 226 = .ok (.invokevirtual 160, 3) := by decide +kernel
theorem d_MO_lay_229 : decode prog_7_method_24_code 229 = .ok (.iinc 4 1, 3) := by decide +kernel
theorem d_MO_lay_232 : decode prog_7_method_24_code 232 = .ok (.goto (-28), 3) := by decide +kernel
theorem d_MO_lay_235 : decode prog_7_method_24_code 235 = .ok (.iconst 0, 1) := by decide +kernel
theorem d_MO_lay_236 : decode prog_7_method_24_code 236 = .ok (.istore 4, 2) := by decide +kernel
theorem d_MO_lay_238 : decode prog_7_method_24_code 238 = .ok (.iload 4, 2) := by decide +kernel
theorem d_MO_lay_240 : decode prog_7_method_24_code 240 = .ok (.aload_n 0, 1) := by decide +kernel
theorem d_MO_lay_241 : decode prog_7_method_24_code 241 = .ok (.getfield 102, 3) := by decide +kernel
theorem d_MO_lay_244 : decode prog_7_method_24_code 244 = .ok (.if_icmp .ge 37, 3) := by decide +kernel
theorem d_MO_lay_247 : decode prog_7_method_24_code 247 = .ok (.aload_n 0, 1) := by decide +kernel
theorem d_MO_lay_248 : decode prog_7_method_24_code 248 = .ok (.getfield 29, 3) := by decide +kernel
theorem d_MO_lay_251 : decode prog_7_method_24_code 251 = .ok (.iload 4, 2) := by decide +kernel
theorem d_MO_lay_253 : decode prog_7_method_24_code 253 = .ok (.aload_n 0, 1) := by decide +kernel
theorem d_MO_lay_254 : decode prog_7_method_24_code 254 = .ok (.getfield 19, 3) := by decide +kernel
theorem d_MO_lay_257 : decode prog_7_method_24_code 257 = .ok (.iload 4, 2) := by decide +kernel
theorem d_MO_lay_259 : decode prog_7_method_24_code 259 = .ok (.baload, 1) := by decide +kernel
theorem d_MO_lay_260 : decode prog_7_method_24_code 260 = .ok (.ifCond .eq 8, 3) := by decide +kernel
theorem d_MO_lay_263 : decode prog_7_method_24_code 263 = .ok (.bipush (-5), 2) := by decide +kernel
theorem d_MO_lay_265 : decode prog_7_method_24_code 265 = .ok (.goto 9, 3) := by decide +kernel
theorem d_MO_lay_268 : decode prog_7_method_24_code 268 = .ok (.aload_n 0, 1) := by decide +kernel
theorem d_MO_lay_269 : decode prog_7_method_24_code 269 = .ok (.iload 4, 2) := by decide +kernel
theorem d_MO_lay_271 : decode prog_7_method_24_code 271 = .ok (.invokevirtual 163, 3) := by decide +kernel
theorem d_MO_lay_274 : decode prog_7_method_24_code 274 = .ok (.iastore, 1) := by decide +kernel
theorem d_MO_lay_275 : decode prog_7_method_24_code 275 = .ok (.iinc 4 1, 3) := by decide +kernel
theorem d_MO_lay_278 : decode prog_7_method_24_code 278 = .ok (.goto (-40), 3) := by decide +kernel
theorem d_MO_lay_281 : decode prog_7_method_24_code 281 = .ok (.aload_n 0, 1) := by decide +kernel
theorem d_MO_lay_282 : decode prog_7_method_24_code 282 = .ok (.invokevirtual 167, 3) := by decide +kernel
theorem d_MO_lay_285 : decode prog_7_method_24_code 285 = .ok (.aload_n 0, 1) := by decide +kernel
theorem d_MO_lay_286 : decode prog_7_method_24_code 286 = .ok (.invokevirtual 170, 3) := by decide +kernel
theorem d_MO_lay_289 : decode prog_7_method_24_code 289 = .ok (.aload_n 0, 1) := by decide +kernel
theorem d_MO_lay_290 : decode prog_7_method_24_code 290 = .ok (.lconst 0, 1) := by decide +kernel
theorem d_MO_lay_291 : decode prog_7_method_24_code 291 = .ok (.putfield 173, 3) := by decide +kernel
theorem d_MO_lay_294 : decode prog_7_method_24_code 294 = .ok (.aload_n 0, 1) := by decide +kernel
theorem d_MO_lay_295 : decode prog_7_method_24_code 295 = .ok (.lconst 0, 1) := by decide +kernel
theorem d_MO_lay_296 : decode prog_7_method_24_code 296 = .ok (.putfield 177, 3) := by decide +kernel
theorem d_MO_lay_299 : decode prog_7_method_24_code 299 = .ok (.iload_n 3, 1) := by decide +kernel
theorem d_MO_lay_300 : decode prog_7_method_24_code 300 = .ok (.ireturn, 1) := by decide +kernel
set_option maxHeartbeats 4000000 in
set_option maxRecDepth 100000 in
theorem w_MO_lay_L36 (y1 : Int32) (y2 : Int32) (y3 : Int32)  (C : Cx prog_7_method_24_code 5 "LakeReliefModel" (Option.some Jvm.ClassFile.FieldType.int) p s m args meth c) (hG : Geo D adr cA s) (K : Unit → Option (Int32 × Mem)) {res : Int32 × Mem} (hq : ∀ (pc : Nat) (ls : Array Slot) (H : Heap) (locs : List Loc), decode prog_7_method_24_code pc = .ok (.ireturn, 1) → va_P D cls (wld adr cA μ res.2) H → va_S (AA adr) s.heap H locs → W p l e rm_MO_lay s m args below meth c H locs 0 0 Q (F0 m pc ls [.int res.1])) (hE : ∀ (u : Unit), K u = some res → ∀ (H : Heap) (locs : List Loc) (ls : Array Slot), va_P D cls (wld adr cA μ ν) H → va_S (AA adr) s.heap H locs → lv_has ls 5 [(0, .ref (adr 63)), (1, .int y1), (2, .int y2), (3, .int y3)] → W p l e rm_MO_lay s m args below meth c H locs 0 0 Q (F0 m 80 ls [])) : ∀ (n : Nat) (y4 : Int32), f_MO_lay_L36 ν y1 y2 y3 K n y4 = some res → ∀ {H : Heap} {locs : List Loc} {ls : Array Slot}, va_P D cls (wld adr cA μ ν) H → va_S (AA adr) s.heap H locs → lv_has ls 5 [(0, .ref (adr 63)), (1, .int y1), (2, .int y2), (3, .int y3), (4, .int y4)] → W p l e rm_MO_lay s m args below meth c H locs 0 0 Q (F0 m 36 ls []) := by
  obtain ⟨hx, hb, hml, hown, hts, hr, hlocks⟩ := id C
  intro n
  induction n with
  | zero => intro y4 hf; rw [f_MO_lay_L36.eq_1] at hf; cases hf
  | succ n ih =>
    intro y4 hf H locs ls hP hS hl
    rw [f_MO_lay_L36.eq_2] at hf
    refine lv_iload hx hb d_MO_lay_36 (lv_at hl 4 rfl) ?_
    refine lv_iload_n hx hb d_MO_lay_38 rfl (lv_at hl 1 rfl) ?_
    refine lv_icmp_ge (tgt := 80) hx hb d_MO_lay_39 (by decide) (fun hc => ?_) (fun hc => ?_)
    · replace hf := if_p hc hf
      exact hE _ hf _ _ _ hP hS (lv_sub hl [0, 1, 2, 3] rfl)
    · replace hf := if_n hc hf
      refine lv_aload_n hx hb d_MO_lay_42 rfl (lv_at hl 0 rfl) ?_
      refine lv_iload_n hx hb d_MO_lay_43 rfl (lv_at hl 3 rfl) ?_
      refine lv_iload hx hb d_MO_lay_44 (lv_at hl 4 rfl) ?_
      replace hf := B_some hf
      obtain ⟨v1, hv1, hf⟩ := hf
      refine ki (kv (As := [.int y3, .int y4]) (rest := []) ⟨hx, hb, hml, hown, hts⟩ (cw_MO_146 hts ⟨Nat.le_of_ble_eq_true rfl, Nat.le_of_ble_eq_true rfl⟩) (c_MO_isPlace l D adr cA μ ν y3 y4 hv1) hG hP (rc_o (q := 63) (ci := 5) hG hP (by decide) (wc_M (by decide) rfl) rfl) rfl hl.1 (Nat.le_of_ble_eq_true rfl) d_MO_lay_46) hS (fun H locs hP hS => ?_)
      refine lv_if_eq (tgt := 74) hx hb d_MO_lay_49 (by decide) (fun hc => ?_) (fun hc => ?_)
      · replace hf := if_p hc hf
        refine lv_iinc (v := (y4 + 1)) (lv' := [(4, .int (y4 + 1)), (0, .ref (adr 63)), (1, .int y1), (2, .int y2), (3, .int y3)]) hx hb d_MO_lay_74 hl (k := 4) rfl rfl (by decide) rfl (fun ls hl => ?_)
        refine lv_goto (tgt := 36) hx hb d_MO_lay_77 (by decide) ?_
        exact ih _ hf hP hS (lv_sub hl [1, 2, 3, 4, 0] rfl)
      · replace hf := if_n hc hf
        refine lv_aload_n hx hb d_MO_lay_52 rfl (lv_at hl 0 rfl) ?_
        refine lv_iload_n hx hb d_MO_lay_53 rfl (lv_at hl 3 rfl) ?_
        refine lv_iload hx hb d_MO_lay_54 (lv_at hl 4 rfl) ?_
        replace hf := B_some hf
        obtain ⟨v2, hv2, hf⟩ := hf
        refine ki (kv (As := [.int y3, .int y4]) (rest := []) ⟨hx, hb, hml, hown, hts⟩ (cw_MO_149 hts ⟨Nat.le_of_ble_eq_true rfl, Nat.le_of_ble_eq_true rfl⟩) (c_MO_stripAt l D adr cA μ ν y3 y4 hv2) hG hP (rc_o (q := 63) (ci := 5) hG hP (by decide) (wc_M (by decide) rfl) rfl) rfl hl.1 (Nat.le_of_ble_eq_true rfl) d_MO_lay_56) hS (fun H locs hP hS => ?_)
        refine lv_i2l hx hb d_MO_lay_59 rfl ?_
        refine lv_ldc2 (v := (-1000000)) hx hb hown (hts _ in_694) d_MO_lay_60 ?_
        refine lv_ldc2 (v := 1000000) hx hb hown (hts _ in_695) d_MO_lay_63 ?_
        refine ki (ks (As := [.long v2.toInt64, .long (-1000000), .long 1000000]) (rest := []) ⟨hx, hb, hml, hown, hts⟩ (cw_MO_80 hts ⟨Nat.le_of_ble_eq_true rfl, Nat.le_of_ble_eq_true rfl⟩) (c_MO_in l D adr cA μ ν v2.toInt64 (-1000000) 1000000) hG hP rfl hl.1 (Nat.le_of_ble_eq_true rfl) d_MO_lay_66) hS (fun H locs hP hS => ?_)
        refine lv_if_ne (tgt := 74) hx hb d_MO_lay_69 (by decide) (fun hc => ?_) (fun hc => ?_)
        · replace hf := if_n hc hf
          refine lv_iinc (v := (y4 + 1)) (lv' := [(4, .int (y4 + 1)), (0, .ref (adr 63)), (1, .int y1), (2, .int y2), (3, .int y3)]) hx hb d_MO_lay_74 hl (k := 4) rfl rfl (by decide) rfl (fun ls hl => ?_)
          refine lv_goto (tgt := 36) hx hb d_MO_lay_77 (by decide) ?_
          exact ih _ hf hP hS (lv_sub hl [1, 2, 3, 4, 0] rfl)
        · replace hf := if_p hc hf
          refine lv_iconst (v := (-1)) hx hb d_MO_lay_72 (by decide) ?_
          obtain rfl := Option.some.inj hf
          exact hq _ _ _ _ d_MO_lay_73 hP hS
set_option maxHeartbeats 4000000 in
set_option maxRecDepth 100000 in
theorem w_MO_lay_L28 (y1 : Int32) (y2 : Int32)  (C : Cx prog_7_method_24_code 5 "LakeReliefModel" (Option.some Jvm.ClassFile.FieldType.int) p s m args meth c) (hG : Geo D adr cA s) (K : Unit → Option (Int32 × Mem)) {res : Int32 × Mem} (hq : ∀ (pc : Nat) (ls : Array Slot) (H : Heap) (locs : List Loc), decode prog_7_method_24_code pc = .ok (.ireturn, 1) → va_P D cls (wld adr cA μ res.2) H → va_S (AA adr) s.heap H locs → W p l e rm_MO_lay s m args below meth c H locs 0 0 Q (F0 m pc ls [.int res.1])) (hE : ∀ (u : Unit), K u = some res → ∀ (H : Heap) (locs : List Loc) (ls : Array Slot), va_P D cls (wld adr cA μ ν) H → va_S (AA adr) s.heap H locs → lv_has ls 5 [(0, .ref (adr 63)), (1, .int y1), (2, .int y2)] → W p l e rm_MO_lay s m args below meth c H locs 0 0 Q (F0 m 86 ls [])) : ∀ (n : Nat) (y3 : Int32), f_MO_lay_L28 ν y1 y2 K n y3 = some res → ∀ {H : Heap} {locs : List Loc} {ls : Array Slot}, va_P D cls (wld adr cA μ ν) H → va_S (AA adr) s.heap H locs → lv_has ls 5 [(0, .ref (adr 63)), (1, .int y1), (2, .int y2), (3, .int y3)] → W p l e rm_MO_lay s m args below meth c H locs 0 0 Q (F0 m 28 ls []) := by
  obtain ⟨hx, hb, hml, hown, hts, hr, hlocks⟩ := id C
  intro n
  induction n with
  | zero => intro y3 hf; rw [f_MO_lay_L28.eq_1] at hf; cases hf
  | succ n ih =>
    intro y3 hf H locs ls hP hS hl
    rw [f_MO_lay_L28.eq_2] at hf
    refine lv_iload_n hx hb d_MO_lay_28 rfl (lv_at hl 3 rfl) ?_
    refine lv_iload_n hx hb d_MO_lay_29 rfl (lv_at hl 2 rfl) ?_
    refine lv_icmp_ge (tgt := 86) hx hb d_MO_lay_30 (by decide) (fun hc => ?_) (fun hc => ?_)
    · replace hf := if_p hc hf
      exact hE _ hf _ _ _ hP hS (lv_sub hl [0, 1, 2] rfl)
    · replace hf := if_n hc hf
      refine lv_iconst (v := 0) hx hb d_MO_lay_33 (by decide) ?_
      refine lv_istore (lv' := [(4, .int 0), (0, .ref (adr 63)), (1, .int y1), (2, .int y2), (3, .int y3)]) hx hb d_MO_lay_34 hl (by decide) rfl (fun ls hl => ?_)
      refine w_MO_lay_L36 y1 y2 y3  C hG _ hq ?_ FU _ hf hP hS (lv_sub hl [1, 2, 3, 4, 0] rfl)
      clear hf hP hS hl
      intro u hf H locs ls hP hS hl
      refine lv_iinc (v := (y3 + 1)) (lv' := [(3, .int (y3 + 1)), (0, .ref (adr 63)), (1, .int y1), (2, .int y2)]) hx hb d_MO_lay_80 hl (k := 3) rfl rfl (by decide) rfl (fun ls hl => ?_)
      refine lv_goto (tgt := 28) hx hb d_MO_lay_83 (by decide) ?_
      exact ih _ hf hP hS (lv_sub hl [1, 2, 3, 0] rfl)
set_option maxHeartbeats 4000000 in
set_option maxRecDepth 100000 in
theorem w_MO_lay_L108 (y1 : Int32)  (C : Cx prog_7_method_24_code 5 "LakeReliefModel" (Option.some Jvm.ClassFile.FieldType.int) p s m args meth c) (hG : Geo D adr cA s) (v : Int32 × Mem) (hE : ∀ (H : Heap) (locs : List Loc) (ls : Array Slot), va_P D cls (wld adr cA μ v.2) H → va_S (AA adr) s.heap H locs → lv_has ls 5 [(0, .ref (adr 63)), (3, .int v.1)] → W p l e rm_MO_lay s m args below meth c H locs 0 0 Q (F0 m 201 ls [])) : ∀ (n : Nat) (ν : Mem) (y3 : Int32) (y4 : Int32), f_MO_lay_L108 y1 n ν y3 y4 = some v → ∀ {H : Heap} {locs : List Loc} {ls : Array Slot}, va_P D cls (wld adr cA μ ν) H → va_S (AA adr) s.heap H locs → lv_has ls 5 [(0, .ref (adr 63)), (1, .int y1), (3, .int y3), (4, .int y4)] → W p l e rm_MO_lay s m args below meth c H locs 0 0 Q (F0 m 108 ls []) := by
  obtain ⟨hx, hb, hml, hown, hts, hr, hlocks⟩ := id C
  intro n
  induction n with
  | zero => intro ν y3 y4 hf; rw [f_MO_lay_L108.eq_1] at hf; cases hf
  | succ n ih =>
    intro ν y3 y4 hf H locs ls hP hS hl
    rw [f_MO_lay_L108.eq_2] at hf
    refine lv_iload hx hb d_MO_lay_108 (lv_at hl 3 rfl) ?_
    refine lv_aload_n hx hb d_MO_lay_110 rfl (lv_at hl 0 rfl) ?_
    refine g_MO_fields hx hb hts hown hG hP (hts _ in_566) d_MO_lay_111 ?_
    refine lv_icmp_ge (tgt := 201) hx hb d_MO_lay_114 (by decide) (fun hc => ?_) (fun hc => ?_)
    · replace hf := if_p hc hf
      obtain rfl := Option.some.inj hf
      exact hE _ _ _ hP hS (lv_sub hl [0, 2] rfl)
    · replace hf := if_n hc hf
      refine lv_aload_n hx hb d_MO_lay_117 rfl (lv_at hl 0 rfl) ?_
      refine g_MO_isSea hx hb hts hown hG hP (hts _ in_567) d_MO_lay_118 ?_
      refine lv_iload hx hb d_MO_lay_121 (lv_at hl 3 rfl) ?_
      refine lv_aload_n hx hb d_MO_lay_123 rfl (lv_at hl 0 rfl) ?_
      refine lv_iload hx hb d_MO_lay_124 (lv_at hl 3 rfl) ?_
      refine lv_iload_n hx hb d_MO_lay_126 rfl (lv_at hl 1 rfl) ?_
      replace hf := Zg_some hf
      obtain ⟨hz5, hf⟩ := hf
      refine lv_idiv hx hb d_MO_lay_127 hz5 ?_
      refine lv_iload hx hb d_MO_lay_128 (lv_at hl 3 rfl) ?_
      refine lv_iload_n hx hb d_MO_lay_130 rfl (lv_at hl 1 rfl) ?_
      replace hf := Zg_some hf
      obtain ⟨hz6, hf⟩ := hf
      refine lv_irem hx hb d_MO_lay_131 hz6 ?_
      replace hf := B_some hf
      obtain ⟨v7, hv7, hf⟩ := hf
      refine ki (kv (As := [.int (y4 / y1), .int (y4 - y4 / y1 * y1)]) (rest := [.int y4, .ref (adr 67)]) ⟨hx, hb, hml, hown, hts⟩ (cw_MO_146 hts ⟨Nat.le_of_ble_eq_true rfl, Nat.le_of_ble_eq_true rfl⟩) (c_MO_isPlace l D adr cA μ ν (y4 / y1) (y4 - y4 / y1 * y1) hv7) hG hP (rc_o (q := 63) (ci := 5) hG hP (by decide) (wc_M (by decide) rfl) rfl) rfl hl.1 (Nat.le_of_ble_eq_true rfl) d_MO_lay_132) hS (fun H locs hP hS => ?_)
      replace hf := B_some hf
      obtain ⟨v8, hv8, hf⟩ := hf
      have hJ : ∀ (H : Heap) (locs : List Loc) (ls : Array Slot), va_P D cls (wld adr cA μ ν) H → va_S (AA adr) s.heap H locs → lv_has ls 5 [(0, .ref (adr 63)), (1, .int y1), (3, .int y3), (4, .int y4)] → W p l e rm_MO_lay s m args below meth c H locs 0 0 Q (F0 m 143 ls [.int v8, .int y4, .ref (adr 67)]) := by
        clear hv8
        intro H locs ls hP hS hl
        replace hf := G_some hf
        obtain ⟨hi9, hf⟩ := hf
        refine rM_zast hx hb hG hP hS 67 64 (by decide) (by decide) (fun _ _ => rfl) hi9 d_MO_lay_143 (fun H locs hP hS => ?_)
        refine lv_aload_n hx hb d_MO_lay_144 rfl (lv_at hl 0 rfl) ?_
        refine g_MO_height hx hb hts hown hG hP (hts _ in_568) d_MO_lay_145 ?_
        refine lv_iload hx hb d_MO_lay_148 (lv_at hl 3 rfl) ?_
        refine lv_aload_n hx hb d_MO_lay_150 rfl (lv_at hl 0 rfl) ?_
        refine g_MO_isSea hx hb hts hown hG hP (hts _ in_567) d_MO_lay_151 ?_
        refine lv_iload hx hb d_MO_lay_154 (lv_at hl 3 rfl) ?_
        replace hf := G_some hf
        obtain ⟨hi10, hf⟩ := hf
        refine r_zald hx hb hG hP 67 64 (f := (sI ν 67 y4.toNatClampNeg (v8 &&& 1)).1 67) (by decide) (wc_M (by decide) rfl) hi10 d_MO_lay_156 ?_
        replace hf := B_some hf
        obtain ⟨v11, hv11, hf⟩ := hf
        have hJ : ∀ (H : Heap) (locs : List Loc) (ls : Array Slot), va_P D cls (wld adr cA μ (sI ν 67 y4.toNatClampNeg (v8 &&& 1))) H → va_S (AA adr) s.heap H locs → lv_has ls 5 [(0, .ref (adr 63)), (1, .int y1), (3, .int y3), (4, .int y4)] → W p l e rm_MO_lay s m args below meth c H locs 0 0 Q (F0 m 176 ls [.int v11, .int y4, .ref (adr 68)]) := by
          clear hv11
          intro H locs ls hP hS hl
          replace hf := G_some hf
          obtain ⟨hi15, hf⟩ := hf
          refine rM_iast hx hb hG hP hS 68 64 (by decide) (by decide) (fun _ _ => rfl) hi15 d_MO_lay_176 (fun H locs hP hS => ?_)
          refine lv_iload_n hx hb d_MO_lay_177 rfl (lv_at hl 2 rfl) ?_
          refine lv_aload_n hx hb d_MO_lay_178 rfl (lv_at hl 0 rfl) ?_
          refine g_MO_isSea hx hb hts hown hG hP (hts _ in_567) d_MO_lay_179 ?_
          refine lv_iload hx hb d_MO_lay_182 (lv_at hl 3 rfl) ?_
          replace hf := G_some hf
          obtain ⟨hi16, hf⟩ := hf
          refine r_zald hx hb hG hP 67 64 (f := (sI (sI ν 67 y4.toNatClampNeg (v8 &&& 1)) 68 y4.toNatClampNeg v11).1 67) (by decide) (wc_M (by decide) rfl) hi16 d_MO_lay_184 ?_
          replace hf := B_some hf
          obtain ⟨v17, hv17, hf⟩ := hf
          have hJ : ∀ (H : Heap) (locs : List Loc) (ls : Array Slot), va_P D cls (wld adr cA μ (sI (sI ν 67 y4.toNatClampNeg (v8 &&& 1)) 68 y4.toNatClampNeg v11)) H → va_S (AA adr) s.heap H locs → lv_has ls 5 [(0, .ref (adr 63)), (1, .int y1), (4, .int y4)] → W p l e rm_MO_lay s m args below meth c H locs 0 0 Q (F0 m 193 ls [.int v17, .int y3]) := by
            clear hv17
            intro H locs ls hP hS hl
            refine lv_iadd hx hb d_MO_lay_193 ?_
            refine lv_istore_n (lv' := [(3, .int (y3 + v17)), (0, .ref (adr 63)), (1, .int y1), (4, .int y4)]) hx hb d_MO_lay_194 rfl hl (by decide) rfl (fun ls hl => ?_)
            refine lv_iinc (v := (y4 + 1)) (lv' := [(4, .int (y4 + 1)), (3, .int (y3 + v17)), (0, .ref (adr 63)), (1, .int y1)]) hx hb d_MO_lay_195 hl (k := 3) rfl rfl (by decide) rfl (fun ls hl => ?_)
            refine lv_goto (tgt := 108) hx hb d_MO_lay_198 (by decide) ?_
            exact ih _ _ _ hf hP hS (lv_sub hl [2, 3, 1, 0] rfl)
          clear hf
          have hf := hv17
          clear hv17
          refine lv_if_eq (tgt := 192) hx hb d_MO_lay_185 (by decide) (fun hc => ?_) (fun hc => ?_)
          · replace hf := if_p hc hf
            refine lv_iconst (v := 1) hx hb d_MO_lay_192 (by decide) ?_
            obtain rfl := Option.some.inj hf
            exact hJ _ _ _ hP hS (lv_sub hl [0, 1, 3] rfl)
          · replace hf := if_n hc hf
            refine lv_iconst (v := 0) hx hb d_MO_lay_188 (by decide) ?_
            refine lv_goto (tgt := 193) hx hb d_MO_lay_189 (by decide) ?_
            obtain rfl := Option.some.inj hf
            exact hJ _ _ _ hP hS (lv_sub hl [0, 1, 3] rfl)
        clear hf
        have hf := hv11
        clear hv11
        refine lv_if_eq (tgt := 164) hx hb d_MO_lay_157 (by decide) (fun hc => ?_) (fun hc => ?_)
        · replace hf := if_p hc hf
          refine lv_aload_n hx hb d_MO_lay_164 rfl (lv_at hl 0 rfl) ?_
          refine lv_iload hx hb d_MO_lay_165 (lv_at hl 3 rfl) ?_
          refine lv_iload_n hx hb d_MO_lay_167 rfl (lv_at hl 1 rfl) ?_
          replace hf := Zg_some hf
          obtain ⟨hz12, hf⟩ := hf
          refine lv_idiv hx hb d_MO_lay_168 hz12 ?_
          refine lv_iload hx hb d_MO_lay_169 (lv_at hl 3 rfl) ?_
          refine lv_iload_n hx hb d_MO_lay_171 rfl (lv_at hl 1 rfl) ?_
          replace hf := Zg_some hf
          obtain ⟨hz13, hf⟩ := hf
          refine lv_irem hx hb d_MO_lay_172 hz13 ?_
          replace hf := B_some hf
          obtain ⟨v14, hv14, hf⟩ := hf
          refine ki (kv (As := [.int (y4 / y1), .int (y4 - y4 / y1 * y1)]) (rest := [.int y4, .ref (adr 68)]) ⟨hx, hb, hml, hown, hts⟩ (cw_MO_149 hts ⟨Nat.le_of_ble_eq_true rfl, Nat.le_of_ble_eq_true rfl⟩) (c_MO_stripAt l D adr cA μ (sI ν 67 y4.toNatClampNeg (v8 &&& 1)) (y4 / y1) (y4 - y4 / y1 * y1) hv14) hG hP (rc_o (q := 63) (ci := 5) hG hP (by decide) (wc_M (by decide) rfl) rfl) rfl hl.1 (Nat.le_of_ble_eq_true rfl) d_MO_lay_173) hS (fun H locs hP hS => ?_)
          obtain rfl := Option.some.inj hf
          exact hJ _ _ _ hP hS (lv_sub hl [0, 1, 2, 3] rfl)
        · replace hf := if_n hc hf
          refine lv_iconst (v := 0) hx hb d_MO_lay_160 (by decide) ?_
          refine lv_goto (tgt := 176) hx hb d_MO_lay_161 (by decide) ?_
          obtain rfl := Option.some.inj hf
          exact hJ _ _ _ hP hS (lv_sub hl [0, 1, 2, 3] rfl)
      clear hf
      have hf := hv8
      clear hv8
      refine lv_if_ne (tgt := 142) hx hb d_MO_lay_135 (by decide) (fun hc => ?_) (fun hc => ?_)
      · replace hf := if_n hc hf
        refine lv_iconst (v := 0) hx hb d_MO_lay_142 (by decide) ?_
        obtain rfl := Option.some.inj hf
        exact hJ _ _ _ hP hS (lv_sub hl [0, 1, 2, 3] rfl)
      · replace hf := if_p hc hf
        refine lv_iconst (v := 1) hx hb d_MO_lay_138 (by decide) ?_
        refine lv_goto (tgt := 143) hx hb d_MO_lay_139 (by decide) ?_
        obtain rfl := Option.some.inj hf
        exact hJ _ _ _ hP hS (lv_sub hl [0, 1, 2, 3] rfl)
set_option maxHeartbeats 4000000 in
set_option maxRecDepth 100000 in
theorem w_MO_lay_L204 (y3 : Int32)  (C : Cx prog_7_method_24_code 5 "LakeReliefModel" (Option.some Jvm.ClassFile.FieldType.int) p s m args meth c) (hG : Geo D adr cA s) (v : Mem) (hE : ∀ (H : Heap) (locs : List Loc) (ls : Array Slot), va_P D cls (wld adr cA μ v) H → va_S (AA adr) s.heap H locs → lv_has ls 5 [(0, .ref (adr 63)), (3, .int y3)] → W p l e rm_MO_lay s m args below meth c H locs 0 0 Q (F0 m 235 ls [])) : ∀ (n : Nat) (ν : Mem) (y4 : Int32), f_MO_lay_L204 y3 n ν y4 = some v → ∀ {H : Heap} {locs : List Loc} {ls : Array Slot}, va_P D cls (wld adr cA μ ν) H → va_S (AA adr) s.heap H locs → lv_has ls 5 [(0, .ref (adr 63)), (3, .int y3), (4, .int y4)] → W p l e rm_MO_lay s m args below meth c H locs 0 0 Q (F0 m 204 ls []) := by
  obtain ⟨hx, hb, hml, hown, hts, hr, hlocks⟩ := id C
  intro n
  induction n with
  | zero => intro ν y4 hf; rw [f_MO_lay_L204.eq_1] at hf; cases hf
  | succ n ih =>
    intro ν y4 hf H locs ls hP hS hl
    rw [f_MO_lay_L204.eq_2] at hf
    refine lv_iload hx hb d_MO_lay_204 (lv_at hl 2 rfl) ?_
    refine lv_aload_n hx hb d_MO_lay_206 rfl (lv_at hl 0 rfl) ?_
    refine g_MO_fields hx hb hts hown hG hP (hts _ in_566) d_MO_lay_207 ?_
    refine lv_icmp_ge (tgt := 235) hx hb d_MO_lay_210 (by decide) (fun hc => ?_) (fun hc => ?_)
    · replace hf := if_p hc hf
      obtain rfl := Option.some.inj hf
      exact hE _ _ _ hP hS (lv_sub hl [0, 1] rfl)
    · replace hf := if_n hc hf
      refine lv_aload_n hx hb d_MO_lay_213 rfl (lv_at hl 0 rfl) ?_
      refine g_MO_isSea hx hb hts hown hG hP (hts _ in_567) d_MO_lay_214 ?_
      refine lv_iload hx hb d_MO_lay_217 (lv_at hl 2 rfl) ?_
      replace hf := G_some hf
      obtain ⟨hi19, hf⟩ := hf
      refine r_zald hx hb hG hP 67 64 (f := ν.1 67) (by decide) (wc_M (by decide) rfl) hi19 d_MO_lay_219 ?_
      replace hf := B_some hf
      obtain ⟨v20, hv20, hf⟩ := hf
      have hJ : ∀ (H : Heap) (locs : List Loc) (ls : Array Slot), va_P D cls (wld adr cA μ v20) H → va_S (AA adr) s.heap H locs → lv_has ls 5 [(0, .ref (adr 63)), (3, .int y3), (4, .int y4)] → W p l e rm_MO_lay s m args below meth c H locs 0 0 Q (F0 m 229 ls []) := by
        clear hv20
        intro H locs ls hP hS hl
        refine lv_iinc (v := (y4 + 1)) (lv' := [(4, .int (y4 + 1)), (0, .ref (adr 63)), (3, .int y3)]) hx hb d_MO_lay_229 hl (k := 2) rfl rfl (by decide) rfl (fun ls hl => ?_)
        refine lv_goto (tgt := 204) hx hb d_MO_lay_232 (by decide) ?_
        exact ih _ _ hf hP hS (lv_sub hl [1, 2, 0] rfl)
      clear hf
      have hf := hv20
      clear hv20
      refine lv_if_ne (tgt := 229) hx hb d_MO_lay_220 (by decide) (fun hc => ?_) (fun hc => ?_)
      · replace hf := if_n hc hf
        obtain rfl := Option.some.inj hf
        exact hJ _ _ _ hP hS (lv_sub hl [0, 1, 2] rfl)
      · replace hf := if_p hc hf
        refine lv_aload_n hx hb d_MO_lay_223 rfl (lv_at hl 0 rfl) ?_
        refine lv_iload hx hb d_MO_lay_224 (lv_at hl 2 rfl) ?_
        replace hf := B_some hf
        obtain ⟨v21, hv21, hf⟩ := hf
        refine kw (kv (As := [.int y4]) (rest := []) ⟨hx, hb, hml, hown, hts⟩ (cw_MO_160 hts ⟨Nat.le_of_ble_eq_true rfl, Nat.le_of_ble_eq_true rfl⟩) (c_MO_layDown l D adr cA μ ν y4 hv21) hG hP (rc_o (q := 63) (ci := 5) hG hP (by decide) (wc_M (by decide) rfl) rfl) rfl hl.1 (Nat.le_of_ble_eq_true rfl) d_MO_lay_226) hS (fun H locs hP hS => ?_)
        obtain rfl := Option.some.inj hf
        exact hJ _ _ _ hP hS (lv_sub hl [0, 1, 2] rfl)
set_option maxHeartbeats 4000000 in
set_option maxRecDepth 100000 in
theorem w_MO_lay_L238 (y3 : Int32)  (C : Cx prog_7_method_24_code 5 "LakeReliefModel" (Option.some Jvm.ClassFile.FieldType.int) p s m args meth c) (hG : Geo D adr cA s) (v : Mem) (hE : ∀ (H : Heap) (locs : List Loc) (ls : Array Slot), va_P D cls (wld adr cA μ v) H → va_S (AA adr) s.heap H locs → lv_has ls 5 [(0, .ref (adr 63)), (3, .int y3)] → W p l e rm_MO_lay s m args below meth c H locs 0 0 Q (F0 m 281 ls [])) : ∀ (n : Nat) (ν : Mem) (y4 : Int32), f_MO_lay_L238 y3 n ν y4 = some v → ∀ {H : Heap} {locs : List Loc} {ls : Array Slot}, va_P D cls (wld adr cA μ ν) H → va_S (AA adr) s.heap H locs → lv_has ls 5 [(0, .ref (adr 63)), (3, .int y3), (4, .int y4)] → W p l e rm_MO_lay s m args below meth c H locs 0 0 Q (F0 m 238 ls []) := by
  obtain ⟨hx, hb, hml, hown, hts, hr, hlocks⟩ := id C
  intro n
  induction n with
  | zero => intro ν y4 hf; rw [f_MO_lay_L238.eq_1] at hf; cases hf
  | succ n ih =>
    intro ν y4 hf H locs ls hP hS hl
    rw [f_MO_lay_L238.eq_2] at hf
    refine lv_iload hx hb d_MO_lay_238 (lv_at hl 2 rfl) ?_
    refine lv_aload_n hx hb d_MO_lay_240 rfl (lv_at hl 0 rfl) ?_
    refine g_MO_fields hx hb hts hown hG hP (hts _ in_566) d_MO_lay_241 ?_
    refine lv_icmp_ge (tgt := 281) hx hb d_MO_lay_244 (by decide) (fun hc => ?_) (fun hc => ?_)
    · replace hf := if_p hc hf
      obtain rfl := Option.some.inj hf
      exact hE _ _ _ hP hS (lv_sub hl [0, 1] rfl)
    · replace hf := if_n hc hf
      refine lv_aload_n hx hb d_MO_lay_247 rfl (lv_at hl 0 rfl) ?_
      refine g_MO_wayEnd hx hb hts hown hG hP (hts _ in_570) d_MO_lay_248 ?_
      refine lv_iload hx hb d_MO_lay_251 (lv_at hl 2 rfl) ?_
      refine lv_aload_n hx hb d_MO_lay_253 rfl (lv_at hl 0 rfl) ?_
      refine g_MO_isSea hx hb hts hown hG hP (hts _ in_567) d_MO_lay_254 ?_
      refine lv_iload hx hb d_MO_lay_257 (lv_at hl 2 rfl) ?_
      replace hf := G_some hf
      obtain ⟨hi23, hf⟩ := hf
      refine r_zald hx hb hG hP 67 64 (f := ν.1 67) (by decide) (wc_M (by decide) rfl) hi23 d_MO_lay_259 ?_
      replace hf := B_some hf
      obtain ⟨v24, hv24, hf⟩ := hf
      have hJ : ∀ (H : Heap) (locs : List Loc) (ls : Array Slot), va_P D cls (wld adr cA μ ν) H → va_S (AA adr) s.heap H locs → lv_has ls 5 [(0, .ref (adr 63)), (3, .int y3), (4, .int y4)] → W p l e rm_MO_lay s m args below meth c H locs 0 0 Q (F0 m 274 ls [.int v24, .int y4, .ref (adr 70)]) := by
        clear hv24
        intro H locs ls hP hS hl
        replace hf := G_some hf
        obtain ⟨hi26, hf⟩ := hf
        refine rM_iast hx hb hG hP hS 70 64 (by decide) (by decide) (fun _ _ => rfl) hi26 d_MO_lay_274 (fun H locs hP hS => ?_)
        refine lv_iinc (v := (y4 + 1)) (lv' := [(4, .int (y4 + 1)), (0, .ref (adr 63)), (3, .int y3)]) hx hb d_MO_lay_275 hl (k := 2) rfl rfl (by decide) rfl (fun ls hl => ?_)
        refine lv_goto (tgt := 238) hx hb d_MO_lay_278 (by decide) ?_
        exact ih _ _ hf hP hS (lv_sub hl [1, 2, 0] rfl)
      clear hf
      have hf := hv24
      clear hv24
      refine lv_if_eq (tgt := 268) hx hb d_MO_lay_260 (by decide) (fun hc => ?_) (fun hc => ?_)
      · replace hf := if_p hc hf
        refine lv_aload_n hx hb d_MO_lay_268 rfl (lv_at hl 0 rfl) ?_
        refine lv_iload hx hb d_MO_lay_269 (lv_at hl 2 rfl) ?_
        replace hf := B_some hf
        obtain ⟨v25, hv25, hf⟩ := hf
        refine ki (kv (As := [.int y4]) (rest := [.int y4, .ref (adr 70)]) ⟨hx, hb, hml, hown, hts⟩ (cw_MO_163 hts ⟨Nat.le_of_ble_eq_true rfl, Nat.le_of_ble_eq_true rfl⟩) (c_MO_endOf l D adr cA μ ν y4 hv25) hG hP (rc_o (q := 63) (ci := 5) hG hP (by decide) (wc_M (by decide) rfl) rfl) rfl hl.1 (Nat.le_of_ble_eq_true rfl) d_MO_lay_271) hS (fun H locs hP hS => ?_)
        obtain rfl := Option.some.inj hf
        exact hJ _ _ _ hP hS (lv_sub hl [0, 1, 2] rfl)
      · replace hf := if_n hc hf
        refine lv_bipush (v := (-5)) hx hb d_MO_lay_263 (by decide) ?_
        refine lv_goto (tgt := 274) hx hb d_MO_lay_265 (by decide) ?_
        obtain rfl := Option.some.inj hf
        exact hJ _ _ _ hP hS (lv_sub hl [0, 1, 2] rfl)
set_option maxHeartbeats 4000000 in
set_option maxRecDepth 100000 in
theorem w_MO_lay (x1 : Int32) (x2 : Int32)  (C : Cx prog_7_method_24_code 5 "LakeReliefModel" (Option.some Jvm.ClassFile.FieldType.int) p s m args meth c) (hG : Geo D adr cA s) {res : Int32 × Mem} (hf : f_MO_lay ν x1 x2 = some res) (hq : ∀ (pc : Nat) (ls : Array Slot) (H : Heap) (locs : List Loc), decode prog_7_method_24_code pc = .ok (.ireturn, 1) → va_P D cls (wld adr cA μ res.2) H → va_S (AA adr) s.heap H locs → W p l e rm_MO_lay s m args below meth c H locs 0 0 Q (F0 m pc ls [.int res.1])) {H : Heap} {locs : List Loc} {ls : Array Slot} (hP : va_P D cls (wld adr cA μ ν) H) (hS : va_S (AA adr) s.heap H locs) (hl : lv_has ls 5 [(0, .ref (adr 63)), (1, .int x1), (2, .int x2)]) : W p l e rm_MO_lay s m args below meth c H locs 0 0 Q (F0 m 0 ls []) := by
  obtain ⟨hx, hb, hml, hown, hts, hr, hlocks⟩ := id C
  unfold f_MO_lay at hf
  refine lv_iload_n hx hb d_MO_lay_0 rfl (lv_at hl 1 rfl) ?_
  refine lv_i2l hx hb d_MO_lay_1 rfl ?_
  refine lv_lconst (v := 1) hx hb d_MO_lay_2 (by decide) ?_
  refine lv_ldc2 (v := 8) hx hb hown (hts _ in_685) d_MO_lay_3 ?_
  refine ki (ks (As := [.long x1.toInt64, .long 1, .long 8]) (rest := []) ⟨hx, hb, hml, hown, hts⟩ (cw_MO_80 hts ⟨Nat.le_of_ble_eq_true rfl, Nat.le_of_ble_eq_true rfl⟩) (c_MO_in l D adr cA μ ν x1.toInt64 1 8) hG hP rfl hl.1 (Nat.le_of_ble_eq_true rfl) d_MO_lay_6) hS (fun H locs hP hS => ?_)
  refine lv_if_eq (tgt := 24) hx hb d_MO_lay_9 (by decide) (fun hc => ?_) (fun hc => ?_)
  · replace hf := if_p hc hf
    refine lv_iconst (v := (-1)) hx hb d_MO_lay_24 (by decide) ?_
    obtain rfl := Option.some.inj hf
    exact hq _ _ _ _ d_MO_lay_25 hP hS
  · replace hf := if_n hc hf
    refine lv_iload_n hx hb d_MO_lay_12 rfl (lv_at hl 2 rfl) ?_
    refine lv_i2l hx hb d_MO_lay_13 rfl ?_
    refine lv_lconst (v := 1) hx hb d_MO_lay_14 (by decide) ?_
    refine lv_ldc2 (v := 8) hx hb hown (hts _ in_685) d_MO_lay_15 ?_
    refine ki (ks (As := [.long x2.toInt64, .long 1, .long 8]) (rest := []) ⟨hx, hb, hml, hown, hts⟩ (cw_MO_80 hts ⟨Nat.le_of_ble_eq_true rfl, Nat.le_of_ble_eq_true rfl⟩) (c_MO_in l D adr cA μ ν x2.toInt64 1 8) hG hP rfl hl.1 (Nat.le_of_ble_eq_true rfl) d_MO_lay_18) hS (fun H locs hP hS => ?_)
    refine lv_if_ne (tgt := 26) hx hb d_MO_lay_21 (by decide) (fun hc => ?_) (fun hc => ?_)
    · replace hf := if_n hc hf
      refine lv_iconst (v := 0) hx hb d_MO_lay_26 (by decide) ?_
      refine lv_istore_n (lv' := [(3, .int 0), (0, .ref (adr 63)), (1, .int x1), (2, .int x2)]) hx hb d_MO_lay_27 rfl hl (by decide) rfl (fun ls hl => ?_)
      refine w_MO_lay_L28 x1 x2  C hG _ hq ?_ FU _ hf hP hS (lv_sub hl [1, 2, 3, 0] rfl)
      clear hf hP hS hl
      intro u hf H locs ls hP hS hl
      refine lv_aload_n hx hb d_MO_lay_86 rfl (lv_at hl 0 rfl) ?_
      refine lv_iconst (v := 1) hx hb d_MO_lay_87 (by decide) ?_
      refine p_MO_isLaid hx hb hts hown hG hP hS (hts _ in_564) (by decide) d_MO_lay_88 (fun H locs hP hS => ?_)
      refine lv_aload_n hx hb d_MO_lay_91 rfl (lv_at hl 0 rfl) ?_
      refine lv_iload_n hx hb d_MO_lay_92 rfl (lv_at hl 1 rfl) ?_
      refine p_MO_wide hx hb hts hown hG hP hS (hts _ in_565) d_MO_lay_93 (fun H locs hP hS => ?_)
      refine lv_aload_n hx hb d_MO_lay_96 rfl (lv_at hl 0 rfl) ?_
      refine lv_iload_n hx hb d_MO_lay_97 rfl (lv_at hl 1 rfl) ?_
      refine lv_iload_n hx hb d_MO_lay_98 rfl (lv_at hl 2 rfl) ?_
      refine lv_imul hx hb d_MO_lay_99 ?_
      refine p_MO_fields hx hb hts hown hG hP hS (hts _ in_566) d_MO_lay_100 (fun H locs hP hS => ?_)
      refine lv_iconst (v := 0) hx hb d_MO_lay_103 (by decide) ?_
      refine lv_istore_n (lv' := [(3, .int 0), (0, .ref (adr 63)), (1, .int x1), (2, .int x2)]) hx hb d_MO_lay_104 rfl hl (by decide) rfl (fun ls hl => ?_)
      refine lv_iconst (v := 0) hx hb d_MO_lay_105 (by decide) ?_
      refine lv_istore (lv' := [(4, .int 0), (3, .int 0), (0, .ref (adr 63)), (1, .int x1), (2, .int x2)]) hx hb d_MO_lay_106 hl (by decide) rfl (fun ls hl => ?_)
      replace hf := B_some hf
      obtain ⟨v18, hv18, hf⟩ := hf
      refine w_MO_lay_L108 x1  C hG v18 ?_ FU _ _ _ hv18 hP hS (lv_sub hl [2, 3, 1, 0] rfl)
      clear hv18 hP hS hl
      intro H locs ls hP hS hl
      refine lv_iconst (v := 0) hx hb d_MO_lay_201 (by decide) ?_
      refine lv_istore (lv' := [(4, .int 0), (0, .ref (adr 63)), (3, .int v18.1)]) hx hb d_MO_lay_202 hl (by decide) rfl (fun ls hl => ?_)
      replace hf := B_some hf
      obtain ⟨v22, hv22, hf⟩ := hf
      refine w_MO_lay_L204 v18.1  C hG v22 ?_ FU _ _ hv22 hP hS (lv_sub hl [1, 2, 0] rfl)
      clear hv22 hP hS hl
      intro H locs ls hP hS hl
      refine lv_iconst (v := 0) hx hb d_MO_lay_235 (by decide) ?_
      refine lv_istore (lv' := [(4, .int 0), (0, .ref (adr 63)), (3, .int v18.1)]) hx hb d_MO_lay_236 hl (by decide) rfl (fun ls hl => ?_)
      replace hf := B_some hf
      obtain ⟨v27, hv27, hf⟩ := hf
      refine w_MO_lay_L238 v18.1  C hG v27 ?_ FU _ _ hv27 hP hS (lv_sub hl [1, 2, 0] rfl)
      clear hv27 hP hS hl
      intro H locs ls hP hS hl
      refine lv_aload_n hx hb d_MO_lay_281 rfl (lv_at hl 0 rfl) ?_
      replace hf := B_some hf
      obtain ⟨v28, hv28, hf⟩ := hf
      refine kw (kv (As := []) (rest := []) ⟨hx, hb, hml, hown, hts⟩ (cw_MO_167 hts ⟨Nat.le_of_ble_eq_true rfl, Nat.le_of_ble_eq_true rfl⟩) (c_MO_layFill l D adr cA μ v27 hv28) hG hP (rc_o (q := 63) (ci := 5) hG hP (by decide) (wc_M (by decide) rfl) rfl) rfl hl.1 (Nat.le_of_ble_eq_true rfl) d_MO_lay_282) hS (fun H locs hP hS => ?_)
      refine lv_aload_n hx hb d_MO_lay_285 rfl (lv_at hl 0 rfl) ?_
      replace hf := B_some hf
      obtain ⟨v29, hv29, hf⟩ := hf
      refine kw (kv (As := []) (rest := []) ⟨hx, hb, hml, hown, hts⟩ (cw_MO_170 hts ⟨Nat.le_of_ble_eq_true rfl, Nat.le_of_ble_eq_true rfl⟩) (c_MO_layLakes l D adr cA μ v28 hv29) hG hP (rc_o (q := 63) (ci := 5) hG hP (by decide) (wc_M (by decide) rfl) rfl) rfl hl.1 (Nat.le_of_ble_eq_true rfl) d_MO_lay_286) hS (fun H locs hP hS => ?_)
      refine lv_aload_n hx hb d_MO_lay_289 rfl (lv_at hl 0 rfl) ?_
      refine lv_lconst (v := 0) hx hb d_MO_lay_290 (by decide) ?_
      refine p_MO_gone hx hb hts hown hG hP hS (hts _ in_581) d_MO_lay_291 (fun H locs hP hS => ?_)
      refine lv_aload_n hx hb d_MO_lay_294 rfl (lv_at hl 0 rfl) ?_
      refine lv_lconst (v := 0) hx hb d_MO_lay_295 (by decide) ?_
      refine p_MO_poured hx hb hts hown hG hP hS (hts _ in_582) d_MO_lay_296 (fun H locs hP hS => ?_)
      refine lv_iload_n hx hb d_MO_lay_299 rfl (lv_at hl 1 rfl) ?_
      obtain rfl := Option.some.inj hf
      exact hq _ _ _ _ d_MO_lay_300 hP hS
    · replace hf := if_p hc hf
      refine lv_iconst (v := (-1)) hx hb d_MO_lay_24 (by decide) ?_
      obtain rfl := Option.some.inj hf
      exact hq _ _ _ _ d_MO_lay_25 hP hS
theorem c_MO_lay (l : Launch) (D : va_G) (adr : Nat → Nat) (cA : Nat → ClassId) (μ ν : Mem) (x1 : Int32) (x2 : Int32)  {res : Int32 × Mem} (hf : f_MO_lay ν x1 x2 = some res) : Met l y_MO_lay (Cond.code y_MO_lay prog_7_method_24_code 5 (Option.some Jvm.ClassFile.FieldType.int) :: lw_ok) rm_MO_lay (va_Pc [.ref (adr 63), .int x1, .int x2] (Wd D adr cA μ ν)) (QI D adr cA res.1 μ res.2) 0 0 (AA adr) :=
  met_of (own := "LakeReliefModel") rfl rfl (Nat.le_of_ble_eq_true rfl) (fun p e s m below meth c C hG hP hS ls hl => w_MO_lay x1 x2  C hG hf (fun pc ls H locs hd hP hS => ret_i C.1 C.2.1 C.2.2.2.2.2.1 C.2.2.2.2.2.2 hG hd hP hS) hP hS hl)
end X_MO_lay
section X_MO_isField
variable {p : Program} {l : Launch} {e : Env} {s : State} {m : MethodId} {args : Array Value} {below : List Frame} {meth : Method} {c : Code} {Q : State → Prop}
variable {D : va_G} {adr : Nat → Nat} {cA : Nat → ClassId} {μ ν : Mem}
theorem d_MO_isField_0 : decode prog_7_method_25_code 0 = .ok (.iload_n 1, 1) := by decide +kernel
theorem d_MO_isField_1 : decode prog_7_method_25_code 1 = .ok (.i2l, 1) := by decide +kernel
theorem d_MO_isField_2 : decode prog_7_method_25_code 2 = .ok (.lconst 0, 1) := by decide +kernel
theorem d_MO_isField_3 : decode prog_7_method_25_code 3 = .ok (.aload_n 0, 1) := by decide +kernel
theorem d_MO_isField_4 : decode prog_7_method_25_code 4 = .ok (.getfield 102, 3) := by decide +kernel
theorem d_MO_isField_7 : decode prog_7_method_25_code 7 = .ok (.iconst 1, 1) := by decide +kernel
theorem d_MO_isField_8 : decode prog_7_method_25_code 8 = .ok (.isub, 1) := by decide +kernel
theorem d_MO_isField_9 : decode prog_7_method_25_code 9 = .ok (.i2l, 1) := by decide +kernel
theorem d_MO_isField_10 : decode prog_7_method_25_code 10 = .ok (.invokestatic 80, 3) := by decide +kernel
theorem d_MO_isField_13 : decode prog_7_method_25_code 13 = .ok (.ireturn, 1) := by decide +kernel
set_option maxHeartbeats 4000000 in
set_option maxRecDepth 100000 in
theorem w_MO_isField (x1 : Int32)  (C : Cx prog_7_method_25_code 2 "LakeReliefModel" (Option.some Jvm.ClassFile.FieldType.boolean) p s m args meth c) (hG : Geo D adr cA s) {res : Int32} (hf : f_MO_isField ν x1 = some res) (hq : ∀ (pc : Nat) (ls : Array Slot) (H : Heap) (locs : List Loc), res &&& 1 = res → decode prog_7_method_25_code pc = .ok (.ireturn, 1) → va_P D cls (wld adr cA μ ν) H → va_S (AA adr) s.heap H locs → W p l e rm_MO_isField s m args below meth c H locs 0 0 Q (F0 m pc ls [.int res])) {H : Heap} {locs : List Loc} {ls : Array Slot} (hP : va_P D cls (wld adr cA μ ν) H) (hS : va_S (AA adr) s.heap H locs) (hl : lv_has ls 2 [(0, .ref (adr 63)), (1, .int x1)]) : W p l e rm_MO_isField s m args below meth c H locs 0 0 Q (F0 m 0 ls []) := by
  obtain ⟨hx, hb, hml, hown, hts, hr, hlocks⟩ := id C
  unfold f_MO_isField at hf
  refine lv_iload_n hx hb d_MO_isField_0 rfl (lv_at hl 1 rfl) ?_
  refine lv_i2l hx hb d_MO_isField_1 rfl ?_
  refine lv_lconst (v := 0) hx hb d_MO_isField_2 (by decide) ?_
  refine lv_aload_n hx hb d_MO_isField_3 rfl (lv_at hl 0 rfl) ?_
  refine g_MO_fields hx hb hts hown hG hP (hts _ in_566) d_MO_isField_4 ?_
  refine lv_iconst (v := 1) hx hb d_MO_isField_7 (by decide) ?_
  refine lv_isub hx hb d_MO_isField_8 ?_
  refine lv_i2l hx hb d_MO_isField_9 rfl ?_
  refine ki (ks (As := [.long x1.toInt64, .long 0, .long ((ν.1 63 5) - 1).toInt64]) (rest := []) ⟨hx, hb, hml, hown, hts⟩ (cw_MO_80 hts ⟨Nat.le_of_ble_eq_true rfl, Nat.le_of_ble_eq_true rfl⟩) (c_MO_in l D adr cA μ ν x1.toInt64 0 (((ν.1 63 5) - 1).toInt64)) hG hP rfl hl.1 (Nat.le_of_ble_eq_true rfl) d_MO_isField_10) hS (fun H locs hP hS => ?_)
  replace hf := Bg_some hf
  obtain ⟨hb1, hf⟩ := hf
  obtain rfl := Option.some.inj hf
  exact hq _ _ _ _ hb1 d_MO_isField_13 hP hS
theorem c_MO_isField (l : Launch) (D : va_G) (adr : Nat → Nat) (cA : Nat → ClassId) (μ ν : Mem) (x1 : Int32)  {res : Int32} (hf : f_MO_isField ν x1 = some res) : Met l y_MO_isField (Cond.code y_MO_isField prog_7_method_25_code 2 (Option.some Jvm.ClassFile.FieldType.boolean) :: lw_ok) rm_MO_isField (va_Pc [.ref (adr 63), .int x1] (Wd D adr cA μ ν)) (QI D adr cA res μ ν) 0 0 (AA adr) :=
  met_of (own := "LakeReliefModel") rfl rfl (Nat.le_of_ble_eq_true rfl) (fun p e s m below meth c C hG hP hS ls hl => w_MO_isField x1  C hG hf (fun pc ls H locs hz hd hP hS => ret_z C.1 C.2.1 C.2.2.2.2.2.1 C.2.2.2.2.2.2 hG hz hd hP hS) hP hS hl)
end X_MO_isField
section X_MO_isOf
variable {p : Program} {l : Launch} {e : Env} {s : State} {m : MethodId} {args : Array Value} {below : List Frame} {meth : Method} {c : Code} {Q : State → Prop}
variable {D : va_G} {adr : Nat → Nat} {cA : Nat → ClassId} {μ ν : Mem}
theorem d_MO_isOf_0 : decode prog_7_method_26_code 0 = .ok (.aload_n 0, 1) := by decide +kernel
theorem d_MO_isOf_1 : decode prog_7_method_26_code 1 = .ok (.getfield 38, 3) := by decide +kernel
theorem d_MO_isOf_4 : decode prog_7_method_26_code 4 = .ok (.iload_n 1, 1) := by decide +kernel
theorem d_MO_isOf_5 : decode prog_7_method_26_code 5 = .ok (.laload, 1) := by decide +kernel
theorem d_MO_isOf_6 : decode prog_7_method_26_code 6 = .ok (.iload_n 2, 1) := by decide +kernel
theorem d_MO_isOf_7 : decode prog_7_method_26_code 7 = .ok (.lshr, 1) := by decide +kernel
theorem d_MO_isOf_8 : decode prog_7_method_26_code 8 = .ok (.lconst 1, 1) := by decide +kernel
theorem d_MO_isOf_9 : decode prog_7_method_26_code 9 = .ok (.land, 1) := by decide +kernel
theorem d_MO_isOf_10 : decode prog_7_method_26_code 10 = .ok (.lconst 1, 1) := by decide +kernel
theorem d_MO_isOf_11 : decode prog_7_method_26_code 11 = .ok (.lcmp, 1) := by decide +kernel
theorem d_MO_isOf_12 : decode prog_7_method_26_code 12 = .ok (.ifCond .ne 7, 3) := by decide +kernel
theorem d_MO_isOf_15 : decode prog_7_method_26_code 15 = .ok (.iconst 1, 1) := by decide +kernel
theorem d_MO_isOf_16 : decode prog_7_method_26_code 16 = .ok (.goto 4, 3) := by decide +kernel
theorem d_MO_isOf_19 : decode prog_7_method_26_code 19 = .ok (.iconst 0, 1) := by decide +kernel
theorem d_MO_isOf_20 : decode prog_7_method_26_code 20 = .ok (.ireturn, 1) := by decide +kernel
set_option maxHeartbeats 4000000 in
set_option maxRecDepth 100000 in
theorem w_MO_isOf (x1 : Int32) (x2 : Int32)  (C : Cx prog_7_method_26_code 3 "LakeReliefModel" (Option.some Jvm.ClassFile.FieldType.boolean) p s m args meth c) (hG : Geo D adr cA s) {res : Int32} (hf : f_MO_isOf ν x1 x2 = some res) (hq : ∀ (pc : Nat) (ls : Array Slot) (H : Heap) (locs : List Loc), res &&& 1 = res → decode prog_7_method_26_code pc = .ok (.ireturn, 1) → va_P D cls (wld adr cA μ ν) H → va_S (AA adr) s.heap H locs → W p l e rm_MO_isOf s m args below meth c H locs 0 0 Q (F0 m pc ls [.int res])) {H : Heap} {locs : List Loc} {ls : Array Slot} (hP : va_P D cls (wld adr cA μ ν) H) (hS : va_S (AA adr) s.heap H locs) (hl : lv_has ls 3 [(0, .ref (adr 63)), (1, .int x1), (2, .int x2)]) : W p l e rm_MO_isOf s m args below meth c H locs 0 0 Q (F0 m 0 ls []) := by
  obtain ⟨hx, hb, hml, hown, hts, hr, hlocks⟩ := id C
  unfold f_MO_isOf at hf
  refine lv_aload_n hx hb d_MO_isOf_0 rfl (lv_at hl 0 rfl) ?_
  refine g_MO_ground hx hb hts hown hG hP (hts _ in_574) d_MO_isOf_1 ?_
  refine lv_iload_n hx hb d_MO_isOf_4 rfl (lv_at hl 1 rfl) ?_
  replace hf := G_some hf
  obtain ⟨hi1, hf⟩ := hf
  refine r_lald hx hb hG hP 73 64 (f := ν.2 73) (by decide) (wc_M (by decide) rfl) hi1 d_MO_isOf_5 ?_
  refine lv_iload_n hx hb d_MO_isOf_6 rfl (lv_at hl 2 rfl) ?_
  refine lv_lshr hx hb d_MO_isOf_7 rfl ?_
  refine lv_lconst (v := 1) hx hb d_MO_isOf_8 (by decide) ?_
  refine lv_land hx hb d_MO_isOf_9 ?_
  refine lv_lconst (v := 1) hx hb d_MO_isOf_10 (by decide) ?_
  refine W.lcmp hx hb d_MO_isOf_11 ?_
  refine lv_if_ne (tgt := 19) hx hb d_MO_isOf_12 (by decide) (fun hc => ?_) (fun hc => ?_)
  · replace hf := if_n hc hf
    refine lv_iconst (v := 0) hx hb d_MO_isOf_19 (by decide) ?_
    obtain rfl := Option.some.inj hf
    exact hq _ _ _ _ (by decide) d_MO_isOf_20 hP hS
  · replace hf := if_p hc hf
    refine lv_iconst (v := 1) hx hb d_MO_isOf_15 (by decide) ?_
    refine lv_goto (tgt := 20) hx hb d_MO_isOf_16 (by decide) ?_
    obtain rfl := Option.some.inj hf
    exact hq _ _ _ _ (by decide) d_MO_isOf_20 hP hS
theorem c_MO_isOf (l : Launch) (D : va_G) (adr : Nat → Nat) (cA : Nat → ClassId) (μ ν : Mem) (x1 : Int32) (x2 : Int32)  {res : Int32} (hf : f_MO_isOf ν x1 x2 = some res) : Met l y_MO_isOf (Cond.code y_MO_isOf prog_7_method_26_code 3 (Option.some Jvm.ClassFile.FieldType.boolean) :: lw_ok) rm_MO_isOf (va_Pc [.ref (adr 63), .int x1, .int x2] (Wd D adr cA μ ν)) (QI D adr cA res μ ν) 0 0 (AA adr) :=
  met_of (own := "LakeReliefModel") rfl rfl (Nat.le_of_ble_eq_true rfl) (fun p e s m below meth c C hG hP hS ls hl => w_MO_isOf x1 x2  C hG hf (fun pc ls H locs hz hd hP hS => ret_z C.1 C.2.1 C.2.2.2.2.2.1 C.2.2.2.2.2.2 hG hz hd hP hS) hP hS hl)
end X_MO_isOf
section X_MO_lakeAt
variable {p : Program} {l : Launch} {e : Env} {s : State} {m : MethodId} {args : Array Value} {below : List Frame} {meth : Method} {c : Code} {Q : State → Prop}
variable {D : va_G} {adr : Nat → Nat} {cA : Nat → ClassId} {μ ν : Mem}
theorem d_MO_lakeAt_0 : decode prog_7_method_27_code 0 = .ok (.bipush (-3), 2) := by decide +kernel
theorem d_MO_lakeAt_2 : decode prog_7_method_27_code 2 = .ok (.istore_n 2, 1) := by decide +kernel
theorem d_MO_lakeAt_3 : decode prog_7_method_27_code 3 = .ok (.iconst 0, 1) := by decide +kernel
theorem d_MO_lakeAt_4 : decode prog_7_method_27_code 4 = .ok (.istore_n 3, 1) := by decide +kernel
theorem d_MO_lakeAt_5 : decode prog_7_method_27_code 5 = .ok (.iload_n 3, 1) := by decide +kernel
theorem d_MO_lakeAt_6 : decode prog_7_method_27_code 6 = .ok (.aload_n 0, 1) := by decide +kernel
theorem d_MO_lakeAt_7 : decode prog_7_method_27_code 7 = .ok (.getfield 116, 3) := by decide +kernel
theorem d_MO_lakeAt_10 : decode prog_7_method_27_code 10 = .ok (.if_icmp .ge 33, 3) := by decide +kernel
theorem d_MO_lakeAt_13 : decode prog_7_method_27_code 13 = .ok (.aload_n 0, 1) := by decide +kernel
theorem d_MO_lakeAt_14 : decode prog_7_method_27_code 14 = .ok (.getfield 54, 3) := by decide +kernel
theorem d_MO_lakeAt_17 : decode prog_7_method_27_code 17 = .ok (.iload_n 3, 1) := by decide +kernel
theorem d_MO_lakeAt_18 : decode prog_7_method_27_code 18 = .ok (.baload, 1) := by decide +kernel
theorem d_MO_lakeAt_19 : decode prog_7_method_27_code 19 = .ok (.ifCond .eq 16, 3) := by decide +kernel
theorem d_MO_lakeAt_22 : decode prog_7_method_27_code 22 = .ok (.aload_n 0, 1) := by decide +kernel
theorem d_MO_lakeAt_23 : decode prog_7_method_27_code 23 = .ok (.iload_n 3, 1) := by decide +kernel
theorem d_MO_lakeAt_24 : decode prog_7_method_27_code 24 = .ok (.iload_n 1, 1) := by decide +kernel
theorem d_MO_lakeAt_25 : decode prog_7_method_27_code 25 = .ok (.invokevirtual 180, 3) := by decide +kernel
theorem d_MO_lakeAt_28 : decode prog_7_method_27_code 28 = .ok (.ifCond .eq 7, 3) := by decide +kernel
theorem d_MO_lakeAt_31 : decode prog_7_method_27_code 31 = .ok (.iload_n 3, 1) := by decide +kernel
theorem d_MO_lakeAt_32 : decode prog_7_method_27_code 32 = .ok (.goto 4, 3) := by decide +kernel
theorem d_MO_lakeAt_35 : decode prog_7_method_27_code 35 = .ok (.iload_n 2, 1) := by decide +kernel
theorem d_MO_lakeAt_36 : decode prog_7_method_27_code 36 = .ok (.istore_n 2, 1) := by decide +kernel
theorem d_MO_lakeAt_37 : decode prog_7_method_27_code 37 = .ok (.iinc 3 1, 3) := by decide +kernel
theorem d_MO_lakeAt_40 : decode prog_7_method_27_code 40 = .ok (.goto (-35), 3) := by decide +kernel
theorem d_MO_lakeAt_43 : decode prog_7_method_27_code 43 = .ok (.iload_n 2, 1) := by decide +kernel
theorem d_MO_lakeAt_44 : decode prog_7_method_27_code 44 = .ok (.ireturn, 1) := by decide +kernel
set_option maxHeartbeats 4000000 in
set_option maxRecDepth 100000 in
theorem w_MO_lakeAt_L5 (y1 : Int32)  (C : Cx prog_7_method_27_code 4 "LakeReliefModel" (Option.some Jvm.ClassFile.FieldType.int) p s m args meth c) (hG : Geo D adr cA s) (v : Int32) (hE : ∀ (H : Heap) (locs : List Loc) (ls : Array Slot), va_P D cls (wld adr cA μ ν) H → va_S (AA adr) s.heap H locs → lv_has ls 4 [(2, .int v)] → W p l e rm_MO_lakeAt s m args below meth c H locs 0 0 Q (F0 m 43 ls [])) : ∀ (n : Nat) (y2 : Int32) (y3 : Int32), f_MO_lakeAt_L5 ν y1 n y2 y3 = some v → ∀ {H : Heap} {locs : List Loc} {ls : Array Slot}, va_P D cls (wld adr cA μ ν) H → va_S (AA adr) s.heap H locs → lv_has ls 4 [(0, .ref (adr 63)), (1, .int y1), (2, .int y2), (3, .int y3)] → W p l e rm_MO_lakeAt s m args below meth c H locs 0 0 Q (F0 m 5 ls []) := by
  obtain ⟨hx, hb, hml, hown, hts, hr, hlocks⟩ := id C
  intro n
  induction n with
  | zero => intro y2 y3 hf; rw [f_MO_lakeAt_L5.eq_1] at hf; cases hf
  | succ n ih =>
    intro y2 y3 hf H locs ls hP hS hl
    rw [f_MO_lakeAt_L5.eq_2] at hf
    refine lv_iload_n hx hb d_MO_lakeAt_5 rfl (lv_at hl 3 rfl) ?_
    refine lv_aload_n hx hb d_MO_lakeAt_6 rfl (lv_at hl 0 rfl) ?_
    refine g_MO_lakes hx hb hts hown hG hP (hts _ in_572) d_MO_lakeAt_7 ?_
    refine lv_icmp_ge (tgt := 43) hx hb d_MO_lakeAt_10 (by decide) (fun hc => ?_) (fun hc => ?_)
    · replace hf := if_p hc hf
      obtain rfl := Option.some.inj hf
      exact hE _ _ _ hP hS (lv_sub hl [2] rfl)
    · replace hf := if_n hc hf
      refine lv_aload_n hx hb d_MO_lakeAt_13 rfl (lv_at hl 0 rfl) ?_
      refine g_MO_isThere hx hb hts hown hG hP (hts _ in_579) d_MO_lakeAt_14 ?_
      refine lv_iload_n hx hb d_MO_lakeAt_17 rfl (lv_at hl 3 rfl) ?_
      replace hf := G_some hf
      obtain ⟨hi1, hf⟩ := hf
      refine r_zald hx hb hG hP 78 64 (f := ν.1 78) (by decide) (wc_M (by decide) rfl) hi1 d_MO_lakeAt_18 ?_
      replace hf := B_some hf
      obtain ⟨v2, hv2, hf⟩ := hf
      have hJ : ∀ (H : Heap) (locs : List Loc) (ls : Array Slot), va_P D cls (wld adr cA μ ν) H → va_S (AA adr) s.heap H locs → lv_has ls 4 [(0, .ref (adr 63)), (1, .int y1), (3, .int y3)] → W p l e rm_MO_lakeAt s m args below meth c H locs 0 0 Q (F0 m 36 ls [.int v2]) := by
        clear hv2
        intro H locs ls hP hS hl
        refine lv_istore_n (lv' := [(2, .int v2), (0, .ref (adr 63)), (1, .int y1), (3, .int y3)]) hx hb d_MO_lakeAt_36 rfl hl (by decide) rfl (fun ls hl => ?_)
        refine lv_iinc (v := (y3 + 1)) (lv' := [(3, .int (y3 + 1)), (2, .int v2), (0, .ref (adr 63)), (1, .int y1)]) hx hb d_MO_lakeAt_37 hl (k := 3) rfl rfl (by decide) rfl (fun ls hl => ?_)
        refine lv_goto (tgt := 5) hx hb d_MO_lakeAt_40 (by decide) ?_
        exact ih _ _ hf hP hS (lv_sub hl [2, 3, 1, 0] rfl)
      clear hf
      have hf := hv2
      clear hv2
      refine lv_if_eq (tgt := 35) hx hb d_MO_lakeAt_19 (by decide) (fun hc => ?_) (fun hc => ?_)
      · replace hf := if_p hc hf
        refine lv_iload_n hx hb d_MO_lakeAt_35 rfl (lv_at hl 2 rfl) ?_
        obtain rfl := Option.some.inj hf
        exact hJ _ _ _ hP hS (lv_sub hl [0, 1, 3] rfl)
      · replace hf := if_n hc hf
        refine lv_aload_n hx hb d_MO_lakeAt_22 rfl (lv_at hl 0 rfl) ?_
        refine lv_iload_n hx hb d_MO_lakeAt_23 rfl (lv_at hl 3 rfl) ?_
        refine lv_iload_n hx hb d_MO_lakeAt_24 rfl (lv_at hl 1 rfl) ?_
        replace hf := B_some hf
        obtain ⟨v3, hv3, hf⟩ := hf
        refine ki (kv (As := [.int y3, .int y1]) (rest := []) ⟨hx, hb, hml, hown, hts⟩ (cw_MO_180 hts ⟨Nat.le_of_ble_eq_true rfl, Nat.le_of_ble_eq_true rfl⟩) (c_MO_isOf l D adr cA μ ν y3 y1 hv3) hG hP (rc_o (q := 63) (ci := 5) hG hP (by decide) (wc_M (by decide) rfl) rfl) rfl hl.1 (Nat.le_of_ble_eq_true rfl) d_MO_lakeAt_25) hS (fun H locs hP hS => ?_)
        refine lv_if_eq (tgt := 35) hx hb d_MO_lakeAt_28 (by decide) (fun hc => ?_) (fun hc => ?_)
        · replace hf := if_p hc hf
          refine lv_iload_n hx hb d_MO_lakeAt_35 rfl (lv_at hl 2 rfl) ?_
          obtain rfl := Option.some.inj hf
          exact hJ _ _ _ hP hS (lv_sub hl [0, 1, 3] rfl)
        · replace hf := if_n hc hf
          refine lv_iload_n hx hb d_MO_lakeAt_31 rfl (lv_at hl 3 rfl) ?_
          refine lv_goto (tgt := 36) hx hb d_MO_lakeAt_32 (by decide) ?_
          obtain rfl := Option.some.inj hf
          exact hJ _ _ _ hP hS (lv_sub hl [0, 1, 3] rfl)
set_option maxHeartbeats 4000000 in
set_option maxRecDepth 100000 in
theorem w_MO_lakeAt (x1 : Int32)  (C : Cx prog_7_method_27_code 4 "LakeReliefModel" (Option.some Jvm.ClassFile.FieldType.int) p s m args meth c) (hG : Geo D adr cA s) {res : Int32} (hf : f_MO_lakeAt ν x1 = some res) (hq : ∀ (pc : Nat) (ls : Array Slot) (H : Heap) (locs : List Loc), decode prog_7_method_27_code pc = .ok (.ireturn, 1) → va_P D cls (wld adr cA μ ν) H → va_S (AA adr) s.heap H locs → W p l e rm_MO_lakeAt s m args below meth c H locs 0 0 Q (F0 m pc ls [.int res])) {H : Heap} {locs : List Loc} {ls : Array Slot} (hP : va_P D cls (wld adr cA μ ν) H) (hS : va_S (AA adr) s.heap H locs) (hl : lv_has ls 4 [(0, .ref (adr 63)), (1, .int x1)]) : W p l e rm_MO_lakeAt s m args below meth c H locs 0 0 Q (F0 m 0 ls []) := by
  obtain ⟨hx, hb, hml, hown, hts, hr, hlocks⟩ := id C
  unfold f_MO_lakeAt at hf
  refine lv_bipush (v := (-3)) hx hb d_MO_lakeAt_0 (by decide) ?_
  refine lv_istore_n (lv' := [(2, .int (-3)), (0, .ref (adr 63)), (1, .int x1)]) hx hb d_MO_lakeAt_2 rfl hl (by decide) rfl (fun ls hl => ?_)
  refine lv_iconst (v := 0) hx hb d_MO_lakeAt_3 (by decide) ?_
  refine lv_istore_n (lv' := [(3, .int 0), (2, .int (-3)), (0, .ref (adr 63)), (1, .int x1)]) hx hb d_MO_lakeAt_4 rfl hl (by decide) rfl (fun ls hl => ?_)
  replace hf := B_some hf
  obtain ⟨v4, hv4, hf⟩ := hf
  refine w_MO_lakeAt_L5 x1  C hG v4 ?_ FU _ _ hv4 hP hS (lv_sub hl [2, 3, 1, 0] rfl)
  clear hv4 hP hS hl
  intro H locs ls hP hS hl
  refine lv_iload_n hx hb d_MO_lakeAt_43 rfl (lv_at hl 0 rfl) ?_
  obtain rfl := Option.some.inj hf
  exact hq _ _ _ _ d_MO_lakeAt_44 hP hS
theorem c_MO_lakeAt (l : Launch) (D : va_G) (adr : Nat → Nat) (cA : Nat → ClassId) (μ ν : Mem) (x1 : Int32)  {res : Int32} (hf : f_MO_lakeAt ν x1 = some res) : Met l y_MO_lakeAt (Cond.code y_MO_lakeAt prog_7_method_27_code 4 (Option.some Jvm.ClassFile.FieldType.int) :: lw_ok) rm_MO_lakeAt (va_Pc [.ref (adr 63), .int x1] (Wd D adr cA μ ν)) (QI D adr cA res μ ν) 0 0 (AA adr) :=
  met_of (own := "LakeReliefModel") rfl rfl (Nat.le_of_ble_eq_true rfl) (fun p e s m below meth c C hG hP hS ls hl => w_MO_lakeAt x1  C hG hf (fun pc ls H locs hd hP hS => ret_i C.1 C.2.1 C.2.2.2.2.2.1 C.2.2.2.2.2.2 hG hd hP hS) hP hS hl)
end X_MO_lakeAt
