section X_MO_count
variable {p : Program} {l : Launch} {e : Env} {s : State} {m : MethodId} {args : Array Value} {below : List Frame} {meth : Method} {c : Code} {Q : State → Prop}
variable {D : va_G} {adr : Nat → Nat} {cA : Nat → ClassId} {μ ν : Mem}
theorem d_MO_count_0 : decode prog_7_method_47_code 0 = .ok (.aload_n 0, 1) := by decide +kernel
theorem d_MO_count_1 : decode prog_7_method_47_code 1 = .ok (.getfield 156, 3) := by decide +kernel
theorem d_MO_count_4 : decode prog_7_method_47_code 4 = .ok (.ifCond .ne 7, 3) := by decide +kernel
theorem d_MO_count_7 : decode prog_7_method_47_code 7 = .ok (.ldc2_w 225, 3) := by decide +kernel
theorem d_MO_count_10 : decode prog_7_method_47_code 10 = .ok (.lreturn, 1) := by decide +kernel
theorem d_MO_count_11 : decode prog_7_method_47_code 11 = .ok (.lconst 0, 1) := by decide +kernel
theorem d_MO_count_12 : decode prog_7_method_47_code 12 = .ok (.lstore_n 2, 1) := by decide +kernel
theorem d_MO_count_13 : decode prog_7_method_47_code 13 = .ok (.iload_n 1, 1) := by decide +kernel
theorem d_MO_count_14 : decode prog_7_method_47_code 14 = .ok (.tableswitch 177 0 7 #[46, 52, 52, 107, 113, 113, 167, 172], 46) := by decide +kernel
theorem d_MO_count_60 : decode prog_7_method_47_code 60 = .ok (.aload_n 0, 1) := by decide +kernel
theorem d_MO_count_61 : decode prog_7_method_47_code 61 = .ok (.getfield 102, 3) := by decide +kernel
theorem d_MO_count_64 : decode prog_7_method_47_code 64 = .ok (.i2l, 1) := by decide +kernel
theorem d_MO_count_65 : decode prog_7_method_47_code 65 = .ok (.lreturn, 1) := by decide +kernel
theorem d_MO_count_66 : decode prog_7_method_47_code 66 = .ok (.iconst 0, 1) := by decide +kernel
theorem d_MO_count_67 : decode prog_7_method_47_code 67 = .ok (.istore 4, 2) := by decide +kernel
theorem d_MO_count_69 : decode prog_7_method_47_code 69 = .ok (.iload 4, 2) := by decide +kernel
theorem d_MO_count_71 : decode prog_7_method_47_code 71 = .ok (.aload_n 0, 1) := by decide +kernel
theorem d_MO_count_72 : decode prog_7_method_47_code 72 = .ok (.getfield 102, 3) := by decide +kernel
theorem d_MO_count_75 : decode prog_7_method_47_code 75 = .ok (.if_icmp .ge 44, 3) := by decide +kernel
theorem d_MO_count_78 : decode prog_7_method_47_code 78 = .ok (.lload_n 2, 1) := by decide +kernel
theorem d_MO_count_79 : decode prog_7_method_47_code 79 = .ok (.aload_n 0, 1) := by decide +kernel
theorem d_MO_count_80 : decode prog_7_method_47_code 80 = .ok (.getfield 19, 3) := by decide +kernel
theorem d_MO_count_83 : decode prog_7_method_47_code 83 = .ok (.iload 4, 2) := by decide +kernel
theorem d_MO_count_85 : decode prog_7_method_47_code 85 = .ok (.baload, 1) := by decide +kernel
theorem d_MO_count_86 : decode prog_7_method_47_code 86 = .ok (.ifCond .ne 24, 3) := by decide +kernel
theorem d_MO_count_89 : decode prog_7_method_47_code 89 = .ok (.iload_n 1, 1) := by decide +kernel
theorem d_MO_count_90 : decode prog_7_method_47_code 90 = .ok (.iconst 1, 1) := by decide +kernel
theorem d_MO_count_91 : decode prog_7_method_47_code 91 = .ok (.if_icmp .eq 15, 3) := by decide +kernel
theorem d_MO_count_94 : decode prog_7_method_47_code 94 = .ok (.aload_n 0, 1) := by decide +kernel
theorem d_MO_count_95 : decode prog_7_method_47_code 95 = .ok (.getfield 26, 3) := by decide +kernel
theorem d_MO_count_98 : decode prog_7_method_47_code 98 = .ok (.iload 4, 2) := by decide +kernel
theorem d_MO_count_100 : decode prog_7_method_47_code 100 = .ok (.iaload, 1) := by decide +kernel
theorem d_MO_count_101 : decode prog_7_method_47_code 101 = .ok (.bipush (-3), 2) := by decide +kernel
theorem d_MO_count_103 : decode prog_7_method_47_code 103 = .ok (.if_icmp .ne 7, 3) := by decide +kernel
theorem d_MO_count_106 : decode prog_7_method_47_code 106 = .ok (.lconst 1, 1) := by decide +kernel
theorem d_MO_count_107 : decode prog_7_method_47_code 107 = .ok (.goto 4, 3) := by decide +kernel
theorem d_MO_count_110 : decode prog_7_method_47_code 110 = .ok (.lconst 0, 1) := by decide +kernel
theorem d_MO_count_111 : decode prog_7_method_47_code 111 = .ok (.ladd, 1) := by decide +kernel
theorem d_MO_count_112 : decode prog_7_method_47_code 112 = .ok (.lstore_n 2, 1) := by decide +kernel
theorem d_MO_count_113 : decode prog_7_method_47_code 113 = .ok (.iinc 4 1, 3) := by decide +kernel
theorem d_MO_count_116 : decode prog_7_method_47_code 116 = .ok (.goto (-47), 3) := by decide +kernel
theorem d_MO_count_119 : decode prog_7_method_47_code 119 = .ok (.lload_n 2, 1) := by decide +kernel
theorem d_MO_count_120 : decode prog_7_method_47_code 120 = .ok (.lreturn, 1) := by decide +kernel
theorem d_MO_count_121 : decode prog_7_method_47_code 121 = .ok (.aload_n 0, 1) := by decide +kernel
theorem d_MO_count_122 : decode prog_7_method_47_code 122 = .ok (.getfield 116, 3) := by decide +kernel
theorem d_MO_count_125 : decode prog_7_method_47_code 125 = .ok (.i2l, 1) := by decide +kernel
theorem d_MO_count_126 : decode prog_7_method_47_code 126 = .ok (.lreturn, 1) := by decide +kernel
theorem d_MO_count_127 : decode prog_7_method_47_code 127 = .ok (.iconst 0, 1) := by decide +kernel
theorem d_MO_count_128 : decode prog_7_method_47_code 128 = .ok (.istore 4, 2) := by decide +kernel
theorem d_MO_count_130 : decode prog_7_method_47_code 130 = .ok (.iload 4, 2) := by decide +kernel
theorem d_MO_count_132 : decode prog_7_method_47_code 132 = .ok (.aload_n 0, 1) := by decide +kernel
theorem d_MO_count_133 : decode prog_7_method_47_code 133 = .ok (.getfield 116, 3) := by decide +kernel
theorem d_MO_count_136 : decode prog_7_method_47_code 136 = .ok (.if_icmp .ge 43, 3) := by decide +kernel
theorem d_MO_count_139 : decode prog_7_method_47_code 139 = .ok (.lload_n 2, 1) := by decide +kernel
theorem d_MO_count_140 : decode prog_7_method_47_code 140 = .ok (.aload_n 0, 1) := by decide +kernel
theorem d_MO_count_141 : decode prog_7_method_47_code 141 = .ok (.getfield 54, 3) := by decide +kernel
theorem d_MO_count_144 : decode prog_7_method_47_code 144 = .ok (.iload 4, 2) := by decide +kernel
theorem d_MO_count_146 : decode prog_7_method_47_code 146 = .ok (.baload, 1) := by decide +kernel
theorem d_MO_count_147 : decode prog_7_method_47_code 147 = .ok (.ifCond .ne 7, 3) := by decide +kernel
theorem d_MO_count_150 : decode prog_7_method_47_code 150 = .ok (.lconst 0, 1) := by decide +kernel
theorem d_MO_count_151 : decode prog_7_method_47_code 151 = .ok (.goto 20, 3) := by decide +kernel
theorem d_MO_count_154 : decode prog_7_method_47_code 154 = .ok (.iload_n 1, 1) := by decide +kernel
theorem d_MO_count_155 : decode prog_7_method_47_code 155 = .ok (.iconst 4, 1) := by decide +kernel
theorem d_MO_count_156 : decode prog_7_method_47_code 156 = .ok (.if_icmp .ne 7, 3) := by decide +kernel
theorem d_MO_count_159 : decode prog_7_method_47_code 159 = .ok (.lconst 1, 1) := by decide +kernel
theorem d_MO_count_160 : decode prog_7_method_47_code 160 = .ok (.goto 11, 3) := by decide +kernel
theorem d_MO_count_163 : decode prog_7_method_47_code 163 = .ok (.aload_n 0, 1) := by decide +kernel
theorem d_MO_count_164 : decode prog_7_method_47_code 164 = .ok (.getfield 57, 3) := by decide +kernel
theorem d_MO_count_167 : decode prog_7_method_47_code 167 = .ok (.iload 4, 2) := by decide +kernel
theorem d_MO_count_169 : decode prog_7_method_47_code 169 = .ok (.iaload, 1) := by decide +kernel
theorem d_MO_count_170 : decode prog_7_method_47_code 170 = .ok (.i2l, 1) := by decide +kernel
theorem d_MO_count_171 : decode prog_7_method_47_code 171 = .ok (.ladd, 1) := by decide +kernel
theorem d_MO_count_172 : decode prog_7_method_47_code 172 = .ok (.lstore_n 2, 1) := by decide +kernel
theorem d_MO_count_173 : decode prog_7_method_47_code 173 = .ok (.iinc 4 1, 3) := by decide +kernel
theorem d_MO_count_176 : decode prog_7_method_47_code 176 = .ok (.goto (-46), 3) := by decide +kernel
theorem d_MO_count_179 : decode prog_7_method_47_code 179 = .ok (.lload_n 2, 1) := by decide +kernel
theorem d_MO_count_180 : decode prog_7_method_47_code 180 = .ok (.lreturn, 1) := by decide +kernel
theorem d_MO_count_181 : decode prog_7_method_47_code 181 = .ok (.aload_n 0, 1) := by decide +kernel
theorem d_MO_count_182 : decode prog_7_method_47_code 182 = .ok (.getfield 173, 3) := by decide +kernel
theorem d_MO_count_185 : decode prog_7_method_47_code 185 = .ok (.lreturn, 1) := by decide +kernel
theorem d_MO_count_186 : decode prog_7_method_47_code 186 = .ok (.aload_n 0, 1) := by decide +kernel
theorem d_MO_count_187 : decode prog_7_method_47_code 187 = .ok (.getfield 177, 3) := by decide +kernel
theorem d_MO_count_190 : decode prog_7_method_47_code 190 = .ok (.lreturn, 1) := by decide +kernel
theorem d_MO_count_191 : decode prog_7_method_47_code 191 = .ok (.ldc2_w 88, 3) := by decide +kernel
theorem d_MO_count_194 : decode prog_7_method_47_code 194 = .ok (.lreturn, 1) := by decide +kernel
set_option maxHeartbeats 4000000 in
set_option maxRecDepth 100000 in
theorem w_MO_count_L69 (y1 : Int32)  (C : Cx prog_7_method_47_code 5 "LakeReliefModel" (Option.some Jvm.ClassFile.FieldType.long) p s m args meth c) (hG : Geo D adr cA s) (v : Int64) (hE : ∀ (H : Heap) (locs : List Loc) (ls : Array Slot), va_P D cls (wld adr cA μ ν) H → va_S (AA adr) s.heap H locs → lv_has ls 5 [(2, .long v)] → W p l e rm_MO_count s m args below meth c H locs 0 0 Q (F0 m 119 ls [])) : ∀ (n : Nat) (y2 : Int64) (y4 : Int32), f_MO_count_L69 ν y1 n y2 y4 = some v → ∀ {H : Heap} {locs : List Loc} {ls : Array Slot}, va_P D cls (wld adr cA μ ν) H → va_S (AA adr) s.heap H locs → lv_has ls 5 [(0, .ref (adr 63)), (1, .int y1), (2, .long y2), (4, .int y4)] → W p l e rm_MO_count s m args below meth c H locs 0 0 Q (F0 m 69 ls []) := by
  obtain ⟨hx, hb, hml, hown, hts, hr, hlocks⟩ := id C
  intro n
  induction n with
  | zero => intro y2 y4 hf; rw [f_MO_count_L69.eq_1] at hf; cases hf
  | succ n ih =>
    intro y2 y4 hf H locs ls hP hS hl
    rw [f_MO_count_L69.eq_2] at hf
    refine lv_iload hx hb d_MO_count_69 (lv_at hl 3 rfl) ?_
    refine lv_aload_n hx hb d_MO_count_71 rfl (lv_at hl 0 rfl) ?_
    refine g_MO_fields hx hb hts hown hG hP (hts _ in_566) d_MO_count_72 ?_
    refine lv_icmp_ge (tgt := 119) hx hb d_MO_count_75 (by decide) (fun hc => ?_) (fun hc => ?_)
    · replace hf := if_p hc hf
      obtain rfl := Option.some.inj hf
      exact hE _ _ _ hP hS (lv_sub hl [2] rfl)
    · replace hf := if_n hc hf
      refine lv_lload_n hx hb d_MO_count_78 rfl (lv_at hl 2 rfl) ?_
      refine lv_aload_n hx hb d_MO_count_79 rfl (lv_at hl 0 rfl) ?_
      refine g_MO_isSea hx hb hts hown hG hP (hts _ in_567) d_MO_count_80 ?_
      refine lv_iload hx hb d_MO_count_83 (lv_at hl 3 rfl) ?_
      replace hf := G_some hf
      obtain ⟨hi1, hf⟩ := hf
      refine r_zald hx hb hG hP 67 64 (f := ν.1 67) (by decide) (wc_M (by decide) rfl) hi1 d_MO_count_85 ?_
      replace hf := B_some hf
      obtain ⟨v2, hv2, hf⟩ := hf
      have hJ : ∀ (H : Heap) (locs : List Loc) (ls : Array Slot), va_P D cls (wld adr cA μ ν) H → va_S (AA adr) s.heap H locs → lv_has ls 5 [(0, .ref (adr 63)), (1, .int y1), (4, .int y4)] → W p l e rm_MO_count s m args below meth c H locs 0 0 Q (F0 m 111 ls [.long v2, .long y2]) := by
        clear hv2
        intro H locs ls hP hS hl
        refine lv_ladd hx hb d_MO_count_111 ?_
        refine lv_lstore_n (lv' := [(2, .long (y2 + v2)), (0, .ref (adr 63)), (1, .int y1), (4, .int y4)]) hx hb d_MO_count_112 rfl hl (by decide) rfl (fun ls hl => ?_)
        refine lv_iinc (v := (y4 + 1)) (lv' := [(4, .int (y4 + 1)), (2, .long (y2 + v2)), (0, .ref (adr 63)), (1, .int y1)]) hx hb d_MO_count_113 hl (k := 3) rfl rfl (by decide) rfl (fun ls hl => ?_)
        refine lv_goto (tgt := 69) hx hb d_MO_count_116 (by decide) ?_
        exact ih _ _ hf hP hS (lv_sub hl [2, 3, 1, 0] rfl)
      clear hf
      have hf := hv2
      clear hv2
      refine lv_if_ne (tgt := 110) hx hb d_MO_count_86 (by decide) (fun hc => ?_) (fun hc => ?_)
      · replace hf := if_n hc hf
        refine lv_lconst (v := 0) hx hb d_MO_count_110 (by decide) ?_
        obtain rfl := Option.some.inj hf
        exact hJ _ _ _ hP hS (lv_sub hl [0, 1, 3] rfl)
      · replace hf := if_p hc hf
        refine lv_iload_n hx hb d_MO_count_89 rfl (lv_at hl 1 rfl) ?_
        refine lv_iconst (v := 1) hx hb d_MO_count_90 (by decide) ?_
        refine lv_icmp_eq (tgt := 106) hx hb d_MO_count_91 (by decide) (fun hc => ?_) (fun hc => ?_)
        · replace hf := if_p hc hf
          refine lv_lconst (v := 1) hx hb d_MO_count_106 (by decide) ?_
          refine lv_goto (tgt := 111) hx hb d_MO_count_107 (by decide) ?_
          obtain rfl := Option.some.inj hf
          exact hJ _ _ _ hP hS (lv_sub hl [0, 1, 3] rfl)
        · replace hf := if_n hc hf
          refine lv_aload_n hx hb d_MO_count_94 rfl (lv_at hl 0 rfl) ?_
          refine g_MO_down hx hb hts hown hG hP (hts _ in_569) d_MO_count_95 ?_
          refine lv_iload hx hb d_MO_count_98 (lv_at hl 3 rfl) ?_
          replace hf := G_some hf
          obtain ⟨hi3, hf⟩ := hf
          refine r_iald hx hb hG hP 69 64 (f := ν.1 69) (by decide) (wc_M (by decide) rfl) hi3 d_MO_count_100 ?_
          refine lv_bipush (v := (-3)) hx hb d_MO_count_101 (by decide) ?_
          refine lv_icmp_ne (tgt := 110) hx hb d_MO_count_103 (by decide) (fun hc => ?_) (fun hc => ?_)
          · replace hf := if_n hc hf
            refine lv_lconst (v := 0) hx hb d_MO_count_110 (by decide) ?_
            obtain rfl := Option.some.inj hf
            exact hJ _ _ _ hP hS (lv_sub hl [0, 1, 3] rfl)
          · replace hf := if_p hc hf
            refine lv_lconst (v := 1) hx hb d_MO_count_106 (by decide) ?_
            refine lv_goto (tgt := 111) hx hb d_MO_count_107 (by decide) ?_
            obtain rfl := Option.some.inj hf
            exact hJ _ _ _ hP hS (lv_sub hl [0, 1, 3] rfl)
set_option maxHeartbeats 4000000 in
set_option maxRecDepth 100000 in
theorem w_MO_count_L130 (y1 : Int32)  (C : Cx prog_7_method_47_code 5 "LakeReliefModel" (Option.some Jvm.ClassFile.FieldType.long) p s m args meth c) (hG : Geo D adr cA s) (v : Int64) (hE : ∀ (H : Heap) (locs : List Loc) (ls : Array Slot), va_P D cls (wld adr cA μ ν) H → va_S (AA adr) s.heap H locs → lv_has ls 5 [(2, .long v)] → W p l e rm_MO_count s m args below meth c H locs 0 0 Q (F0 m 179 ls [])) : ∀ (n : Nat) (y2 : Int64) (y4 : Int32), f_MO_count_L130 ν y1 n y2 y4 = some v → ∀ {H : Heap} {locs : List Loc} {ls : Array Slot}, va_P D cls (wld adr cA μ ν) H → va_S (AA adr) s.heap H locs → lv_has ls 5 [(0, .ref (adr 63)), (1, .int y1), (2, .long y2), (4, .int y4)] → W p l e rm_MO_count s m args below meth c H locs 0 0 Q (F0 m 130 ls []) := by
  obtain ⟨hx, hb, hml, hown, hts, hr, hlocks⟩ := id C
  intro n
  induction n with
  | zero => intro y2 y4 hf; rw [f_MO_count_L130.eq_1] at hf; cases hf
  | succ n ih =>
    intro y2 y4 hf H locs ls hP hS hl
    rw [f_MO_count_L130.eq_2] at hf
    refine lv_iload hx hb d_MO_count_130 (lv_at hl 3 rfl) ?_
    refine lv_aload_n hx hb d_MO_count_132 rfl (lv_at hl 0 rfl) ?_
    refine g_MO_lakes hx hb hts hown hG hP (hts _ in_572) d_MO_count_133 ?_
    refine lv_icmp_ge (tgt := 179) hx hb d_MO_count_136 (by decide) (fun hc => ?_) (fun hc => ?_)
    · replace hf := if_p hc hf
      obtain rfl := Option.some.inj hf
      exact hE _ _ _ hP hS (lv_sub hl [2] rfl)
    · replace hf := if_n hc hf
      refine lv_lload_n hx hb d_MO_count_139 rfl (lv_at hl 2 rfl) ?_
      refine lv_aload_n hx hb d_MO_count_140 rfl (lv_at hl 0 rfl) ?_
      refine g_MO_isThere hx hb hts hown hG hP (hts _ in_579) d_MO_count_141 ?_
      refine lv_iload hx hb d_MO_count_144 (lv_at hl 3 rfl) ?_
      replace hf := G_some hf
      obtain ⟨hi9, hf⟩ := hf
      refine r_zald hx hb hG hP 78 64 (f := ν.1 78) (by decide) (wc_M (by decide) rfl) hi9 d_MO_count_146 ?_
      replace hf := B_some hf
      obtain ⟨v10, hv10, hf⟩ := hf
      have hJ : ∀ (H : Heap) (locs : List Loc) (ls : Array Slot), va_P D cls (wld adr cA μ ν) H → va_S (AA adr) s.heap H locs → lv_has ls 5 [(0, .ref (adr 63)), (1, .int y1), (4, .int y4)] → W p l e rm_MO_count s m args below meth c H locs 0 0 Q (F0 m 171 ls [.long v10, .long y2]) := by
        clear hv10
        intro H locs ls hP hS hl
        refine lv_ladd hx hb d_MO_count_171 ?_
        refine lv_lstore_n (lv' := [(2, .long (y2 + v10)), (0, .ref (adr 63)), (1, .int y1), (4, .int y4)]) hx hb d_MO_count_172 rfl hl (by decide) rfl (fun ls hl => ?_)
        refine lv_iinc (v := (y4 + 1)) (lv' := [(4, .int (y4 + 1)), (2, .long (y2 + v10)), (0, .ref (adr 63)), (1, .int y1)]) hx hb d_MO_count_173 hl (k := 3) rfl rfl (by decide) rfl (fun ls hl => ?_)
        refine lv_goto (tgt := 130) hx hb d_MO_count_176 (by decide) ?_
        exact ih _ _ hf hP hS (lv_sub hl [2, 3, 1, 0] rfl)
      clear hf
      have hf := hv10
      clear hv10
      refine lv_if_ne (tgt := 154) hx hb d_MO_count_147 (by decide) (fun hc => ?_) (fun hc => ?_)
      · replace hf := if_n hc hf
        refine lv_iload_n hx hb d_MO_count_154 rfl (lv_at hl 1 rfl) ?_
        refine lv_iconst (v := 4) hx hb d_MO_count_155 (by decide) ?_
        refine lv_icmp_ne (tgt := 163) hx hb d_MO_count_156 (by decide) (fun hc => ?_) (fun hc => ?_)
        · replace hf := if_n hc hf
          refine lv_aload_n hx hb d_MO_count_163 rfl (lv_at hl 0 rfl) ?_
          refine g_MO_water hx hb hts hown hG hP (hts _ in_580) d_MO_count_164 ?_
          refine lv_iload hx hb d_MO_count_167 (lv_at hl 3 rfl) ?_
          replace hf := G_some hf
          obtain ⟨hi11, hf⟩ := hf
          refine r_iald hx hb hG hP 79 64 (f := ν.1 79) (by decide) (wc_M (by decide) rfl) hi11 d_MO_count_169 ?_
          refine lv_i2l hx hb d_MO_count_170 rfl ?_
          obtain rfl := Option.some.inj hf
          exact hJ _ _ _ hP hS (lv_sub hl [0, 1, 3] rfl)
        · replace hf := if_p hc hf
          refine lv_lconst (v := 1) hx hb d_MO_count_159 (by decide) ?_
          refine lv_goto (tgt := 171) hx hb d_MO_count_160 (by decide) ?_
          obtain rfl := Option.some.inj hf
          exact hJ _ _ _ hP hS (lv_sub hl [0, 1, 3] rfl)
      · replace hf := if_p hc hf
        refine lv_lconst (v := 0) hx hb d_MO_count_150 (by decide) ?_
        refine lv_goto (tgt := 171) hx hb d_MO_count_151 (by decide) ?_
        obtain rfl := Option.some.inj hf
        exact hJ _ _ _ hP hS (lv_sub hl [0, 1, 3] rfl)
set_option maxHeartbeats 4000000 in
set_option maxRecDepth 100000 in
theorem w_MO_count (x1 : Int32)  (C : Cx prog_7_method_47_code 5 "LakeReliefModel" (Option.some Jvm.ClassFile.FieldType.long) p s m args meth c) (hG : Geo D adr cA s) {res : Int64} (hf : f_MO_count ν x1 = some res) (hq : ∀ (pc : Nat) (ls : Array Slot) (H : Heap) (locs : List Loc), decode prog_7_method_47_code pc = .ok (.lreturn, 1) → va_P D cls (wld adr cA μ ν) H → va_S (AA adr) s.heap H locs → W p l e rm_MO_count s m args below meth c H locs 0 0 Q (F0 m pc ls [.long res])) {H : Heap} {locs : List Loc} {ls : Array Slot} (hP : va_P D cls (wld adr cA μ ν) H) (hS : va_S (AA adr) s.heap H locs) (hl : lv_has ls 5 [(0, .ref (adr 63)), (1, .int x1)]) : W p l e rm_MO_count s m args below meth c H locs 0 0 Q (F0 m 0 ls []) := by
  obtain ⟨hx, hb, hml, hown, hts, hr, hlocks⟩ := id C
  unfold f_MO_count at hf
  refine lv_aload_n hx hb d_MO_count_0 rfl (lv_at hl 0 rfl) ?_
  refine g_MO_isLaid hx hb hts hown hG hP (hts _ in_564) d_MO_count_1 ?_
  refine lv_if_ne (tgt := 11) hx hb d_MO_count_4 (by decide) (fun hc => ?_) (fun hc => ?_)
  · replace hf := if_n hc hf
    refine lv_lconst (v := 0) hx hb d_MO_count_11 (by decide) ?_
    refine lv_lstore_n (lv' := [(2, .long 0), (0, .ref (adr 63)), (1, .int x1)]) hx hb d_MO_count_12 rfl hl (by decide) rfl (fun ls hl => ?_)
    refine lv_iload_n hx hb d_MO_count_13 rfl (lv_at hl 2 rfl) ?_
    by_cases hc0 : x1 = 0
    · replace hf := if_p hc0 hf
      refine lv_tableIn (tgt := 60) (off := 46) hx hb d_MO_count_14 (by rw [hc0]; decide) (by rw [hc0]; decide) (by rw [hc0]; rfl) (by decide) ?_
      refine lv_aload_n hx hb d_MO_count_60 rfl (lv_at hl 1 rfl) ?_
      refine g_MO_fields hx hb hts hown hG hP (hts _ in_566) d_MO_count_61 ?_
      refine lv_i2l hx hb d_MO_count_64 rfl ?_
      obtain rfl := Option.some.inj hf
      exact hq _ _ _ _ d_MO_count_65 hP hS
    replace hf := if_n hc0 hf
    by_cases hc1 : x1 = 1
    · replace hf := if_p hc1 hf
      refine lv_tableIn (tgt := 66) (off := 52) hx hb d_MO_count_14 (by rw [hc1]; decide) (by rw [hc1]; decide) (by rw [hc1]; rfl) (by decide) ?_
      refine lv_iconst (v := 0) hx hb d_MO_count_66 (by decide) ?_
      refine lv_istore (lv' := [(4, .int 0), (2, .long 0), (0, .ref (adr 63)), (1, .int x1)]) hx hb d_MO_count_67 hl (by decide) rfl (fun ls hl => ?_)
      replace hf := B_some hf
      obtain ⟨v4, hv4, hf⟩ := hf
      refine w_MO_count_L69 x1  C hG v4 ?_ FU _ _ hv4 hP hS (lv_sub hl [2, 3, 1, 0] rfl)
      clear hv4 hP hS hl
      intro H locs ls hP hS hl
      refine lv_lload_n hx hb d_MO_count_119 rfl (lv_at hl 0 rfl) ?_
      obtain rfl := Option.some.inj hf
      exact hq _ _ _ _ d_MO_count_120 hP hS
    replace hf := if_n hc1 hf
    by_cases hc2 : x1 = 2
    · replace hf := if_p hc2 hf
      refine lv_tableIn (tgt := 66) (off := 52) hx hb d_MO_count_14 (by rw [hc2]; decide) (by rw [hc2]; decide) (by rw [hc2]; rfl) (by decide) ?_
      refine lv_iconst (v := 0) hx hb d_MO_count_66 (by decide) ?_
      refine lv_istore (lv' := [(4, .int 0), (2, .long 0), (0, .ref (adr 63)), (1, .int x1)]) hx hb d_MO_count_67 hl (by decide) rfl (fun ls hl => ?_)
      replace hf := B_some hf
      obtain ⟨v8, hv8, hf⟩ := hf
      refine w_MO_count_L69 x1  C hG v8 ?_ FU _ _ hv8 hP hS (lv_sub hl [2, 3, 1, 0] rfl)
      clear hv8 hP hS hl
      intro H locs ls hP hS hl
      refine lv_lload_n hx hb d_MO_count_119 rfl (lv_at hl 0 rfl) ?_
      obtain rfl := Option.some.inj hf
      exact hq _ _ _ _ d_MO_count_120 hP hS
    replace hf := if_n hc2 hf
    by_cases hc3 : x1 = 3
    · replace hf := if_p hc3 hf
      refine lv_tableIn (tgt := 121) (off := 107) hx hb d_MO_count_14 (by rw [hc3]; decide) (by rw [hc3]; decide) (by rw [hc3]; rfl) (by decide) ?_
      refine lv_aload_n hx hb d_MO_count_121 rfl (lv_at hl 1 rfl) ?_
      refine g_MO_lakes hx hb hts hown hG hP (hts _ in_572) d_MO_count_122 ?_
      refine lv_i2l hx hb d_MO_count_125 rfl ?_
      obtain rfl := Option.some.inj hf
      exact hq _ _ _ _ d_MO_count_126 hP hS
    replace hf := if_n hc3 hf
    by_cases hc4 : x1 = 4
    · replace hf := if_p hc4 hf
      refine lv_tableIn (tgt := 127) (off := 113) hx hb d_MO_count_14 (by rw [hc4]; decide) (by rw [hc4]; decide) (by rw [hc4]; rfl) (by decide) ?_
      refine lv_iconst (v := 0) hx hb d_MO_count_127 (by decide) ?_
      refine lv_istore (lv' := [(4, .int 0), (2, .long 0), (0, .ref (adr 63)), (1, .int x1)]) hx hb d_MO_count_128 hl (by decide) rfl (fun ls hl => ?_)
      replace hf := B_some hf
      obtain ⟨v12, hv12, hf⟩ := hf
      refine w_MO_count_L130 x1  C hG v12 ?_ FU _ _ hv12 hP hS (lv_sub hl [2, 3, 1, 0] rfl)
      clear hv12 hP hS hl
      intro H locs ls hP hS hl
      refine lv_lload_n hx hb d_MO_count_179 rfl (lv_at hl 0 rfl) ?_
      obtain rfl := Option.some.inj hf
      exact hq _ _ _ _ d_MO_count_180 hP hS
    replace hf := if_n hc4 hf
    by_cases hc5 : x1 = 5
    · replace hf := if_p hc5 hf
      refine lv_tableIn (tgt := 127) (off := 113) hx hb d_MO_count_14 (by rw [hc5]; decide) (by rw [hc5]; decide) (by rw [hc5]; rfl) (by decide) ?_
      refine lv_iconst (v := 0) hx hb d_MO_count_127 (by decide) ?_
      refine lv_istore (lv' := [(4, .int 0), (2, .long 0), (0, .ref (adr 63)), (1, .int x1)]) hx hb d_MO_count_128 hl (by decide) rfl (fun ls hl => ?_)
      replace hf := B_some hf
      obtain ⟨v16, hv16, hf⟩ := hf
      refine w_MO_count_L130 x1  C hG v16 ?_ FU _ _ hv16 hP hS (lv_sub hl [2, 3, 1, 0] rfl)
      clear hv16 hP hS hl
      intro H locs ls hP hS hl
      refine lv_lload_n hx hb d_MO_count_179 rfl (lv_at hl 0 rfl) ?_
      obtain rfl := Option.some.inj hf
      exact hq _ _ _ _ d_MO_count_180 hP hS
    replace hf := if_n hc5 hf
    by_cases hc6 : x1 = 6
    · replace hf := if_p hc6 hf
      refine lv_tableIn (tgt := 181) (off := 167) hx hb d_MO_count_14 (by rw [hc6]; decide) (by rw [hc6]; decide) (by rw [hc6]; rfl) (by decide) ?_
      refine lv_aload_n hx hb d_MO_count_181 rfl (lv_at hl 1 rfl) ?_
      refine g_MO_gone hx hb hts hown hG hP (hts _ in_581) d_MO_count_182 ?_
      obtain rfl := Option.some.inj hf
      exact hq _ _ _ _ d_MO_count_185 hP hS
    replace hf := if_n hc6 hf
    by_cases hc7 : x1 = 7
    · replace hf := if_p hc7 hf
      refine lv_tableIn (tgt := 186) (off := 172) hx hb d_MO_count_14 (by rw [hc7]; decide) (by rw [hc7]; decide) (by rw [hc7]; rfl) (by decide) ?_
      refine lv_aload_n hx hb d_MO_count_186 rfl (lv_at hl 1 rfl) ?_
      refine g_MO_poured hx hb hts hown hG hP (hts _ in_582) d_MO_count_187 ?_
      obtain rfl := Option.some.inj hf
      exact hq _ _ _ _ d_MO_count_190 hP hS
    replace hf := if_n hc7 hf
    refine lv_tableOut (tgt := 191) hx hb d_MO_count_14 (by have hn0 := sw_ne (k := 0) hc0 (by decide) (by decide); have hn1 := sw_ne (k := 1) hc1 (by decide) (by decide); have hn2 := sw_ne (k := 2) hc2 (by decide) (by decide); have hn3 := sw_ne (k := 3) hc3 (by decide) (by decide); have hn4 := sw_ne (k := 4) hc4 (by decide) (by decide); have hn5 := sw_ne (k := 5) hc5 (by decide) (by decide); have hn6 := sw_ne (k := 6) hc6 (by decide) (by decide); have hn7 := sw_ne (k := 7) hc7 (by decide) (by decide); omega) (by decide) ?_
    refine lv_ldc2 (v := (-1)) hx hb hown (hts _ in_662) d_MO_count_191 ?_
    obtain rfl := Option.some.inj hf
    exact hq _ _ _ _ d_MO_count_194 hP hS
  · replace hf := if_p hc hf
    refine lv_ldc2 (v := (-2)) hx hb hown (hts _ in_846) d_MO_count_7 ?_
    obtain rfl := Option.some.inj hf
    exact hq _ _ _ _ d_MO_count_10 hP hS
theorem c_MO_count (l : Launch) (D : va_G) (adr : Nat → Nat) (cA : Nat → ClassId) (μ ν : Mem) (x1 : Int32)  {res : Int64} (hf : f_MO_count ν x1 = some res) : Met l y_MO_count (Cond.code y_MO_count prog_7_method_47_code 5 (Option.some Jvm.ClassFile.FieldType.long) :: lw_ok) rm_MO_count (va_Pc [.ref (adr 63), .int x1] (Wd D adr cA μ ν)) (QL D adr cA res μ ν) 0 0 (AA adr) :=
  met_of (own := "LakeReliefModel") rfl rfl (Nat.le_of_ble_eq_true rfl) (fun p e s m below meth c C hG hP hS ls hl => w_MO_count x1  C hG hf (fun pc ls H locs hd hP hS => ret_l C.1 C.2.1 C.2.2.2.2.2.1 C.2.2.2.2.2.2 hG hd hP hS) hP hS hl)
end X_MO_count
