section X_LA_begin
variable {p : Program} {l : Launch} {e : Env} {s : State} {m : MethodId} {args : Array Value} {below : List Frame} {meth : Method} {c : Code} {Q : State → Prop}
variable {D : va_G} {adr : Nat → Nat} {cA : Nat → ClassId} {μ ν : Mem}
theorem d_LA_begin_0 : decode prog_2_method_2_code 0 = .ok (.aload_n 0, 1) := by decide +kernel
theorem d_LA_begin_1 : decode prog_2_method_2_code 1 = .ok (.lload_n 1, 1) := by decide +kernel
theorem d_LA_begin_2 : decode prog_2_method_2_code 2 = .ok (.putfield 15, 3) := by decide +kernel
theorem d_LA_begin_5 : decode prog_2_method_2_code 5 = .ok (.aload_n 0, 1) := by decide +kernel
theorem d_LA_begin_6 : decode prog_2_method_2_code 6 = .ok (.bipush (-3), 2) := by decide +kernel
theorem d_LA_begin_8 : decode prog_2_method_2_code 8 = .ok (.putfield 19, 3) := by decide +kernel
theorem d_LA_begin_11 : decode prog_2_method_2_code 11 = .ok (.aload_n 0, 1) := by decide +kernel
theorem d_LA_begin_12 : decode prog_2_method_2_code 12 = .ok (.bipush (-3), 2) := by decide +kernel
theorem d_LA_begin_14 : decode prog_2_method_2_code 14 = .ok (.putfield 23, 3) := by decide +kernel
theorem d_LA_begin_17 : decode prog_2_method_2_code 17 = .ok (.aload_n 0, 1) := by decide +kernel
theorem d_LA_begin_18 : decode prog_2_method_2_code 18 = .ok (.iload_n 3, 1) := by decide +kernel
theorem d_LA_begin_19 : decode prog_2_method_2_code 19 = .ok (.iload 4, 2) := by decide +kernel
theorem d_LA_begin_21 : decode prog_2_method_2_code 21 = .ok (.invokestatic 26, 3) := by decide +kernel
theorem d_LA_begin_24 : decode prog_2_method_2_code 24 = .ok (.putfield 32, 3) := by decide +kernel
theorem d_LA_begin_27 : decode prog_2_method_2_code 27 = .ok (.aload_n 0, 1) := by decide +kernel
theorem d_LA_begin_28 : decode prog_2_method_2_code 28 = .ok (.iload_n 3, 1) := by decide +kernel
theorem d_LA_begin_29 : decode prog_2_method_2_code 29 = .ok (.iload 4, 2) := by decide +kernel
theorem d_LA_begin_31 : decode prog_2_method_2_code 31 = .ok (.invokestatic 35, 3) := by decide +kernel
theorem d_LA_begin_34 : decode prog_2_method_2_code 34 = .ok (.putfield 38, 3) := by decide +kernel
theorem d_LA_begin_37 : decode prog_2_method_2_code 37 = .ok (.aload_n 0, 1) := by decide +kernel
theorem d_LA_begin_38 : decode prog_2_method_2_code 38 = .ok (.iconst 0, 1) := by decide +kernel
theorem d_LA_begin_39 : decode prog_2_method_2_code 39 = .ok (.putfield 41, 3) := by decide +kernel
theorem d_LA_begin_42 : decode prog_2_method_2_code 42 = .ok (.aload_n 0, 1) := by decide +kernel
theorem d_LA_begin_43 : decode prog_2_method_2_code 43 = .ok (.iconst 0, 1) := by decide +kernel
theorem d_LA_begin_44 : decode prog_2_method_2_code 44 = .ok (.putfield 44, 3) := by decide +kernel
theorem d_LA_begin_47 : decode prog_2_method_2_code 47 = .ok (.aload_n 0, 1) := by decide +kernel
theorem d_LA_begin_48 : decode prog_2_method_2_code 48 = .ok (.iconst 0, 1) := by decide +kernel
theorem d_LA_begin_49 : decode prog_2_method_2_code 49 = .ok (.putfield 48, 3) := by decide +kernel
theorem d_LA_begin_52 : decode prog_2_method_2_code 52 = .ok (.return_, 1) := by decide +kernel
set_option maxHeartbeats 4000000 in
set_option maxRecDepth 100000 in
theorem w_LA_begin (o : Nat) (x1 : Int64) (x3 : Int32) (x4 : Int32) (ho : o < 35) (C : Cx prog_2_method_2_code 5 "LakeRelief$Lake" (Option.none : Option Jvm.ClassFile.FieldType) p s m args meth c) (hG : Geo D adr cA s) {res : Mem} (hf : f_LA_begin μ o x1 x3 x4 = res) (hq : ∀ (pc : Nat) (ls : Array Slot) (H : Heap) (locs : List Loc), decode prog_2_method_2_code pc = .ok (.return_, 1) → va_P D cls (wld adr cA res ν) H → va_S (AA adr) s.heap H locs → W p l e rm_LA_begin s m args below meth c H locs 0 0 Q (F0 m pc ls [])) {H : Heap} {locs : List Loc} {ls : Array Slot} (hP : va_P D cls (wld adr cA μ ν) H) (hS : va_S (AA adr) s.heap H locs) (hl : lv_has ls 5 [(0, .ref (adr (28 + o))), (1, .long x1), (3, .int x3), (4, .int x4)]) : W p l e rm_LA_begin s m args below meth c H locs 0 0 Q (F0 m 0 ls []) := by
  obtain ⟨hx, hb, hml, hown, hts, hr, hlocks⟩ := id C
  unfold f_LA_begin at hf
  refine lv_aload_n hx hb d_LA_begin_0 rfl (lv_at hl 0 rfl) ?_
  refine lv_lload_n hx hb d_LA_begin_1 rfl (lv_at hl 1 rfl) ?_
  refine p_LA_fields hx hb hts hown hG hP hS ho (hts _ in_111) d_LA_begin_2 (fun H locs hP hS => ?_)
  refine lv_aload_n hx hb d_LA_begin_5 rfl (lv_at hl 0 rfl) ?_
  refine lv_bipush (v := (-3)) hx hb d_LA_begin_6 (by decide) ?_
  refine p_LA_rim hx hb hts hown hG hP hS ho (hts _ in_114) d_LA_begin_8 (fun H locs hP hS => ?_)
  refine lv_aload_n hx hb d_LA_begin_11 rfl (lv_at hl 0 rfl) ?_
  refine lv_bipush (v := (-3)) hx hb d_LA_begin_12 (by decide) ?_
  refine p_LA_whole hx hb hts hown hG hP hS ho (hts _ in_117) d_LA_begin_14 (fun H locs hP hS => ?_)
  refine lv_aload_n hx hb d_LA_begin_17 rfl (lv_at hl 0 rfl) ?_
  refine lv_iload_n hx hb d_LA_begin_18 rfl (lv_at hl 2 rfl) ?_
  refine lv_iload hx hb d_LA_begin_19 (lv_at hl 3 rfl) ?_
  refine va_mmin hx hb (hml.trans hl.1.symm) hown (hts _ in_105) (hts _ in_106) (hts _ in_6) (hts _ in_107) (Nat.le_of_ble_eq_true rfl) (Nat.le_of_ble_eq_true rfl) (Nat.zero_le _) (Nat.zero_le _) d_LA_begin_21 ?_
  refine p_LA_lesserPart hx hb hts hown hG hP hS ho (hts _ in_120) d_LA_begin_24 (fun H locs hP hS => ?_)
  refine lv_aload_n hx hb d_LA_begin_27 rfl (lv_at hl 0 rfl) ?_
  refine lv_iload_n hx hb d_LA_begin_28 rfl (lv_at hl 2 rfl) ?_
  refine lv_iload hx hb d_LA_begin_29 (lv_at hl 3 rfl) ?_
  refine va_mmax hx hb (hml.trans hl.1.symm) hown (hts _ in_108) (hts _ in_109) (hts _ in_6) (hts _ in_110) (Nat.le_of_ble_eq_true rfl) (Nat.le_of_ble_eq_true rfl) (Nat.zero_le _) (Nat.zero_le _) d_LA_begin_31 ?_
  refine p_LA_greaterPart hx hb hts hown hG hP hS ho (hts _ in_123) d_LA_begin_34 (fun H locs hP hS => ?_)
  refine lv_aload_n hx hb d_LA_begin_37 rfl (lv_at hl 0 rfl) ?_
  refine lv_iconst (v := 0) hx hb d_LA_begin_38 (by decide) ?_
  refine p_LA_most hx hb hts hown hG hP hS ho (hts _ in_126) d_LA_begin_39 (fun H locs hP hS => ?_)
  refine lv_aload_n hx hb d_LA_begin_42 rfl (lv_at hl 0 rfl) ?_
  refine lv_iconst (v := 0) hx hb d_LA_begin_43 (by decide) ?_
  refine p_LA_isThere hx hb hts hown hG hP hS ho (hts _ in_129) (by decide) d_LA_begin_44 (fun H locs hP hS => ?_)
  refine lv_aload_n hx hb d_LA_begin_47 rfl (lv_at hl 0 rfl) ?_
  refine lv_iconst (v := 0) hx hb d_LA_begin_48 (by decide) ?_
  refine p_LA_water hx hb hts hown hG hP hS ho (hts _ in_132) d_LA_begin_49 (fun H locs hP hS => ?_)
  subst hf
  exact hq _ _ _ _ d_LA_begin_52 hP hS
theorem c_LA_begin (l : Launch) (D : va_G) (adr : Nat → Nat) (cA : Nat → ClassId) (μ ν : Mem) (o : Nat) (x1 : Int64) (x3 : Int32) (x4 : Int32) (ho : o < 35) : Met l y_LA_begin (Cond.code y_LA_begin prog_2_method_2_code 5 (Option.none : Option Jvm.ClassFile.FieldType) :: lw_ok) rm_LA_begin (va_Pc [.ref (adr (28 + o)), .long x1, .int x3, .int x4] (Wd D adr cA μ ν)) (QV D adr cA (f_LA_begin μ o x1 x3 x4) ν) 0 0 (AA adr) :=
  met_of (own := "LakeRelief$Lake") rfl rfl (Nat.le_of_ble_eq_true rfl) (fun p e s m below meth c C hG hP hS ls hl => w_LA_begin o x1 x3 x4 ho C hG rfl (fun pc ls H locs hd hP hS => ret_v C.1 C.2.1 C.2.2.2.2.2.1 C.2.2.2.2.2.2 hG hd hP hS) hP hS hl)
end X_LA_begin
section X_LA_isDouble
variable {p : Program} {l : Launch} {e : Env} {s : State} {m : MethodId} {args : Array Value} {below : List Frame} {meth : Method} {c : Code} {Q : State → Prop}
variable {D : va_G} {adr : Nat → Nat} {cA : Nat → ClassId} {μ ν : Mem}
theorem d_LA_isDouble_0 : decode prog_2_method_3_code 0 = .ok (.aload_n 0, 1) := by decide +kernel
theorem d_LA_isDouble_1 : decode prog_2_method_3_code 1 = .ok (.getfield 32, 3) := by decide +kernel
theorem d_LA_isDouble_4 : decode prog_2_method_3_code 4 = .ok (.bipush (-3), 2) := by decide +kernel
theorem d_LA_isDouble_6 : decode prog_2_method_3_code 6 = .ok (.if_icmp .eq 7, 3) := by decide +kernel
theorem d_LA_isDouble_9 : decode prog_2_method_3_code 9 = .ok (.iconst 1, 1) := by decide +kernel
theorem d_LA_isDouble_10 : decode prog_2_method_3_code 10 = .ok (.goto 4, 3) := by decide +kernel
theorem d_LA_isDouble_13 : decode prog_2_method_3_code 13 = .ok (.iconst 0, 1) := by decide +kernel
theorem d_LA_isDouble_14 : decode prog_2_method_3_code 14 = .ok (.ireturn, 1) := by decide +kernel
set_option maxHeartbeats 4000000 in
set_option maxRecDepth 100000 in
theorem w_LA_isDouble (o : Nat) (ho : o < 35) (C : Cx prog_2_method_3_code 1 "LakeRelief$Lake" (Option.some Jvm.ClassFile.FieldType.boolean) p s m args meth c) (hG : Geo D adr cA s) {res : Int32} (hf : f_LA_isDouble μ o = res) (hq : ∀ (pc : Nat) (ls : Array Slot) (H : Heap) (locs : List Loc), res &&& 1 = res → decode prog_2_method_3_code pc = .ok (.ireturn, 1) → va_P D cls (wld adr cA μ ν) H → va_S (AA adr) s.heap H locs → W p l e rm_LA_isDouble s m args below meth c H locs 0 0 Q (F0 m pc ls [.int res])) {H : Heap} {locs : List Loc} {ls : Array Slot} (hP : va_P D cls (wld adr cA μ ν) H) (hS : va_S (AA adr) s.heap H locs) (hl : lv_has ls 1 [(0, .ref (adr (28 + o)))]) : W p l e rm_LA_isDouble s m args below meth c H locs 0 0 Q (F0 m 0 ls []) := by
  obtain ⟨hx, hb, hml, hown, hts, hr, hlocks⟩ := id C
  unfold f_LA_isDouble at hf
  refine lv_aload_n hx hb d_LA_isDouble_0 rfl (lv_at hl 0 rfl) ?_
  refine g_LA_lesserPart hx hb hts hown hG hP ho (hts _ in_120) d_LA_isDouble_1 ?_
  refine lv_bipush (v := (-3)) hx hb d_LA_isDouble_4 (by decide) ?_
  refine lv_icmp_eq (tgt := 13) hx hb d_LA_isDouble_6 (by decide) (fun hc => ?_) (fun hc => ?_)
  · replace hf := if_p hc hf
    refine lv_iconst (v := 0) hx hb d_LA_isDouble_13 (by decide) ?_
    subst hf
    exact hq _ _ _ _ (by decide) d_LA_isDouble_14 hP hS
  · replace hf := if_n hc hf
    refine lv_iconst (v := 1) hx hb d_LA_isDouble_9 (by decide) ?_
    refine lv_goto (tgt := 14) hx hb d_LA_isDouble_10 (by decide) ?_
    subst hf
    exact hq _ _ _ _ (by decide) d_LA_isDouble_14 hP hS
theorem c_LA_isDouble (l : Launch) (D : va_G) (adr : Nat → Nat) (cA : Nat → ClassId) (μ ν : Mem) (o : Nat) (ho : o < 35) : Met l y_LA_isDouble (Cond.code y_LA_isDouble prog_2_method_3_code 1 (Option.some Jvm.ClassFile.FieldType.boolean) :: lw_ok) rm_LA_isDouble (va_Pc [.ref (adr (28 + o))] (Wd D adr cA μ ν)) (QI D adr cA (f_LA_isDouble μ o) μ ν) 0 0 (AA adr) :=
  met_of (own := "LakeRelief$Lake") rfl rfl (Nat.le_of_ble_eq_true rfl) (fun p e s m below meth c C hG hP hS ls hl => w_LA_isDouble o ho C hG rfl (fun pc ls H locs hz hd hP hS => ret_z C.1 C.2.1 C.2.2.2.2.2.1 C.2.2.2.2.2.2 hG hz hd hP hS) hP hS hl)
end X_LA_isDouble
section X_LA_isFull
variable {p : Program} {l : Launch} {e : Env} {s : State} {m : MethodId} {args : Array Value} {below : List Frame} {meth : Method} {c : Code} {Q : State → Prop}
variable {D : va_G} {adr : Nat → Nat} {cA : Nat → ClassId} {μ ν : Mem}
theorem d_LA_isFull_0 : decode prog_2_method_4_code 0 = .ok (.aload_n 0, 1) := by decide +kernel
theorem d_LA_isFull_1 : decode prog_2_method_4_code 1 = .ok (.getfield 44, 3) := by decide +kernel
theorem d_LA_isFull_4 : decode prog_2_method_4_code 4 = .ok (.ifCond .eq 18, 3) := by decide +kernel
theorem d_LA_isFull_7 : decode prog_2_method_4_code 7 = .ok (.aload_n 0, 1) := by decide +kernel
theorem d_LA_isFull_8 : decode prog_2_method_4_code 8 = .ok (.getfield 48, 3) := by decide +kernel
theorem d_LA_isFull_11 : decode prog_2_method_4_code 11 = .ok (.aload_n 0, 1) := by decide +kernel
theorem d_LA_isFull_12 : decode prog_2_method_4_code 12 = .ok (.getfield 41, 3) := by decide +kernel
theorem d_LA_isFull_15 : decode prog_2_method_4_code 15 = .ok (.if_icmp .ne 7, 3) := by decide +kernel
theorem d_LA_isFull_18 : decode prog_2_method_4_code 18 = .ok (.iconst 1, 1) := by decide +kernel
theorem d_LA_isFull_19 : decode prog_2_method_4_code 19 = .ok (.goto 4, 3) := by decide +kernel
theorem d_LA_isFull_22 : decode prog_2_method_4_code 22 = .ok (.iconst 0, 1) := by decide +kernel
theorem d_LA_isFull_23 : decode prog_2_method_4_code 23 = .ok (.ireturn, 1) := by decide +kernel
set_option maxHeartbeats 4000000 in
set_option maxRecDepth 100000 in
theorem w_LA_isFull (o : Nat) (ho : o < 35) (C : Cx prog_2_method_4_code 1 "LakeRelief$Lake" (Option.some Jvm.ClassFile.FieldType.boolean) p s m args meth c) (hG : Geo D adr cA s) {res : Int32} (hf : f_LA_isFull μ o = res) (hq : ∀ (pc : Nat) (ls : Array Slot) (H : Heap) (locs : List Loc), res &&& 1 = res → decode prog_2_method_4_code pc = .ok (.ireturn, 1) → va_P D cls (wld adr cA μ ν) H → va_S (AA adr) s.heap H locs → W p l e rm_LA_isFull s m args below meth c H locs 0 0 Q (F0 m pc ls [.int res])) {H : Heap} {locs : List Loc} {ls : Array Slot} (hP : va_P D cls (wld adr cA μ ν) H) (hS : va_S (AA adr) s.heap H locs) (hl : lv_has ls 1 [(0, .ref (adr (28 + o)))]) : W p l e rm_LA_isFull s m args below meth c H locs 0 0 Q (F0 m 0 ls []) := by
  obtain ⟨hx, hb, hml, hown, hts, hr, hlocks⟩ := id C
  unfold f_LA_isFull at hf
  refine lv_aload_n hx hb d_LA_isFull_0 rfl (lv_at hl 0 rfl) ?_
  refine g_LA_isThere hx hb hts hown hG hP ho (hts _ in_129) d_LA_isFull_1 ?_
  refine lv_if_eq (tgt := 22) hx hb d_LA_isFull_4 (by decide) (fun hc => ?_) (fun hc => ?_)
  · replace hf := if_p hc hf
    refine lv_iconst (v := 0) hx hb d_LA_isFull_22 (by decide) ?_
    subst hf
    exact hq _ _ _ _ (by decide) d_LA_isFull_23 hP hS
  · replace hf := if_n hc hf
    refine lv_aload_n hx hb d_LA_isFull_7 rfl (lv_at hl 0 rfl) ?_
    refine g_LA_water hx hb hts hown hG hP ho (hts _ in_132) d_LA_isFull_8 ?_
    refine lv_aload_n hx hb d_LA_isFull_11 rfl (lv_at hl 0 rfl) ?_
    refine g_LA_most hx hb hts hown hG hP ho (hts _ in_126) d_LA_isFull_12 ?_
    refine lv_icmp_ne (tgt := 22) hx hb d_LA_isFull_15 (by decide) (fun hc => ?_) (fun hc => ?_)
    · replace hf := if_n hc hf
      refine lv_iconst (v := 0) hx hb d_LA_isFull_22 (by decide) ?_
      subst hf
      exact hq _ _ _ _ (by decide) d_LA_isFull_23 hP hS
    · replace hf := if_p hc hf
      refine lv_iconst (v := 1) hx hb d_LA_isFull_18 (by decide) ?_
      refine lv_goto (tgt := 23) hx hb d_LA_isFull_19 (by decide) ?_
      subst hf
      exact hq _ _ _ _ (by decide) d_LA_isFull_23 hP hS
theorem c_LA_isFull (l : Launch) (D : va_G) (adr : Nat → Nat) (cA : Nat → ClassId) (μ ν : Mem) (o : Nat) (ho : o < 35) : Met l y_LA_isFull (Cond.code y_LA_isFull prog_2_method_4_code 1 (Option.some Jvm.ClassFile.FieldType.boolean) :: lw_ok) rm_LA_isFull (va_Pc [.ref (adr (28 + o))] (Wd D adr cA μ ν)) (QI D adr cA (f_LA_isFull μ o) μ ν) 0 0 (AA adr) :=
  met_of (own := "LakeRelief$Lake") rfl rfl (Nat.le_of_ble_eq_true rfl) (fun p e s m below meth c C hG hP hS ls hl => w_LA_isFull o ho C hG rfl (fun pc ls H locs hz hd hP hS => ret_z C.1 C.2.1 C.2.2.2.2.2.1 C.2.2.2.2.2.2 hG hz hd hP hS) hP hS hl)
end X_LA_isFull
section X_LA_spillAt
variable {p : Program} {l : Launch} {e : Env} {s : State} {m : MethodId} {args : Array Value} {below : List Frame} {meth : Method} {c : Code} {Q : State → Prop}
variable {D : va_G} {adr : Nat → Nat} {cA : Nat → ClassId} {μ ν : Mem}
theorem d_LA_spillAt_0 : decode prog_2_method_5_code 0 = .ok (.aload_n 0, 1) := by decide +kernel
theorem d_LA_spillAt_1 : decode prog_2_method_5_code 1 = .ok (.iload_n 1, 1) := by decide +kernel
theorem d_LA_spillAt_2 : decode prog_2_method_5_code 2 = .ok (.putfield 19, 3) := by decide +kernel
theorem d_LA_spillAt_5 : decode prog_2_method_5_code 5 = .ok (.aload_n 0, 1) := by decide +kernel
theorem d_LA_spillAt_6 : decode prog_2_method_5_code 6 = .ok (.iload_n 2, 1) := by decide +kernel
theorem d_LA_spillAt_7 : decode prog_2_method_5_code 7 = .ok (.putfield 23, 3) := by decide +kernel
theorem d_LA_spillAt_10 : decode prog_2_method_5_code 10 = .ok (.return_, 1) := by decide +kernel
set_option maxHeartbeats 4000000 in
set_option maxRecDepth 100000 in
theorem w_LA_spillAt (o : Nat) (x1 : Int32) (x2 : Int32) (ho : o < 35) (C : Cx prog_2_method_5_code 3 "LakeRelief$Lake" (Option.none : Option Jvm.ClassFile.FieldType) p s m args meth c) (hG : Geo D adr cA s) {res : Mem} (hf : f_LA_spillAt μ o x1 x2 = res) (hq : ∀ (pc : Nat) (ls : Array Slot) (H : Heap) (locs : List Loc), decode prog_2_method_5_code pc = .ok (.return_, 1) → va_P D cls (wld adr cA res ν) H → va_S (AA adr) s.heap H locs → W p l e rm_LA_spillAt s m args below meth c H locs 0 0 Q (F0 m pc ls [])) {H : Heap} {locs : List Loc} {ls : Array Slot} (hP : va_P D cls (wld adr cA μ ν) H) (hS : va_S (AA adr) s.heap H locs) (hl : lv_has ls 3 [(0, .ref (adr (28 + o))), (1, .int x1), (2, .int x2)]) : W p l e rm_LA_spillAt s m args below meth c H locs 0 0 Q (F0 m 0 ls []) := by
  obtain ⟨hx, hb, hml, hown, hts, hr, hlocks⟩ := id C
  unfold f_LA_spillAt at hf
  refine lv_aload_n hx hb d_LA_spillAt_0 rfl (lv_at hl 0 rfl) ?_
  refine lv_iload_n hx hb d_LA_spillAt_1 rfl (lv_at hl 1 rfl) ?_
  refine p_LA_rim hx hb hts hown hG hP hS ho (hts _ in_114) d_LA_spillAt_2 (fun H locs hP hS => ?_)
  refine lv_aload_n hx hb d_LA_spillAt_5 rfl (lv_at hl 0 rfl) ?_
  refine lv_iload_n hx hb d_LA_spillAt_6 rfl (lv_at hl 2 rfl) ?_
  refine p_LA_whole hx hb hts hown hG hP hS ho (hts _ in_117) d_LA_spillAt_7 (fun H locs hP hS => ?_)
  subst hf
  exact hq _ _ _ _ d_LA_spillAt_10 hP hS
theorem c_LA_spillAt (l : Launch) (D : va_G) (adr : Nat → Nat) (cA : Nat → ClassId) (μ ν : Mem) (o : Nat) (x1 : Int32) (x2 : Int32) (ho : o < 35) : Met l y_LA_spillAt (Cond.code y_LA_spillAt prog_2_method_5_code 3 (Option.none : Option Jvm.ClassFile.FieldType) :: lw_ok) rm_LA_spillAt (va_Pc [.ref (adr (28 + o)), .int x1, .int x2] (Wd D adr cA μ ν)) (QV D adr cA (f_LA_spillAt μ o x1 x2) ν) 0 0 (AA adr) :=
  met_of (own := "LakeRelief$Lake") rfl rfl (Nat.le_of_ble_eq_true rfl) (fun p e s m below meth c C hG hP hS ls hl => w_LA_spillAt o x1 x2 ho C hG rfl (fun pc ls H locs hd hP hS => ret_v C.1 C.2.1 C.2.2.2.2.2.1 C.2.2.2.2.2.2 hG hd hP hS) hP hS hl)
end X_LA_spillAt
section X_LA_appear
variable {p : Program} {l : Launch} {e : Env} {s : State} {m : MethodId} {args : Array Value} {below : List Frame} {meth : Method} {c : Code} {Q : State → Prop}
variable {D : va_G} {adr : Nat → Nat} {cA : Nat → ClassId} {μ ν : Mem}
theorem d_LA_appear_0 : decode prog_2_method_6_code 0 = .ok (.aload_n 0, 1) := by decide +kernel
theorem d_LA_appear_1 : decode prog_2_method_6_code 1 = .ok (.iconst 1, 1) := by decide +kernel
theorem d_LA_appear_2 : decode prog_2_method_6_code 2 = .ok (.putfield 44, 3) := by decide +kernel
theorem d_LA_appear_5 : decode prog_2_method_6_code 5 = .ok (.aload_n 0, 1) := by decide +kernel
theorem d_LA_appear_6 : decode prog_2_method_6_code 6 = .ok (.iload_n 1, 1) := by decide +kernel
theorem d_LA_appear_7 : decode prog_2_method_6_code 7 = .ok (.putfield 48, 3) := by decide +kernel
theorem d_LA_appear_10 : decode prog_2_method_6_code 10 = .ok (.return_, 1) := by decide +kernel
set_option maxHeartbeats 4000000 in
set_option maxRecDepth 100000 in
theorem w_LA_appear (o : Nat) (x1 : Int32) (ho : o < 35) (C : Cx prog_2_method_6_code 2 "LakeRelief$Lake" (Option.none : Option Jvm.ClassFile.FieldType) p s m args meth c) (hG : Geo D adr cA s) {res : Mem} (hf : f_LA_appear μ o x1 = res) (hq : ∀ (pc : Nat) (ls : Array Slot) (H : Heap) (locs : List Loc), decode prog_2_method_6_code pc = .ok (.return_, 1) → va_P D cls (wld adr cA res ν) H → va_S (AA adr) s.heap H locs → W p l e rm_LA_appear s m args below meth c H locs 0 0 Q (F0 m pc ls [])) {H : Heap} {locs : List Loc} {ls : Array Slot} (hP : va_P D cls (wld adr cA μ ν) H) (hS : va_S (AA adr) s.heap H locs) (hl : lv_has ls 2 [(0, .ref (adr (28 + o))), (1, .int x1)]) : W p l e rm_LA_appear s m args below meth c H locs 0 0 Q (F0 m 0 ls []) := by
  obtain ⟨hx, hb, hml, hown, hts, hr, hlocks⟩ := id C
  unfold f_LA_appear at hf
  refine lv_aload_n hx hb d_LA_appear_0 rfl (lv_at hl 0 rfl) ?_
  refine lv_iconst (v := 1) hx hb d_LA_appear_1 (by decide) ?_
  refine p_LA_isThere hx hb hts hown hG hP hS ho (hts _ in_129) (by decide) d_LA_appear_2 (fun H locs hP hS => ?_)
  refine lv_aload_n hx hb d_LA_appear_5 rfl (lv_at hl 0 rfl) ?_
  refine lv_iload_n hx hb d_LA_appear_6 rfl (lv_at hl 1 rfl) ?_
  refine p_LA_water hx hb hts hown hG hP hS ho (hts _ in_132) d_LA_appear_7 (fun H locs hP hS => ?_)
  subst hf
  exact hq _ _ _ _ d_LA_appear_10 hP hS
theorem c_LA_appear (l : Launch) (D : va_G) (adr : Nat → Nat) (cA : Nat → ClassId) (μ ν : Mem) (o : Nat) (x1 : Int32) (ho : o < 35) : Met l y_LA_appear (Cond.code y_LA_appear prog_2_method_6_code 2 (Option.none : Option Jvm.ClassFile.FieldType) :: lw_ok) rm_LA_appear (va_Pc [.ref (adr (28 + o)), .int x1] (Wd D adr cA μ ν)) (QV D adr cA (f_LA_appear μ o x1) ν) 0 0 (AA adr) :=
  met_of (own := "LakeRelief$Lake") rfl rfl (Nat.le_of_ble_eq_true rfl) (fun p e s m below meth c C hG hP hS ls hl => w_LA_appear o x1 ho C hG rfl (fun pc ls H locs hd hP hS => ret_v C.1 C.2.1 C.2.2.2.2.2.1 C.2.2.2.2.2.2 hG hd hP hS) hP hS hl)
end X_LA_appear
section X_LA_vanish
variable {p : Program} {l : Launch} {e : Env} {s : State} {m : MethodId} {args : Array Value} {below : List Frame} {meth : Method} {c : Code} {Q : State → Prop}
variable {D : va_G} {adr : Nat → Nat} {cA : Nat → ClassId} {μ ν : Mem}
theorem d_LA_vanish_0 : decode prog_2_method_7_code 0 = .ok (.aload_n 0, 1) := by decide +kernel
theorem d_LA_vanish_1 : decode prog_2_method_7_code 1 = .ok (.iconst 0, 1) := by decide +kernel
theorem d_LA_vanish_2 : decode prog_2_method_7_code 2 = .ok (.putfield 44, 3) := by decide +kernel
theorem d_LA_vanish_5 : decode prog_2_method_7_code 5 = .ok (.aload_n 0, 1) := by decide +kernel
theorem d_LA_vanish_6 : decode prog_2_method_7_code 6 = .ok (.iconst 0, 1) := by decide +kernel
theorem d_LA_vanish_7 : decode prog_2_method_7_code 7 = .ok (.putfield 48, 3) := by decide +kernel
theorem d_LA_vanish_10 : decode prog_2_method_7_code 10 = .ok (.return_, 1) := by decide +kernel
set_option maxHeartbeats 4000000 in
set_option maxRecDepth 100000 in
theorem w_LA_vanish (o : Nat) (ho : o < 35) (C : Cx prog_2_method_7_code 1 "LakeRelief$Lake" (Option.none : Option Jvm.ClassFile.FieldType) p s m args meth c) (hG : Geo D adr cA s) {res : Mem} (hf : f_LA_vanish μ o = res) (hq : ∀ (pc : Nat) (ls : Array Slot) (H : Heap) (locs : List Loc), decode prog_2_method_7_code pc = .ok (.return_, 1) → va_P D cls (wld adr cA res ν) H → va_S (AA adr) s.heap H locs → W p l e rm_LA_vanish s m args below meth c H locs 0 0 Q (F0 m pc ls [])) {H : Heap} {locs : List Loc} {ls : Array Slot} (hP : va_P D cls (wld adr cA μ ν) H) (hS : va_S (AA adr) s.heap H locs) (hl : lv_has ls 1 [(0, .ref (adr (28 + o)))]) : W p l e rm_LA_vanish s m args below meth c H locs 0 0 Q (F0 m 0 ls []) := by
  obtain ⟨hx, hb, hml, hown, hts, hr, hlocks⟩ := id C
  unfold f_LA_vanish at hf
  refine lv_aload_n hx hb d_LA_vanish_0 rfl (lv_at hl 0 rfl) ?_
  refine lv_iconst (v := 0) hx hb d_LA_vanish_1 (by decide) ?_
  refine p_LA_isThere hx hb hts hown hG hP hS ho (hts _ in_129) (by decide) d_LA_vanish_2 (fun H locs hP hS => ?_)
  refine lv_aload_n hx hb d_LA_vanish_5 rfl (lv_at hl 0 rfl) ?_
  refine lv_iconst (v := 0) hx hb d_LA_vanish_6 (by decide) ?_
  refine p_LA_water hx hb hts hown hG hP hS ho (hts _ in_132) d_LA_vanish_7 (fun H locs hP hS => ?_)
  subst hf
  exact hq _ _ _ _ d_LA_vanish_10 hP hS
theorem c_LA_vanish (l : Launch) (D : va_G) (adr : Nat → Nat) (cA : Nat → ClassId) (μ ν : Mem) (o : Nat) (ho : o < 35) : Met l y_LA_vanish (Cond.code y_LA_vanish prog_2_method_7_code 1 (Option.none : Option Jvm.ClassFile.FieldType) :: lw_ok) rm_LA_vanish (va_Pc [.ref (adr (28 + o))] (Wd D adr cA μ ν)) (QV D adr cA (f_LA_vanish μ o) ν) 0 0 (AA adr) :=
  met_of (own := "LakeRelief$Lake") rfl rfl (Nat.le_of_ble_eq_true rfl) (fun p e s m below meth c C hG hP hS ls hl => w_LA_vanish o ho C hG rfl (fun pc ls H locs hd hP hS => ret_v C.1 C.2.1 C.2.2.2.2.2.1 C.2.2.2.2.2.2 hG hd hP hS) hP hS hl)
end X_LA_vanish
section X_LK_isLake
variable {p : Program} {l : Launch} {e : Env} {s : State} {m : MethodId} {args : Array Value} {below : List Frame} {meth : Method} {c : Code} {Q : State → Prop}
variable {D : va_G} {adr : Nat → Nat} {cA : Nat → ClassId} {μ ν : Mem}
theorem d_LK_isLake_0 : decode prog_3_method_2_code 0 = .ok (.iload_n 1, 1) := by decide +kernel
theorem d_LK_isLake_1 : decode prog_3_method_2_code 1 = .ok (.ifCond .lt 15, 3) := by decide +kernel
theorem d_LK_isLake_4 : decode prog_3_method_2_code 4 = .ok (.iload_n 1, 1) := by decide +kernel
theorem d_LK_isLake_5 : decode prog_3_method_2_code 5 = .ok (.aload_n 0, 1) := by decide +kernel
theorem d_LK_isLake_6 : decode prog_3_method_2_code 6 = .ok (.getfield 22, 3) := by decide +kernel
theorem d_LK_isLake_9 : decode prog_3_method_2_code 9 = .ok (.if_icmp .ge 7, 3) := by decide +kernel
theorem d_LK_isLake_12 : decode prog_3_method_2_code 12 = .ok (.iconst 1, 1) := by decide +kernel
theorem d_LK_isLake_13 : decode prog_3_method_2_code 13 = .ok (.goto 4, 3) := by decide +kernel
theorem d_LK_isLake_16 : decode prog_3_method_2_code 16 = .ok (.iconst 0, 1) := by decide +kernel
theorem d_LK_isLake_17 : decode prog_3_method_2_code 17 = .ok (.ireturn, 1) := by decide +kernel
set_option maxHeartbeats 4000000 in
set_option maxRecDepth 100000 in
theorem w_LK_isLake (x1 : Int32)  (C : Cx prog_3_method_2_code 2 "LakeRelief$Lakes" (Option.some Jvm.ClassFile.FieldType.boolean) p s m args meth c) (hG : Geo D adr cA s) {res : Int32} (hf : f_LK_isLake μ x1 = res) (hq : ∀ (pc : Nat) (ls : Array Slot) (H : Heap) (locs : List Loc), res &&& 1 = res → decode prog_3_method_2_code pc = .ok (.ireturn, 1) → va_P D cls (wld adr cA μ ν) H → va_S (AA adr) s.heap H locs → W p l e rm_LK_isLake s m args below meth c H locs 0 0 Q (F0 m pc ls [.int res])) {H : Heap} {locs : List Loc} {ls : Array Slot} (hP : va_P D cls (wld adr cA μ ν) H) (hS : va_S (AA adr) s.heap H locs) (hl : lv_has ls 2 [(0, .ref (adr 26)), (1, .int x1)]) : W p l e rm_LK_isLake s m args below meth c H locs 0 0 Q (F0 m 0 ls []) := by
  obtain ⟨hx, hb, hml, hown, hts, hr, hlocks⟩ := id C
  unfold f_LK_isLake at hf
  refine lv_iload_n hx hb d_LK_isLake_0 rfl (lv_at hl 1 rfl) ?_
  refine lv_if_lt (tgt := 16) hx hb d_LK_isLake_1 (by decide) (fun hc => ?_) (fun hc => ?_)
  · replace hf := if_p hc hf
    refine lv_iconst (v := 0) hx hb d_LK_isLake_16 (by decide) ?_
    subst hf
    exact hq _ _ _ _ (by decide) d_LK_isLake_17 hP hS
  · replace hf := if_n hc hf
    refine lv_iload_n hx hb d_LK_isLake_4 rfl (lv_at hl 1 rfl) ?_
    refine lv_aload_n hx hb d_LK_isLake_5 rfl (lv_at hl 0 rfl) ?_
    refine g_LK_number hx hb hts hown hG hP (hts _ in_154) d_LK_isLake_6 ?_
    refine lv_icmp_ge (tgt := 16) hx hb d_LK_isLake_9 (by decide) (fun hc => ?_) (fun hc => ?_)
    · replace hf := if_p hc hf
      refine lv_iconst (v := 0) hx hb d_LK_isLake_16 (by decide) ?_
      subst hf
      exact hq _ _ _ _ (by decide) d_LK_isLake_17 hP hS
    · replace hf := if_n hc hf
      refine lv_iconst (v := 1) hx hb d_LK_isLake_12 (by decide) ?_
      refine lv_goto (tgt := 17) hx hb d_LK_isLake_13 (by decide) ?_
      subst hf
      exact hq _ _ _ _ (by decide) d_LK_isLake_17 hP hS
theorem c_LK_isLake (l : Launch) (D : va_G) (adr : Nat → Nat) (cA : Nat → ClassId) (μ ν : Mem) (x1 : Int32)  : Met l y_LK_isLake (Cond.code y_LK_isLake prog_3_method_2_code 2 (Option.some Jvm.ClassFile.FieldType.boolean) :: lw_ok) rm_LK_isLake (va_Pc [.ref (adr 26), .int x1] (Wd D adr cA μ ν)) (QI D adr cA (f_LK_isLake μ x1) μ ν) 0 0 (AA adr) :=
  met_of (own := "LakeRelief$Lakes") rfl rfl (Nat.le_of_ble_eq_true rfl) (fun p e s m below meth c C hG hP hS ls hl => w_LK_isLake x1  C hG rfl (fun pc ls H locs hz hd hP hS => ret_z C.1 C.2.1 C.2.2.2.2.2.1 C.2.2.2.2.2.2 hG hz hd hP hS) hP hS hl)
end X_LK_isLake
section X_RE_isField
variable {p : Program} {l : Launch} {e : Env} {s : State} {m : MethodId} {args : Array Value} {below : List Frame} {meth : Method} {c : Code} {Q : State → Prop}
variable {D : va_G} {adr : Nat → Nat} {cA : Nat → ClassId} {μ ν : Mem}
theorem d_RE_isField_0 : decode prog_4_method_5_code 0 = .ok (.iload_n 1, 1) := by decide +kernel
theorem d_RE_isField_1 : decode prog_4_method_5_code 1 = .ok (.ifCond .lt 15, 3) := by decide +kernel
theorem d_RE_isField_4 : decode prog_4_method_5_code 4 = .ok (.iload_n 1, 1) := by decide +kernel
theorem d_RE_isField_5 : decode prog_4_method_5_code 5 = .ok (.aload_n 0, 1) := by decide +kernel
theorem d_RE_isField_6 : decode prog_4_method_5_code 6 = .ok (.getfield 37, 3) := by decide +kernel
theorem d_RE_isField_9 : decode prog_4_method_5_code 9 = .ok (.if_icmp .ge 7, 3) := by decide +kernel
theorem d_RE_isField_12 : decode prog_4_method_5_code 12 = .ok (.iconst 1, 1) := by decide +kernel
theorem d_RE_isField_13 : decode prog_4_method_5_code 13 = .ok (.goto 4, 3) := by decide +kernel
theorem d_RE_isField_16 : decode prog_4_method_5_code 16 = .ok (.iconst 0, 1) := by decide +kernel
theorem d_RE_isField_17 : decode prog_4_method_5_code 17 = .ok (.ireturn, 1) := by decide +kernel
set_option maxHeartbeats 4000000 in
set_option maxRecDepth 100000 in
theorem w_RE_isField (x1 : Int32)  (C : Cx prog_4_method_5_code 2 "LakeRelief$Relief" (Option.some Jvm.ClassFile.FieldType.boolean) p s m args meth c) (hG : Geo D adr cA s) {res : Int32} (hf : f_RE_isField μ x1 = res) (hq : ∀ (pc : Nat) (ls : Array Slot) (H : Heap) (locs : List Loc), res &&& 1 = res → decode prog_4_method_5_code pc = .ok (.ireturn, 1) → va_P D cls (wld adr cA μ ν) H → va_S (AA adr) s.heap H locs → W p l e rm_RE_isField s m args below meth c H locs 0 0 Q (F0 m pc ls [.int res])) {H : Heap} {locs : List Loc} {ls : Array Slot} (hP : va_P D cls (wld adr cA μ ν) H) (hS : va_S (AA adr) s.heap H locs) (hl : lv_has ls 2 [(0, .ref (adr 18)), (1, .int x1)]) : W p l e rm_RE_isField s m args below meth c H locs 0 0 Q (F0 m 0 ls []) := by
  obtain ⟨hx, hb, hml, hown, hts, hr, hlocks⟩ := id C
  unfold f_RE_isField at hf
  refine lv_iload_n hx hb d_RE_isField_0 rfl (lv_at hl 1 rfl) ?_
  refine lv_if_lt (tgt := 16) hx hb d_RE_isField_1 (by decide) (fun hc => ?_) (fun hc => ?_)
  · replace hf := if_p hc hf
    refine lv_iconst (v := 0) hx hb d_RE_isField_16 (by decide) ?_
    subst hf
    exact hq _ _ _ _ (by decide) d_RE_isField_17 hP hS
  · replace hf := if_n hc hf
    refine lv_iload_n hx hb d_RE_isField_4 rfl (lv_at hl 1 rfl) ?_
    refine lv_aload_n hx hb d_RE_isField_5 rfl (lv_at hl 0 rfl) ?_
    refine g_RE_size hx hb hts hown hG hP (hts _ in_59) d_RE_isField_6 ?_
    refine lv_icmp_ge (tgt := 16) hx hb d_RE_isField_9 (by decide) (fun hc => ?_) (fun hc => ?_)
    · replace hf := if_p hc hf
      refine lv_iconst (v := 0) hx hb d_RE_isField_16 (by decide) ?_
      subst hf
      exact hq _ _ _ _ (by decide) d_RE_isField_17 hP hS
    · replace hf := if_n hc hf
      refine lv_iconst (v := 1) hx hb d_RE_isField_12 (by decide) ?_
      refine lv_goto (tgt := 17) hx hb d_RE_isField_13 (by decide) ?_
      subst hf
      exact hq _ _ _ _ (by decide) d_RE_isField_17 hP hS
theorem c_RE_isField (l : Launch) (D : va_G) (adr : Nat → Nat) (cA : Nat → ClassId) (μ ν : Mem) (x1 : Int32)  : Met l y_RE_isField (Cond.code y_RE_isField prog_4_method_5_code 2 (Option.some Jvm.ClassFile.FieldType.boolean) :: lw_ok) rm_RE_isField (va_Pc [.ref (adr 18), .int x1] (Wd D adr cA μ ν)) (QI D adr cA (f_RE_isField μ x1) μ ν) 0 0 (AA adr) :=
  met_of (own := "LakeRelief$Relief") rfl rfl (Nat.le_of_ble_eq_true rfl) (fun p e s m below meth c C hG hP hS ls hl => w_RE_isField x1  C hG rfl (fun pc ls H locs hz hd hP hS => ret_z C.1 C.2.1 C.2.2.2.2.2.1 C.2.2.2.2.2.2 hG hz hd hP hS) hP hS hl)
end X_RE_isField
section X_LR_isIn
variable {p : Program} {l : Launch} {e : Env} {s : State} {m : MethodId} {args : Array Value} {below : List Frame} {meth : Method} {c : Code} {Q : State → Prop}
variable {D : va_G} {adr : Nat → Nat} {cA : Nat → ClassId} {μ ν : Mem}
theorem d_LR_isIn_0 : decode prog_1_method_24_code 0 = .ok (.lload_n 0, 1) := by decide +kernel
theorem d_LR_isIn_1 : decode prog_1_method_24_code 1 = .ok (.iload_n 2, 1) := by decide +kernel
theorem d_LR_isIn_2 : decode prog_1_method_24_code 2 = .ok (.lushr, 1) := by decide +kernel
theorem d_LR_isIn_3 : decode prog_1_method_24_code 3 = .ok (.lconst 1, 1) := by decide +kernel
theorem d_LR_isIn_4 : decode prog_1_method_24_code 4 = .ok (.land, 1) := by decide +kernel
theorem d_LR_isIn_5 : decode prog_1_method_24_code 5 = .ok (.lconst 0, 1) := by decide +kernel
theorem d_LR_isIn_6 : decode prog_1_method_24_code 6 = .ok (.lcmp, 1) := by decide +kernel
theorem d_LR_isIn_7 : decode prog_1_method_24_code 7 = .ok (.ifCond .eq 7, 3) := by decide +kernel
theorem d_LR_isIn_10 : decode prog_1_method_24_code 10 = .ok (.iconst 1, 1) := by decide +kernel
theorem d_LR_isIn_11 : decode prog_1_method_24_code 11 = .ok (.goto 4, 3) := by decide +kernel
theorem d_LR_isIn_14 : decode prog_1_method_24_code 14 = .ok (.iconst 0, 1) := by decide +kernel
theorem d_LR_isIn_15 : decode prog_1_method_24_code 15 = .ok (.ireturn, 1) := by decide +kernel
set_option maxHeartbeats 4000000 in
set_option maxRecDepth 100000 in
theorem w_LR_isIn (x0 : Int64) (x2 : Int32)  (C : Cx prog_1_method_24_code 3 "LakeRelief" (Option.some Jvm.ClassFile.FieldType.boolean) p s m args meth c) (hG : Geo D adr cA s) {res : Int32} (hf : f_LR_isIn x0 x2 = res) (hq : ∀ (pc : Nat) (ls : Array Slot) (H : Heap) (locs : List Loc), res &&& 1 = res → decode prog_1_method_24_code pc = .ok (.ireturn, 1) → va_P D cls (wld adr cA μ ν) H → va_S (AA adr) s.heap H locs → W p l e rm_LR_isIn s m args below meth c H locs 0 0 Q (F0 m pc ls [.int res])) {H : Heap} {locs : List Loc} {ls : Array Slot} (hP : va_P D cls (wld adr cA μ ν) H) (hS : va_S (AA adr) s.heap H locs) (hl : lv_has ls 3 [(0, .long x0), (2, .int x2)]) : W p l e rm_LR_isIn s m args below meth c H locs 0 0 Q (F0 m 0 ls []) := by
  obtain ⟨hx, hb, hml, hown, hts, hr, hlocks⟩ := id C
  unfold f_LR_isIn at hf
  refine lv_lload_n hx hb d_LR_isIn_0 rfl (lv_at hl 0 rfl) ?_
  refine lv_iload_n hx hb d_LR_isIn_1 rfl (lv_at hl 1 rfl) ?_
  refine lv_lushr hx hb d_LR_isIn_2 rfl ?_
  refine lv_lconst (v := 1) hx hb d_LR_isIn_3 (by decide) ?_
  refine lv_land hx hb d_LR_isIn_4 ?_
  refine lv_lconst (v := 0) hx hb d_LR_isIn_5 (by decide) ?_
  refine W.lcmp hx hb d_LR_isIn_6 ?_
  refine lv_if_eq (tgt := 14) hx hb d_LR_isIn_7 (by decide) (fun hc => ?_) (fun hc => ?_)
  · replace hf := if_p hc hf
    refine lv_iconst (v := 0) hx hb d_LR_isIn_14 (by decide) ?_
    subst hf
    exact hq _ _ _ _ (by decide) d_LR_isIn_15 hP hS
  · replace hf := if_n hc hf
    refine lv_iconst (v := 1) hx hb d_LR_isIn_10 (by decide) ?_
    refine lv_goto (tgt := 15) hx hb d_LR_isIn_11 (by decide) ?_
    subst hf
    exact hq _ _ _ _ (by decide) d_LR_isIn_15 hP hS
theorem c_LR_isIn (l : Launch) (D : va_G) (adr : Nat → Nat) (cA : Nat → ClassId) (μ ν : Mem) (x0 : Int64) (x2 : Int32)  : Met l y_LR_isIn (Cond.code y_LR_isIn prog_1_method_24_code 3 (Option.some Jvm.ClassFile.FieldType.boolean) :: lw_ok) rm_LR_isIn (va_Pc [.long x0, .int x2] (Wd D adr cA μ ν)) (QI D adr cA (f_LR_isIn x0 x2) μ ν) 0 0 (AA adr) :=
  met_of (own := "LakeRelief") rfl rfl (Nat.le_of_ble_eq_true rfl) (fun p e s m below meth c C hG hP hS ls hl => w_LR_isIn x0 x2  C hG rfl (fun pc ls H locs hz hd hP hS => ret_z C.1 C.2.1 C.2.2.2.2.2.1 C.2.2.2.2.2.2 hG hz hd hP hS) hP hS hl)
end X_LR_isIn
section X_RE_isLand
variable {p : Program} {l : Launch} {e : Env} {s : State} {m : MethodId} {args : Array Value} {below : List Frame} {meth : Method} {c : Code} {Q : State → Prop}
variable {D : va_G} {adr : Nat → Nat} {cA : Nat → ClassId} {μ ν : Mem}
theorem d_RE_isLand_0 : decode prog_4_method_6_code 0 = .ok (.aload_n 0, 1) := by decide +kernel
theorem d_RE_isLand_1 : decode prog_4_method_6_code 1 = .ok (.iload_n 1, 1) := by decide +kernel
theorem d_RE_isLand_2 : decode prog_4_method_6_code 2 = .ok (.invokevirtual 63, 3) := by decide +kernel
theorem d_RE_isLand_5 : decode prog_4_method_6_code 5 = .ok (.ifCond .eq 18, 3) := by decide +kernel
theorem d_RE_isLand_8 : decode prog_4_method_6_code 8 = .ok (.aload_n 0, 1) := by decide +kernel
theorem d_RE_isLand_9 : decode prog_4_method_6_code 9 = .ok (.getfield 43, 3) := by decide +kernel
theorem d_RE_isLand_12 : decode prog_4_method_6_code 12 = .ok (.iload_n 1, 1) := by decide +kernel
theorem d_RE_isLand_13 : decode prog_4_method_6_code 13 = .ok (.invokestatic 67, 3) := by decide +kernel
theorem d_RE_isLand_16 : decode prog_4_method_6_code 16 = .ok (.ifCond .eq 7, 3) := by decide +kernel
theorem d_RE_isLand_19 : decode prog_4_method_6_code 19 = .ok (.iconst 1, 1) := by decide +kernel
theorem d_RE_isLand_20 : decode prog_4_method_6_code 20 = .ok (.goto 4, 3) := by decide +kernel
theorem d_RE_isLand_23 : decode prog_4_method_6_code 23 = .ok (.iconst 0, 1) := by decide +kernel
theorem d_RE_isLand_24 : decode prog_4_method_6_code 24 = .ok (.ireturn, 1) := by decide +kernel
set_option maxHeartbeats 4000000 in
set_option maxRecDepth 100000 in
theorem w_RE_isLand (x1 : Int32)  (C : Cx prog_4_method_6_code 2 "LakeRelief$Relief" (Option.some Jvm.ClassFile.FieldType.boolean) p s m args meth c) (hG : Geo D adr cA s) {res : Int32} (hf : f_RE_isLand μ x1 = res) (hq : ∀ (pc : Nat) (ls : Array Slot) (H : Heap) (locs : List Loc), res &&& 1 = res → decode prog_4_method_6_code pc = .ok (.ireturn, 1) → va_P D cls (wld adr cA μ ν) H → va_S (AA adr) s.heap H locs → W p l e rm_RE_isLand s m args below meth c H locs 0 0 Q (F0 m pc ls [.int res])) {H : Heap} {locs : List Loc} {ls : Array Slot} (hP : va_P D cls (wld adr cA μ ν) H) (hS : va_S (AA adr) s.heap H locs) (hl : lv_has ls 2 [(0, .ref (adr 18)), (1, .int x1)]) : W p l e rm_RE_isLand s m args below meth c H locs 0 0 Q (F0 m 0 ls []) := by
  obtain ⟨hx, hb, hml, hown, hts, hr, hlocks⟩ := id C
  unfold f_RE_isLand at hf
  refine lv_aload_n hx hb d_RE_isLand_0 rfl (lv_at hl 0 rfl) ?_
  refine lv_iload_n hx hb d_RE_isLand_1 rfl (lv_at hl 1 rfl) ?_
  refine ki (kv (As := [.int x1]) (rest := []) ⟨hx, hb, hml, hown, hts⟩ (cw_RE_63 hts ⟨Nat.le_of_ble_eq_true rfl, Nat.le_of_ble_eq_true rfl⟩) (c_RE_isField l D adr cA μ ν x1) hG hP (rc_o (q := 18) (ci := 2) hG hP (by decide) (wc_C (by decide) rfl) rfl) rfl hl.1 (Nat.le_of_ble_eq_true rfl) d_RE_isLand_2) hS (fun H locs hP hS => ?_)
  refine lv_if_eq (tgt := 23) hx hb d_RE_isLand_5 (by decide) (fun hc => ?_) (fun hc => ?_)
  · replace hf := if_p hc hf
    refine lv_iconst (v := 0) hx hb d_RE_isLand_23 (by decide) ?_
    subst hf
    exact hq _ _ _ _ (by decide) d_RE_isLand_24 hP hS
  · replace hf := if_n hc hf
    refine lv_aload_n hx hb d_RE_isLand_8 rfl (lv_at hl 0 rfl) ?_
    refine g_RE_land hx hb hts hown hG hP (hts _ in_64) d_RE_isLand_9 ?_
    refine lv_iload_n hx hb d_RE_isLand_12 rfl (lv_at hl 1 rfl) ?_
    refine ki (kn (As := [.long (μ.2 18 10), .int x1]) (rest := []) ⟨hx, hb, hml, hown, hts⟩ (cw_RE_67 hts hG ⟨Nat.le_of_ble_eq_true rfl, Nat.le_of_ble_eq_true rfl⟩) (c_LR_isIn l D adr cA μ ν (μ.2 18 10) x1) hG hP rfl hl.1 (Nat.le_of_ble_eq_true rfl) d_RE_isLand_13) hS (fun H locs hP hS => ?_)
    refine lv_if_eq (tgt := 23) hx hb d_RE_isLand_16 (by decide) (fun hc => ?_) (fun hc => ?_)
    · replace hf := if_p hc hf
      refine lv_iconst (v := 0) hx hb d_RE_isLand_23 (by decide) ?_
      subst hf
      exact hq _ _ _ _ (by decide) d_RE_isLand_24 hP hS
    · replace hf := if_n hc hf
      refine lv_iconst (v := 1) hx hb d_RE_isLand_19 (by decide) ?_
      refine lv_goto (tgt := 24) hx hb d_RE_isLand_20 (by decide) ?_
      subst hf
      exact hq _ _ _ _ (by decide) d_RE_isLand_24 hP hS
theorem c_RE_isLand (l : Launch) (D : va_G) (adr : Nat → Nat) (cA : Nat → ClassId) (μ ν : Mem) (x1 : Int32)  : Met l y_RE_isLand (Cond.code y_RE_isLand prog_4_method_6_code 2 (Option.some Jvm.ClassFile.FieldType.boolean) :: lw_ok) rm_RE_isLand (va_Pc [.ref (adr 18), .int x1] (Wd D adr cA μ ν)) (QI D adr cA (f_RE_isLand μ x1) μ ν) 0 0 (AA adr) :=
  met_of (own := "LakeRelief$Relief") rfl rfl (Nat.le_of_ble_eq_true rfl) (fun p e s m below meth c C hG hP hS ls hl => w_RE_isLand x1  C hG rfl (fun pc ls H locs hz hd hP hS => ret_z C.1 C.2.1 C.2.2.2.2.2.1 C.2.2.2.2.2.2 hG hz hd hP hS) hP hS hl)
end X_RE_isLand
section X_LK_isLevelOf
variable {p : Program} {l : Launch} {e : Env} {s : State} {m : MethodId} {args : Array Value} {below : List Frame} {meth : Method} {c : Code} {Q : State → Prop}
variable {D : va_G} {adr : Nat → Nat} {cA : Nat → ClassId} {μ ν : Mem}
theorem d_LK_isLevelOf_0 : decode prog_3_method_3_code 0 = .ok (.aload_n 0, 1) := by decide +kernel
theorem d_LK_isLevelOf_1 : decode prog_3_method_3_code 1 = .ok (.iload_n 1, 1) := by decide +kernel
theorem d_LK_isLevelOf_2 : decode prog_3_method_3_code 2 = .ok (.invokevirtual 36, 3) := by decide +kernel
theorem d_LK_isLevelOf_5 : decode prog_3_method_3_code 5 = .ok (.ifCond .eq 53, 3) := by decide +kernel
theorem d_LK_isLevelOf_8 : decode prog_3_method_3_code 8 = .ok (.aload_n 0, 1) := by decide +kernel
theorem d_LK_isLevelOf_9 : decode prog_3_method_3_code 9 = .ok (.getfield 9, 3) := by decide +kernel
theorem d_LK_isLevelOf_12 : decode prog_3_method_3_code 12 = .ok (.aload_n 0, 1) := by decide +kernel
theorem d_LK_isLevelOf_13 : decode prog_3_method_3_code 13 = .ok (.getfield 17, 3) := by decide +kernel
theorem d_LK_isLevelOf_16 : decode prog_3_method_3_code 16 = .ok (.iload_n 1, 1) := by decide +kernel
theorem d_LK_isLevelOf_17 : decode prog_3_method_3_code 17 = .ok (.aaload, 1) := by decide +kernel
theorem d_LK_isLevelOf_18 : decode prog_3_method_3_code 18 = .ok (.getfield 40, 3) := by decide +kernel
theorem d_LK_isLevelOf_21 : decode prog_3_method_3_code 21 = .ok (.invokevirtual 43, 3) := by decide +kernel
theorem d_LK_isLevelOf_24 : decode prog_3_method_3_code 24 = .ok (.ifCond .eq 34, 3) := by decide +kernel
theorem d_LK_isLevelOf_27 : decode prog_3_method_3_code 27 = .ok (.iload_n 2, 1) := by decide +kernel
theorem d_LK_isLevelOf_28 : decode prog_3_method_3_code 28 = .ok (.ldc 48, 2) := by decide +kernel
theorem d_LK_isLevelOf_30 : decode prog_3_method_3_code 30 = .ok (.if_icmp .lt 28, 3) := by decide +kernel
theorem d_LK_isLevelOf_33 : decode prog_3_method_3_code 33 = .ok (.iload_n 2, 1) := by decide +kernel
theorem d_LK_isLevelOf_34 : decode prog_3_method_3_code 34 = .ok (.aload_n 0, 1) := by decide +kernel
theorem d_LK_isLevelOf_35 : decode prog_3_method_3_code 35 = .ok (.getfield 9, 3) := by decide +kernel
theorem d_LK_isLevelOf_38 : decode prog_3_method_3_code 38 = .ok (.getfield 49, 3) := by decide +kernel
theorem d_LK_isLevelOf_41 : decode prog_3_method_3_code 41 = .ok (.aload_n 0, 1) := by decide +kernel
theorem d_LK_isLevelOf_42 : decode prog_3_method_3_code 42 = .ok (.getfield 17, 3) := by decide +kernel
theorem d_LK_isLevelOf_45 : decode prog_3_method_3_code 45 = .ok (.iload_n 1, 1) := by decide +kernel
theorem d_LK_isLevelOf_46 : decode prog_3_method_3_code 46 = .ok (.aaload, 1) := by decide +kernel
theorem d_LK_isLevelOf_47 : decode prog_3_method_3_code 47 = .ok (.getfield 40, 3) := by decide +kernel
theorem d_LK_isLevelOf_50 : decode prog_3_method_3_code 50 = .ok (.iaload, 1) := by decide +kernel
theorem d_LK_isLevelOf_51 : decode prog_3_method_3_code 51 = .ok (.if_icmp .gt 7, 3) := by decide +kernel
theorem d_LK_isLevelOf_54 : decode prog_3_method_3_code 54 = .ok (.iconst 1, 1) := by decide +kernel
theorem d_LK_isLevelOf_55 : decode prog_3_method_3_code 55 = .ok (.goto 4, 3) := by decide +kernel
theorem d_LK_isLevelOf_58 : decode prog_3_method_3_code 58 = .ok (.iconst 0, 1) := by decide +kernel
theorem d_LK_isLevelOf_59 : decode prog_3_method_3_code 59 = .ok (.ireturn, 1) := by decide +kernel
set_option maxHeartbeats 4000000 in
set_option maxRecDepth 100000 in
theorem w_LK_isLevelOf (x1 : Int32) (x2 : Int32)  (C : Cx prog_3_method_3_code 3 "LakeRelief$Lakes" (Option.some Jvm.ClassFile.FieldType.boolean) p s m args meth c) (hG : Geo D adr cA s) {res : Int32} (hf : f_LK_isLevelOf μ x1 x2 = some res) (hq : ∀ (pc : Nat) (ls : Array Slot) (H : Heap) (locs : List Loc), res &&& 1 = res → decode prog_3_method_3_code pc = .ok (.ireturn, 1) → va_P D cls (wld adr cA μ ν) H → va_S (AA adr) s.heap H locs → W p l e rm_LK_isLevelOf s m args below meth c H locs 0 0 Q (F0 m pc ls [.int res])) {H : Heap} {locs : List Loc} {ls : Array Slot} (hP : va_P D cls (wld adr cA μ ν) H) (hS : va_S (AA adr) s.heap H locs) (hl : lv_has ls 3 [(0, .ref (adr 26)), (1, .int x1), (2, .int x2)]) : W p l e rm_LK_isLevelOf s m args below meth c H locs 0 0 Q (F0 m 0 ls []) := by
  obtain ⟨hx, hb, hml, hown, hts, hr, hlocks⟩ := id C
  unfold f_LK_isLevelOf at hf
  refine lv_aload_n hx hb d_LK_isLevelOf_0 rfl (lv_at hl 0 rfl) ?_
  refine lv_iload_n hx hb d_LK_isLevelOf_1 rfl (lv_at hl 1 rfl) ?_
  refine ki (kv (As := [.int x1]) (rest := []) ⟨hx, hb, hml, hown, hts⟩ (cw_LK_36 hts ⟨Nat.le_of_ble_eq_true rfl, Nat.le_of_ble_eq_true rfl⟩) (c_LK_isLake l D adr cA μ ν x1) hG hP (rc_o (q := 26) (ci := 1) hG hP (by decide) (wc_C (by decide) rfl) rfl) rfl hl.1 (Nat.le_of_ble_eq_true rfl) d_LK_isLevelOf_2) hS (fun H locs hP hS => ?_)
  refine lv_if_eq (tgt := 58) hx hb d_LK_isLevelOf_5 (by decide) (fun hc => ?_) (fun hc => ?_)
  · replace hf := if_p hc hf
    refine lv_iconst (v := 0) hx hb d_LK_isLevelOf_58 (by decide) ?_
    obtain rfl := Option.some.inj hf
    exact hq _ _ _ _ (by decide) d_LK_isLevelOf_59 hP hS
  · replace hf := if_n hc hf
    refine lv_aload_n hx hb d_LK_isLevelOf_8 rfl (lv_at hl 0 rfl) ?_
    refine g_LK_relief hx hb hts hown hG hP (hts _ in_160) d_LK_isLevelOf_9 ?_
    refine lv_aload_n hx hb d_LK_isLevelOf_12 rfl (lv_at hl 0 rfl) ?_
    refine g_LK_all hx hb hts hown hG hP (hts _ in_152) d_LK_isLevelOf_13 ?_
    refine lv_iload_n hx hb d_LK_isLevelOf_16 rfl (lv_at hl 1 rfl) ?_
    replace hf := G_some hf
    obtain ⟨hi1, hf⟩ := hf
    refine r_aLA hx hb hG hP hi1 d_LK_isLevelOf_17 ?_
    refine g_LA_rim hx hb hts hown hG hP (vin_lt hi1) (hts _ in_115) d_LK_isLevelOf_18 ?_
    refine ki (kv (As := [.int (μ.1 (28 + x1.toNatClampNeg) 1)]) (rest := []) ⟨hx, hb, hml, hown, hts⟩ (cw_LK_43 hts ⟨Nat.le_of_ble_eq_true rfl, Nat.le_of_ble_eq_true rfl⟩) (c_RE_isLand l D adr cA μ ν (μ.1 (28 + x1.toNatClampNeg) 1)) hG hP (rc_o (q := 18) (ci := 2) hG hP (by decide) (wc_C (by decide) rfl) rfl) rfl hl.1 (Nat.le_of_ble_eq_true rfl) d_LK_isLevelOf_21) hS (fun H locs hP hS => ?_)
    refine lv_if_eq (tgt := 58) hx hb d_LK_isLevelOf_24 (by decide) (fun hc => ?_) (fun hc => ?_)
    · replace hf := if_p hc hf
      refine lv_iconst (v := 0) hx hb d_LK_isLevelOf_58 (by decide) ?_
      obtain rfl := Option.some.inj hf
      exact hq _ _ _ _ (by decide) d_LK_isLevelOf_59 hP hS
    · replace hf := if_n hc hf
      refine lv_iload_n hx hb d_LK_isLevelOf_27 rfl (lv_at hl 2 rfl) ?_
      refine lv_ldc (v := (-1000000)) hx hb hown (hts _ in_450) d_LK_isLevelOf_28 ?_
      refine lv_icmp_lt (tgt := 58) hx hb d_LK_isLevelOf_30 (by decide) (fun hc => ?_) (fun hc => ?_)
      · replace hf := if_p hc hf
        refine lv_iconst (v := 0) hx hb d_LK_isLevelOf_58 (by decide) ?_
        obtain rfl := Option.some.inj hf
        exact hq _ _ _ _ (by decide) d_LK_isLevelOf_59 hP hS
      · replace hf := if_n hc hf
        refine lv_iload_n hx hb d_LK_isLevelOf_33 rfl (lv_at hl 2 rfl) ?_
        refine lv_aload_n hx hb d_LK_isLevelOf_34 rfl (lv_at hl 0 rfl) ?_
        refine g_LK_relief hx hb hts hown hG hP (hts _ in_160) d_LK_isLevelOf_35 ?_
        refine g_RE_height hx hb hts hown hG hP (hts _ in_45) d_LK_isLevelOf_38 ?_
        refine lv_aload_n hx hb d_LK_isLevelOf_41 rfl (lv_at hl 0 rfl) ?_
        refine g_LK_all hx hb hts hown hG hP (hts _ in_152) d_LK_isLevelOf_42 ?_
        refine lv_iload_n hx hb d_LK_isLevelOf_45 rfl (lv_at hl 1 rfl) ?_
        replace hf := G_some hf
        obtain ⟨hi2, hf⟩ := hf
        refine r_aLA hx hb hG hP hi2 d_LK_isLevelOf_46 ?_
        refine g_LA_rim hx hb hts hown hG hP (vin_lt hi2) (hts _ in_115) d_LK_isLevelOf_47 ?_
        replace hf := G_some hf
        obtain ⟨hi3, hf⟩ := hf
        refine r_iald hx hb hG hP 19 64 (f := μ.1 19) (by decide) (wc_C (by decide) rfl) hi3 d_LK_isLevelOf_50 ?_
        refine lv_icmp_gt (tgt := 58) hx hb d_LK_isLevelOf_51 (by decide) (fun hc => ?_) (fun hc => ?_)
        · replace hf := if_p hc hf
          refine lv_iconst (v := 0) hx hb d_LK_isLevelOf_58 (by decide) ?_
          obtain rfl := Option.some.inj hf
          exact hq _ _ _ _ (by decide) d_LK_isLevelOf_59 hP hS
        · replace hf := if_n hc hf
          refine lv_iconst (v := 1) hx hb d_LK_isLevelOf_54 (by decide) ?_
          refine lv_goto (tgt := 59) hx hb d_LK_isLevelOf_55 (by decide) ?_
          obtain rfl := Option.some.inj hf
          exact hq _ _ _ _ (by decide) d_LK_isLevelOf_59 hP hS
theorem c_LK_isLevelOf (l : Launch) (D : va_G) (adr : Nat → Nat) (cA : Nat → ClassId) (μ ν : Mem) (x1 : Int32) (x2 : Int32)  {res : Int32} (hf : f_LK_isLevelOf μ x1 x2 = some res) : Met l y_LK_isLevelOf (Cond.code y_LK_isLevelOf prog_3_method_3_code 3 (Option.some Jvm.ClassFile.FieldType.boolean) :: lw_ok) rm_LK_isLevelOf (va_Pc [.ref (adr 26), .int x1, .int x2] (Wd D adr cA μ ν)) (QI D adr cA res μ ν) 0 0 (AA adr) :=
  met_of (own := "LakeRelief$Lakes") rfl rfl (Nat.le_of_ble_eq_true rfl) (fun p e s m below meth c C hG hP hS ls hl => w_LK_isLevelOf x1 x2  C hG hf (fun pc ls H locs hz hd hP hS => ret_z C.1 C.2.1 C.2.2.2.2.2.1 C.2.2.2.2.2.2 hG hz hd hP hS) hP hS hl)
end X_LK_isLevelOf
section X_RE_beside
variable {p : Program} {l : Launch} {e : Env} {s : State} {m : MethodId} {args : Array Value} {below : List Frame} {meth : Method} {c : Code} {Q : State → Prop}
variable {D : va_G} {adr : Nat → Nat} {cA : Nat → ClassId} {μ ν : Mem}
theorem d_RE_beside_0 : decode prog_4_method_12_code 0 = .ok (.aload_n 0, 1) := by decide +kernel
theorem d_RE_beside_1 : decode prog_4_method_12_code 1 = .ok (.iload_n 1, 1) := by decide +kernel
theorem d_RE_beside_2 : decode prog_4_method_12_code 2 = .ok (.invokevirtual 63, 3) := by decide +kernel
theorem d_RE_beside_5 : decode prog_4_method_12_code 5 = .ok (.ifCond .eq 16, 3) := by decide +kernel
theorem d_RE_beside_8 : decode prog_4_method_12_code 8 = .ok (.aload_n 0, 1) := by decide +kernel
theorem d_RE_beside_9 : decode prog_4_method_12_code 9 = .ok (.getfield 27, 3) := by decide +kernel
theorem d_RE_beside_12 : decode prog_4_method_12_code 12 = .ok (.iconst 4, 1) := by decide +kernel
theorem d_RE_beside_13 : decode prog_4_method_12_code 13 = .ok (.iload_n 1, 1) := by decide +kernel
theorem d_RE_beside_14 : decode prog_4_method_12_code 14 = .ok (.imul, 1) := by decide +kernel
theorem d_RE_beside_15 : decode prog_4_method_12_code 15 = .ok (.iload_n 2, 1) := by decide +kernel
theorem d_RE_beside_16 : decode prog_4_method_12_code 16 = .ok (.iadd, 1) := by decide +kernel
theorem d_RE_beside_17 : decode prog_4_method_12_code 17 = .ok (.iaload, 1) := by decide +kernel
theorem d_RE_beside_18 : decode prog_4_method_12_code 18 = .ok (.goto 5, 3) := by decide +kernel
theorem d_RE_beside_21 : decode prog_4_method_12_code 21 = .ok (.bipush (-5), 2) := by decide +kernel
theorem d_RE_beside_23 : decode prog_4_method_12_code 23 = .ok (.ireturn, 1) := by decide +kernel
set_option maxHeartbeats 4000000 in
set_option maxRecDepth 100000 in
theorem w_RE_beside (x1 : Int32) (x2 : Int32)  (C : Cx prog_4_method_12_code 3 "LakeRelief$Relief" (Option.some Jvm.ClassFile.FieldType.int) p s m args meth c) (hG : Geo D adr cA s) {res : Int32} (hf : f_RE_beside μ x1 x2 = some res) (hq : ∀ (pc : Nat) (ls : Array Slot) (H : Heap) (locs : List Loc), decode prog_4_method_12_code pc = .ok (.ireturn, 1) → va_P D cls (wld adr cA μ ν) H → va_S (AA adr) s.heap H locs → W p l e rm_RE_beside s m args below meth c H locs 0 0 Q (F0 m pc ls [.int res])) {H : Heap} {locs : List Loc} {ls : Array Slot} (hP : va_P D cls (wld adr cA μ ν) H) (hS : va_S (AA adr) s.heap H locs) (hl : lv_has ls 3 [(0, .ref (adr 18)), (1, .int x1), (2, .int x2)]) : W p l e rm_RE_beside s m args below meth c H locs 0 0 Q (F0 m 0 ls []) := by
  obtain ⟨hx, hb, hml, hown, hts, hr, hlocks⟩ := id C
  unfold f_RE_beside at hf
  refine lv_aload_n hx hb d_RE_beside_0 rfl (lv_at hl 0 rfl) ?_
  refine lv_iload_n hx hb d_RE_beside_1 rfl (lv_at hl 1 rfl) ?_
  refine ki (kv (As := [.int x1]) (rest := []) ⟨hx, hb, hml, hown, hts⟩ (cw_RE_63 hts ⟨Nat.le_of_ble_eq_true rfl, Nat.le_of_ble_eq_true rfl⟩) (c_RE_isField l D adr cA μ ν x1) hG hP (rc_o (q := 18) (ci := 2) hG hP (by decide) (wc_C (by decide) rfl) rfl) rfl hl.1 (Nat.le_of_ble_eq_true rfl) d_RE_beside_2) hS (fun H locs hP hS => ?_)
  refine lv_if_eq (tgt := 21) hx hb d_RE_beside_5 (by decide) (fun hc => ?_) (fun hc => ?_)
  · replace hf := if_p hc hf
    refine lv_bipush (v := (-5)) hx hb d_RE_beside_21 (by decide) ?_
    obtain rfl := Option.some.inj hf
    exact hq _ _ _ _ d_RE_beside_23 hP hS
  · replace hf := if_n hc hf
    refine lv_aload_n hx hb d_RE_beside_8 rfl (lv_at hl 0 rfl) ?_
    refine g_RE_neighbours hx hb hts hown hG hP (hts _ in_56) d_RE_beside_9 ?_
    refine lv_iconst (v := 4) hx hb d_RE_beside_12 (by decide) ?_
    refine lv_iload_n hx hb d_RE_beside_13 rfl (lv_at hl 1 rfl) ?_
    refine lv_imul hx hb d_RE_beside_14 ?_
    refine lv_iload_n hx hb d_RE_beside_15 rfl (lv_at hl 2 rfl) ?_
    refine lv_iadd hx hb d_RE_beside_16 ?_
    replace hf := G_some hf
    obtain ⟨hi1, hf⟩ := hf
    refine r_iald hx hb hG hP 24 256 (f := μ.1 24) (by decide) (wc_C (by decide) rfl) hi1 d_RE_beside_17 ?_
    refine lv_goto (tgt := 23) hx hb d_RE_beside_18 (by decide) ?_
    obtain rfl := Option.some.inj hf
    exact hq _ _ _ _ d_RE_beside_23 hP hS
theorem c_RE_beside (l : Launch) (D : va_G) (adr : Nat → Nat) (cA : Nat → ClassId) (μ ν : Mem) (x1 : Int32) (x2 : Int32)  {res : Int32} (hf : f_RE_beside μ x1 x2 = some res) : Met l y_RE_beside (Cond.code y_RE_beside prog_4_method_12_code 3 (Option.some Jvm.ClassFile.FieldType.int) :: lw_ok) rm_RE_beside (va_Pc [.ref (adr 18), .int x1, .int x2] (Wd D adr cA μ ν)) (QI D adr cA res μ ν) 0 0 (AA adr) :=
  met_of (own := "LakeRelief$Relief") rfl rfl (Nat.le_of_ble_eq_true rfl) (fun p e s m below meth c C hG hP hS ls hl => w_RE_beside x1 x2  C hG hf (fun pc ls H locs hd hP hS => ret_i C.1 C.2.1 C.2.2.2.2.2.1 C.2.2.2.2.2.2 hG hd hP hS) hP hS hl)
end X_RE_beside
section X_LK_topWith
variable {p : Program} {l : Launch} {e : Env} {s : State} {m : MethodId} {args : Array Value} {below : List Frame} {meth : Method} {c : Code} {Q : State → Prop}
variable {D : va_G} {adr : Nat → Nat} {cA : Nat → ClassId} {μ ν : Mem}
theorem d_LK_topWith_0 : decode prog_3_method_9_code 0 = .ok (.iconst 0, 1) := by decide +kernel
theorem d_LK_topWith_1 : decode prog_3_method_9_code 1 = .ok (.istore_n 2, 1) := by decide +kernel
theorem d_LK_topWith_2 : decode prog_3_method_9_code 2 = .ok (.iload_n 2, 1) := by decide +kernel
theorem d_LK_topWith_3 : decode prog_3_method_9_code 3 = .ok (.aload_n 0, 1) := by decide +kernel
theorem d_LK_topWith_4 : decode prog_3_method_9_code 4 = .ok (.getfield 22, 3) := by decide +kernel
theorem d_LK_topWith_7 : decode prog_3_method_9_code 7 = .ok (.if_icmp .ge 47, 3) := by decide +kernel
theorem d_LK_topWith_10 : decode prog_3_method_9_code 10 = .ok (.aload_n 0, 1) := by decide +kernel
theorem d_LK_topWith_11 : decode prog_3_method_9_code 11 = .ok (.getfield 17, 3) := by decide +kernel
theorem d_LK_topWith_14 : decode prog_3_method_9_code 14 = .ok (.iload_n 2, 1) := by decide +kernel
theorem d_LK_topWith_15 : decode prog_3_method_9_code 15 = .ok (.aaload, 1) := by decide +kernel
theorem d_LK_topWith_16 : decode prog_3_method_9_code 16 = .ok (.getfield 120, 3) := by decide +kernel
theorem d_LK_topWith_19 : decode prog_3_method_9_code 19 = .ok (.bipush (-3), 2) := by decide +kernel
theorem d_LK_topWith_21 : decode prog_3_method_9_code 21 = .ok (.if_icmp .ne 27, 3) := by decide +kernel
theorem d_LK_topWith_24 : decode prog_3_method_9_code 24 = .ok (.iload_n 1, 1) := by decide +kernel
theorem d_LK_topWith_25 : decode prog_3_method_9_code 25 = .ok (.bipush (-5), 2) := by decide +kernel
theorem d_LK_topWith_27 : decode prog_3_method_9_code 27 = .ok (.if_icmp .eq 21, 3) := by decide +kernel
theorem d_LK_topWith_30 : decode prog_3_method_9_code 30 = .ok (.aload_n 0, 1) := by decide +kernel
theorem d_LK_topWith_31 : decode prog_3_method_9_code 31 = .ok (.getfield 17, 3) := by decide +kernel
theorem d_LK_topWith_34 : decode prog_3_method_9_code 34 = .ok (.iload_n 2, 1) := by decide +kernel
theorem d_LK_topWith_35 : decode prog_3_method_9_code 35 = .ok (.aaload, 1) := by decide +kernel
theorem d_LK_topWith_36 : decode prog_3_method_9_code 36 = .ok (.getfield 67, 3) := by decide +kernel
theorem d_LK_topWith_39 : decode prog_3_method_9_code 39 = .ok (.iload_n 1, 1) := by decide +kernel
theorem d_LK_topWith_40 : decode prog_3_method_9_code 40 = .ok (.invokestatic 123, 3) := by decide +kernel
theorem d_LK_topWith_43 : decode prog_3_method_9_code 43 = .ok (.ifCond .eq 5, 3) := by decide +kernel
theorem d_LK_topWith_46 : decode prog_3_method_9_code 46 = .ok (.iload_n 2, 1) := by decide +kernel
theorem d_LK_topWith_47 : decode prog_3_method_9_code 47 = .ok (.ireturn, 1) := by decide +kernel
theorem d_LK_topWith_48 : decode prog_3_method_9_code 48 = .ok (.iinc 2 1, 3) := by decide +kernel
theorem d_LK_topWith_51 : decode prog_3_method_9_code 51 = .ok (.goto (-49), 3) := by decide +kernel
theorem d_LK_topWith_54 : decode prog_3_method_9_code 54 = .ok (.bipush (-3), 2) := by decide +kernel
theorem d_LK_topWith_56 : decode prog_3_method_9_code 56 = .ok (.ireturn, 1) := by decide +kernel
set_option maxHeartbeats 4000000 in
set_option maxRecDepth 100000 in
theorem w_LK_topWith_L2 (y1 : Int32)  (C : Cx prog_3_method_9_code 3 "LakeRelief$Lakes" (Option.some Jvm.ClassFile.FieldType.int) p s m args meth c) (hG : Geo D adr cA s) (K : Unit → Option (Int32)) {res : Int32} (hq : ∀ (pc : Nat) (ls : Array Slot) (H : Heap) (locs : List Loc), decode prog_3_method_9_code pc = .ok (.ireturn, 1) → va_P D cls (wld adr cA μ ν) H → va_S (AA adr) s.heap H locs → W p l e rm_LK_topWith s m args below meth c H locs 0 0 Q (F0 m pc ls [.int res])) (hE : ∀ (u : Unit), K u = some res → ∀ (H : Heap) (locs : List Loc) (ls : Array Slot), va_P D cls (wld adr cA μ ν) H → va_S (AA adr) s.heap H locs → lv_has ls 3 [] → W p l e rm_LK_topWith s m args below meth c H locs 0 0 Q (F0 m 54 ls [])) : ∀ (n : Nat) (y2 : Int32), f_LK_topWith_L2 μ y1 K n y2 = some res → ∀ {H : Heap} {locs : List Loc} {ls : Array Slot}, va_P D cls (wld adr cA μ ν) H → va_S (AA adr) s.heap H locs → lv_has ls 3 [(0, .ref (adr 26)), (1, .int y1), (2, .int y2)] → W p l e rm_LK_topWith s m args below meth c H locs 0 0 Q (F0 m 2 ls []) := by
  obtain ⟨hx, hb, hml, hown, hts, hr, hlocks⟩ := id C
  intro n
  induction n with
  | zero => intro y2 hf; rw [f_LK_topWith_L2.eq_1] at hf; cases hf
  | succ n ih =>
    intro y2 hf H locs ls hP hS hl
    rw [f_LK_topWith_L2.eq_2] at hf
    refine lv_iload_n hx hb d_LK_topWith_2 rfl (lv_at hl 2 rfl) ?_
    refine lv_aload_n hx hb d_LK_topWith_3 rfl (lv_at hl 0 rfl) ?_
    refine g_LK_number hx hb hts hown hG hP (hts _ in_154) d_LK_topWith_4 ?_
    refine lv_icmp_ge (tgt := 54) hx hb d_LK_topWith_7 (by decide) (fun hc => ?_) (fun hc => ?_)
    · replace hf := if_p hc hf
      exact hE _ hf _ _ _ hP hS (lv_sub hl [] rfl)
    · replace hf := if_n hc hf
      refine lv_aload_n hx hb d_LK_topWith_10 rfl (lv_at hl 0 rfl) ?_
      refine g_LK_all hx hb hts hown hG hP (hts _ in_152) d_LK_topWith_11 ?_
      refine lv_iload_n hx hb d_LK_topWith_14 rfl (lv_at hl 2 rfl) ?_
      replace hf := G_some hf
      obtain ⟨hi1, hf⟩ := hf
      refine r_aLA hx hb hG hP hi1 d_LK_topWith_15 ?_
      refine g_LA_whole hx hb hts hown hG hP (vin_lt hi1) (hts _ in_118) d_LK_topWith_16 ?_
      refine lv_bipush (v := (-3)) hx hb d_LK_topWith_19 (by decide) ?_
      refine lv_icmp_ne (tgt := 48) hx hb d_LK_topWith_21 (by decide) (fun hc => ?_) (fun hc => ?_)
      · replace hf := if_n hc hf
        refine lv_iinc (v := (y2 + 1)) (lv' := [(2, .int (y2 + 1)), (0, .ref (adr 26)), (1, .int y1)]) hx hb d_LK_topWith_48 hl (k := 2) rfl rfl (by decide) rfl (fun ls hl => ?_)
        refine lv_goto (tgt := 2) hx hb d_LK_topWith_51 (by decide) ?_
        exact ih _ hf hP hS (lv_sub hl [1, 2, 0] rfl)
      · replace hf := if_p hc hf
        refine lv_iload_n hx hb d_LK_topWith_24 rfl (lv_at hl 1 rfl) ?_
        refine lv_bipush (v := (-5)) hx hb d_LK_topWith_25 (by decide) ?_
        refine lv_icmp_eq (tgt := 48) hx hb d_LK_topWith_27 (by decide) (fun hc => ?_) (fun hc => ?_)
        · replace hf := if_p hc hf
          refine lv_iinc (v := (y2 + 1)) (lv' := [(2, .int (y2 + 1)), (0, .ref (adr 26)), (1, .int y1)]) hx hb d_LK_topWith_48 hl (k := 2) rfl rfl (by decide) rfl (fun ls hl => ?_)
          refine lv_goto (tgt := 2) hx hb d_LK_topWith_51 (by decide) ?_
          exact ih _ hf hP hS (lv_sub hl [1, 2, 0] rfl)
        · replace hf := if_n hc hf
          refine lv_aload_n hx hb d_LK_topWith_30 rfl (lv_at hl 0 rfl) ?_
          refine g_LK_all hx hb hts hown hG hP (hts _ in_152) d_LK_topWith_31 ?_
          refine lv_iload_n hx hb d_LK_topWith_34 rfl (lv_at hl 2 rfl) ?_
          replace hf := G_some hf
          obtain ⟨hi2, hf⟩ := hf
          refine r_aLA hx hb hG hP hi2 d_LK_topWith_35 ?_
          refine g_LA_fields hx hb hts hown hG hP (vin_lt hi2) (hts _ in_112) d_LK_topWith_36 ?_
          refine lv_iload_n hx hb d_LK_topWith_39 rfl (lv_at hl 1 rfl) ?_
          refine ki (kn (As := [.long (μ.2 (28 + y2.toNatClampNeg) 0), .int y1]) (rest := []) ⟨hx, hb, hml, hown, hts⟩ (cw_LK_123 hts hG ⟨Nat.le_of_ble_eq_true rfl, Nat.le_of_ble_eq_true rfl⟩) (c_LR_isIn l D adr cA μ ν (μ.2 (28 + y2.toNatClampNeg) 0) y1) hG hP rfl hl.1 (Nat.le_of_ble_eq_true rfl) d_LK_topWith_40) hS (fun H locs hP hS => ?_)
          refine lv_if_eq (tgt := 48) hx hb d_LK_topWith_43 (by decide) (fun hc => ?_) (fun hc => ?_)
          · replace hf := if_p hc hf
            refine lv_iinc (v := (y2 + 1)) (lv' := [(2, .int (y2 + 1)), (0, .ref (adr 26)), (1, .int y1)]) hx hb d_LK_topWith_48 hl (k := 2) rfl rfl (by decide) rfl (fun ls hl => ?_)
            refine lv_goto (tgt := 2) hx hb d_LK_topWith_51 (by decide) ?_
            exact ih _ hf hP hS (lv_sub hl [1, 2, 0] rfl)
          · replace hf := if_n hc hf
            refine lv_iload_n hx hb d_LK_topWith_46 rfl (lv_at hl 2 rfl) ?_
            obtain rfl := Option.some.inj hf
            exact hq _ _ _ _ d_LK_topWith_47 hP hS
set_option maxHeartbeats 4000000 in
set_option maxRecDepth 100000 in
theorem w_LK_topWith (x1 : Int32)  (C : Cx prog_3_method_9_code 3 "LakeRelief$Lakes" (Option.some Jvm.ClassFile.FieldType.int) p s m args meth c) (hG : Geo D adr cA s) {res : Int32} (hf : f_LK_topWith μ x1 = some res) (hq : ∀ (pc : Nat) (ls : Array Slot) (H : Heap) (locs : List Loc), decode prog_3_method_9_code pc = .ok (.ireturn, 1) → va_P D cls (wld adr cA μ ν) H → va_S (AA adr) s.heap H locs → W p l e rm_LK_topWith s m args below meth c H locs 0 0 Q (F0 m pc ls [.int res])) {H : Heap} {locs : List Loc} {ls : Array Slot} (hP : va_P D cls (wld adr cA μ ν) H) (hS : va_S (AA adr) s.heap H locs) (hl : lv_has ls 3 [(0, .ref (adr 26)), (1, .int x1)]) : W p l e rm_LK_topWith s m args below meth c H locs 0 0 Q (F0 m 0 ls []) := by
  obtain ⟨hx, hb, hml, hown, hts, hr, hlocks⟩ := id C
  unfold f_LK_topWith at hf
  refine lv_iconst (v := 0) hx hb d_LK_topWith_0 (by decide) ?_
  refine lv_istore_n (lv' := [(2, .int 0), (0, .ref (adr 26)), (1, .int x1)]) hx hb d_LK_topWith_1 rfl hl (by decide) rfl (fun ls hl => ?_)
  refine w_LK_topWith_L2 x1  C hG _ hq ?_ FU _ hf hP hS (lv_sub hl [1, 2, 0] rfl)
  clear hf hP hS hl
  intro u hf H locs ls hP hS hl
  refine lv_bipush (v := (-3)) hx hb d_LK_topWith_54 (by decide) ?_
  obtain rfl := Option.some.inj hf
  exact hq _ _ _ _ d_LK_topWith_56 hP hS
theorem c_LK_topWith (l : Launch) (D : va_G) (adr : Nat → Nat) (cA : Nat → ClassId) (μ ν : Mem) (x1 : Int32)  {res : Int32} (hf : f_LK_topWith μ x1 = some res) : Met l y_LK_topWith (Cond.code y_LK_topWith prog_3_method_9_code 3 (Option.some Jvm.ClassFile.FieldType.int) :: lw_ok) rm_LK_topWith (va_Pc [.ref (adr 26), .int x1] (Wd D adr cA μ ν)) (QI D adr cA res μ ν) 0 0 (AA adr) :=
  met_of (own := "LakeRelief$Lakes") rfl rfl (Nat.le_of_ble_eq_true rfl) (fun p e s m below meth c C hG hP hS ls hl => w_LK_topWith x1  C hG hf (fun pc ls H locs hd hP hS => ret_i C.1 C.2.1 C.2.2.2.2.2.1 C.2.2.2.2.2.2 hG hd hP hS) hP hS hl)
end X_LK_topWith
section X_LR_only
variable {p : Program} {l : Launch} {e : Env} {s : State} {m : MethodId} {args : Array Value} {below : List Frame} {meth : Method} {c : Code} {Q : State → Prop}
variable {D : va_G} {adr : Nat → Nat} {cA : Nat → ClassId} {μ ν : Mem}
theorem d_LR_only_0 : decode prog_1_method_25_code 0 = .ok (.lconst 1, 1) := by decide +kernel
theorem d_LR_only_1 : decode prog_1_method_25_code 1 = .ok (.iload_n 0, 1) := by decide +kernel
theorem d_LR_only_2 : decode prog_1_method_25_code 2 = .ok (.lshl, 1) := by decide +kernel
theorem d_LR_only_3 : decode prog_1_method_25_code 3 = .ok (.lreturn, 1) := by decide +kernel
set_option maxHeartbeats 4000000 in
set_option maxRecDepth 100000 in
theorem w_LR_only (x0 : Int32)  (C : Cx prog_1_method_25_code 1 "LakeRelief" (Option.some Jvm.ClassFile.FieldType.long) p s m args meth c) (hG : Geo D adr cA s) {res : Int64} (hf : f_LR_only x0 = res) (hq : ∀ (pc : Nat) (ls : Array Slot) (H : Heap) (locs : List Loc), decode prog_1_method_25_code pc = .ok (.lreturn, 1) → va_P D cls (wld adr cA μ ν) H → va_S (AA adr) s.heap H locs → W p l e rm_LR_only s m args below meth c H locs 0 0 Q (F0 m pc ls [.long res])) {H : Heap} {locs : List Loc} {ls : Array Slot} (hP : va_P D cls (wld adr cA μ ν) H) (hS : va_S (AA adr) s.heap H locs) (hl : lv_has ls 1 [(0, .int x0)]) : W p l e rm_LR_only s m args below meth c H locs 0 0 Q (F0 m 0 ls []) := by
  obtain ⟨hx, hb, hml, hown, hts, hr, hlocks⟩ := id C
  unfold f_LR_only at hf
  refine lv_lconst (v := 1) hx hb d_LR_only_0 (by decide) ?_
  refine lv_iload_n hx hb d_LR_only_1 rfl (lv_at hl 0 rfl) ?_
  refine lv_lshl hx hb d_LR_only_2 rfl ?_
  subst hf
  exact hq _ _ _ _ d_LR_only_3 hP hS
theorem c_LR_only (l : Launch) (D : va_G) (adr : Nat → Nat) (cA : Nat → ClassId) (μ ν : Mem) (x0 : Int32)  : Met l y_LR_only (Cond.code y_LR_only prog_1_method_25_code 1 (Option.some Jvm.ClassFile.FieldType.long) :: lw_ok) rm_LR_only (va_Pc [.int x0] (Wd D adr cA μ ν)) (QL D adr cA (f_LR_only x0) μ ν) 0 0 (AA adr) :=
  met_of (own := "LakeRelief") rfl rfl (Nat.le_of_ble_eq_true rfl) (fun p e s m below meth c C hG hP hS ls hl => w_LR_only x0  C hG rfl (fun pc ls H locs hd hP hS => ret_l C.1 C.2.1 C.2.2.2.2.2.1 C.2.2.2.2.2.2 hG hd hP hS) hP hS hl)
end X_LR_only
section X_LK_topsBeside
variable {p : Program} {l : Launch} {e : Env} {s : State} {m : MethodId} {args : Array Value} {below : List Frame} {meth : Method} {c : Code} {Q : State → Prop}
variable {D : va_G} {adr : Nat → Nat} {cA : Nat → ClassId} {μ ν : Mem}
theorem d_LK_topsBeside_0 : decode prog_3_method_8_code 0 = .ok (.lconst 0, 1) := by decide +kernel
theorem d_LK_topsBeside_1 : decode prog_3_method_8_code 1 = .ok (.lstore_n 2, 1) := by decide +kernel
theorem d_LK_topsBeside_2 : decode prog_3_method_8_code 2 = .ok (.iconst 0, 1) := by decide +kernel
theorem d_LK_topsBeside_3 : decode prog_3_method_8_code 3 = .ok (.istore 4, 2) := by decide +kernel
theorem d_LK_topsBeside_5 : decode prog_3_method_8_code 5 = .ok (.iload 4, 2) := by decide +kernel
theorem d_LK_topsBeside_7 : decode prog_3_method_8_code 7 = .ok (.iconst 4, 1) := by decide +kernel
theorem d_LK_topsBeside_8 : decode prog_3_method_8_code 8 = .ok (.if_icmp .ge 40, 3) := by decide +kernel
theorem d_LK_topsBeside_11 : decode prog_3_method_8_code 11 = .ok (.aload_n 0, 1) := by decide +kernel
theorem d_LK_topsBeside_12 : decode prog_3_method_8_code 12 = .ok (.aload_n 0, 1) := by decide +kernel
theorem d_LK_topsBeside_13 : decode prog_3_method_8_code 13 = .ok (.getfield 9, 3) := by decide +kernel
theorem d_LK_topsBeside_16 : decode prog_3_method_8_code 16 = .ok (.iload_n 1, 1) := by decide +kernel
theorem d_LK_topsBeside_17 : decode prog_3_method_8_code 17 = .ok (.iload 4, 2) := by decide +kernel
theorem d_LK_topsBeside_19 : decode prog_3_method_8_code 19 = .ok (.invokevirtual 112, 3) := by decide +kernel
theorem d_LK_topsBeside_22 : decode prog_3_method_8_code 22 = .ok (.invokevirtual 116, 3) := by decide +kernel
theorem d_LK_topsBeside_25 : decode prog_3_method_8_code 25 = .ok (.istore 5, 2) := by decide +kernel
theorem d_LK_topsBeside_27 : decode prog_3_method_8_code 27 = .ok (.iload 5, 2) := by decide +kernel
theorem d_LK_topsBeside_29 : decode prog_3_method_8_code 29 = .ok (.bipush (-3), 2) := by decide +kernel
theorem d_LK_topsBeside_31 : decode prog_3_method_8_code 31 = .ok (.if_icmp .eq 11, 3) := by decide +kernel
theorem d_LK_topsBeside_34 : decode prog_3_method_8_code 34 = .ok (.lload_n 2, 1) := by decide +kernel
theorem d_LK_topsBeside_35 : decode prog_3_method_8_code 35 = .ok (.iload 5, 2) := by decide +kernel
theorem d_LK_topsBeside_37 : decode prog_3_method_8_code 37 = .ok (.invokestatic 102, 3) := by decide +kernel
theorem d_LK_topsBeside_40 : decode prog_3_method_8_code 40 = .ok (.lor, 1) := by decide +kernel
theorem d_LK_topsBeside_41 : decode prog_3_method_8_code 41 = .ok (.lstore_n 2, 1) := by decide +kernel
theorem d_LK_topsBeside_42 : decode prog_3_method_8_code 42 = .ok (.iinc 4 1, 3) := by decide +kernel
theorem d_LK_topsBeside_45 : decode prog_3_method_8_code 45 = .ok (.goto (-40), 3) := by decide +kernel
theorem d_LK_topsBeside_48 : decode prog_3_method_8_code 48 = .ok (.lload_n 2, 1) := by decide +kernel
theorem d_LK_topsBeside_49 : decode prog_3_method_8_code 49 = .ok (.lreturn, 1) := by decide +kernel
set_option maxHeartbeats 4000000 in
set_option maxRecDepth 100000 in
theorem w_LK_topsBeside_L5 (y1 : Int32)  (C : Cx prog_3_method_8_code 6 "LakeRelief$Lakes" (Option.some Jvm.ClassFile.FieldType.long) p s m args meth c) (hG : Geo D adr cA s) (v : Int64) (hE : ∀ (H : Heap) (locs : List Loc) (ls : Array Slot), va_P D cls (wld adr cA μ ν) H → va_S (AA adr) s.heap H locs → lv_has ls 6 [(2, .long v)] → W p l e rm_LK_topsBeside s m args below meth c H locs 0 0 Q (F0 m 48 ls [])) : ∀ (n : Nat) (y2 : Int64) (y4 : Int32), f_LK_topsBeside_L5 μ y1 n y2 y4 = some v → ∀ {H : Heap} {locs : List Loc} {ls : Array Slot}, va_P D cls (wld adr cA μ ν) H → va_S (AA adr) s.heap H locs → lv_has ls 6 [(0, .ref (adr 26)), (1, .int y1), (2, .long y2), (4, .int y4)] → W p l e rm_LK_topsBeside s m args below meth c H locs 0 0 Q (F0 m 5 ls []) := by
  obtain ⟨hx, hb, hml, hown, hts, hr, hlocks⟩ := id C
  intro n
  induction n with
  | zero => intro y2 y4 hf; rw [f_LK_topsBeside_L5.eq_1] at hf; cases hf
  | succ n ih =>
    intro y2 y4 hf H locs ls hP hS hl
    rw [f_LK_topsBeside_L5.eq_2] at hf
    refine lv_iload hx hb d_LK_topsBeside_5 (lv_at hl 3 rfl) ?_
    refine lv_iconst (v := 4) hx hb d_LK_topsBeside_7 (by decide) ?_
    refine lv_icmp_ge (tgt := 48) hx hb d_LK_topsBeside_8 (by decide) (fun hc => ?_) (fun hc => ?_)
    · replace hf := if_p hc hf
      obtain rfl := Option.some.inj hf
      exact hE _ _ _ hP hS (lv_sub hl [2] rfl)
    · replace hf := if_n hc hf
      refine lv_aload_n hx hb d_LK_topsBeside_11 rfl (lv_at hl 0 rfl) ?_
      refine lv_aload_n hx hb d_LK_topsBeside_12 rfl (lv_at hl 0 rfl) ?_
      refine g_LK_relief hx hb hts hown hG hP (hts _ in_160) d_LK_topsBeside_13 ?_
      refine lv_iload_n hx hb d_LK_topsBeside_16 rfl (lv_at hl 1 rfl) ?_
      refine lv_iload hx hb d_LK_topsBeside_17 (lv_at hl 3 rfl) ?_
      replace hf := B_some hf
      obtain ⟨v1, hv1, hf⟩ := hf
      refine ki (kv (As := [.int y1, .int y4]) (rest := [.ref (adr 26)]) ⟨hx, hb, hml, hown, hts⟩ (cw_LK_112 hts ⟨Nat.le_of_ble_eq_true rfl, Nat.le_of_ble_eq_true rfl⟩) (c_RE_beside l D adr cA μ ν y1 y4 hv1) hG hP (rc_o (q := 18) (ci := 2) hG hP (by decide) (wc_C (by decide) rfl) rfl) rfl hl.1 (Nat.le_of_ble_eq_true rfl) d_LK_topsBeside_19) hS (fun H locs hP hS => ?_)
      replace hf := B_some hf
      obtain ⟨v2, hv2, hf⟩ := hf
      refine ki (kv (As := [.int v1]) (rest := []) ⟨hx, hb, hml, hown, hts⟩ (cw_LK_116 hts ⟨Nat.le_of_ble_eq_true rfl, Nat.le_of_ble_eq_true rfl⟩) (c_LK_topWith l D adr cA μ ν v1 hv2) hG hP (rc_o (q := 26) (ci := 1) hG hP (by decide) (wc_C (by decide) rfl) rfl) rfl hl.1 (Nat.le_of_ble_eq_true rfl) d_LK_topsBeside_22) hS (fun H locs hP hS => ?_)
      refine lv_istore (lv' := [(5, .int v2), (0, .ref (adr 26)), (1, .int y1), (2, .long y2), (4, .int y4)]) hx hb d_LK_topsBeside_25 hl (by decide) rfl (fun ls hl => ?_)
      refine lv_iload hx hb d_LK_topsBeside_27 (lv_at hl 0 rfl) ?_
      refine lv_bipush (v := (-3)) hx hb d_LK_topsBeside_29 (by decide) ?_
      replace hf := B_some hf
      obtain ⟨v3, hv3, hf⟩ := hf
      have hJ : ∀ (H : Heap) (locs : List Loc) (ls : Array Slot), va_P D cls (wld adr cA μ ν) H → va_S (AA adr) s.heap H locs → lv_has ls 6 [(0, .ref (adr 26)), (1, .int y1), (2, .long v3), (4, .int y4)] → W p l e rm_LK_topsBeside s m args below meth c H locs 0 0 Q (F0 m 42 ls []) := by
        clear hv3
        intro H locs ls hP hS hl
        refine lv_iinc (v := (y4 + 1)) (lv' := [(4, .int (y4 + 1)), (0, .ref (adr 26)), (1, .int y1), (2, .long v3)]) hx hb d_LK_topsBeside_42 hl (k := 3) rfl rfl (by decide) rfl (fun ls hl => ?_)
        refine lv_goto (tgt := 5) hx hb d_LK_topsBeside_45 (by decide) ?_
        exact ih _ _ hf hP hS (lv_sub hl [1, 2, 3, 0] rfl)
      clear hf
      have hf := hv3
      clear hv3
      refine lv_icmp_eq (tgt := 42) hx hb d_LK_topsBeside_31 (by decide) (fun hc => ?_) (fun hc => ?_)
      · replace hf := if_p hc hf
        obtain rfl := Option.some.inj hf
        exact hJ _ _ _ hP hS (lv_sub hl [1, 2, 3, 4] rfl)
      · replace hf := if_n hc hf
        refine lv_lload_n hx hb d_LK_topsBeside_34 rfl (lv_at hl 3 rfl) ?_
        refine lv_iload hx hb d_LK_topsBeside_35 (lv_at hl 0 rfl) ?_
        refine kl (kn (As := [.int v2]) (rest := [.long y2]) ⟨hx, hb, hml, hown, hts⟩ (cw_LK_102 hts hG ⟨Nat.le_of_ble_eq_true rfl, Nat.le_of_ble_eq_true rfl⟩) (c_LR_only l D adr cA μ ν v2) hG hP rfl hl.1 (Nat.le_of_ble_eq_true rfl) d_LK_topsBeside_37) hS (fun H locs hP hS => ?_)
        refine lv_lor hx hb d_LK_topsBeside_40 ?_
        refine lv_lstore_n (lv' := [(2, .long (y2 ||| (f_LR_only v2))), (5, .int v2), (0, .ref (adr 26)), (1, .int y1), (4, .int y4)]) hx hb d_LK_topsBeside_41 rfl hl (by decide) rfl (fun ls hl => ?_)
        obtain rfl := Option.some.inj hf
        exact hJ _ _ _ hP hS (lv_sub hl [2, 3, 0, 4] rfl)
set_option maxHeartbeats 4000000 in
set_option maxRecDepth 100000 in
theorem w_LK_topsBeside (x1 : Int32)  (C : Cx prog_3_method_8_code 6 "LakeRelief$Lakes" (Option.some Jvm.ClassFile.FieldType.long) p s m args meth c) (hG : Geo D adr cA s) {res : Int64} (hf : f_LK_topsBeside μ x1 = some res) (hq : ∀ (pc : Nat) (ls : Array Slot) (H : Heap) (locs : List Loc), decode prog_3_method_8_code pc = .ok (.lreturn, 1) → va_P D cls (wld adr cA μ ν) H → va_S (AA adr) s.heap H locs → W p l e rm_LK_topsBeside s m args below meth c H locs 0 0 Q (F0 m pc ls [.long res])) {H : Heap} {locs : List Loc} {ls : Array Slot} (hP : va_P D cls (wld adr cA μ ν) H) (hS : va_S (AA adr) s.heap H locs) (hl : lv_has ls 6 [(0, .ref (adr 26)), (1, .int x1)]) : W p l e rm_LK_topsBeside s m args below meth c H locs 0 0 Q (F0 m 0 ls []) := by
  obtain ⟨hx, hb, hml, hown, hts, hr, hlocks⟩ := id C
  unfold f_LK_topsBeside at hf
  refine lv_lconst (v := 0) hx hb d_LK_topsBeside_0 (by decide) ?_
  refine lv_lstore_n (lv' := [(2, .long 0), (0, .ref (adr 26)), (1, .int x1)]) hx hb d_LK_topsBeside_1 rfl hl (by decide) rfl (fun ls hl => ?_)
  refine lv_iconst (v := 0) hx hb d_LK_topsBeside_2 (by decide) ?_
  refine lv_istore (lv' := [(4, .int 0), (2, .long 0), (0, .ref (adr 26)), (1, .int x1)]) hx hb d_LK_topsBeside_3 hl (by decide) rfl (fun ls hl => ?_)
  replace hf := B_some hf
  obtain ⟨v4, hv4, hf⟩ := hf
  refine w_LK_topsBeside_L5 x1  C hG v4 ?_ FU _ _ hv4 hP hS (lv_sub hl [2, 3, 1, 0] rfl)
  clear hv4 hP hS hl
  intro H locs ls hP hS hl
  refine lv_lload_n hx hb d_LK_topsBeside_48 rfl (lv_at hl 0 rfl) ?_
  obtain rfl := Option.some.inj hf
  exact hq _ _ _ _ d_LK_topsBeside_49 hP hS
theorem c_LK_topsBeside (l : Launch) (D : va_G) (adr : Nat → Nat) (cA : Nat → ClassId) (μ ν : Mem) (x1 : Int32)  {res : Int64} (hf : f_LK_topsBeside μ x1 = some res) : Met l y_LK_topsBeside (Cond.code y_LK_topsBeside prog_3_method_8_code 6 (Option.some Jvm.ClassFile.FieldType.long) :: lw_ok) rm_LK_topsBeside (va_Pc [.ref (adr 26), .int x1] (Wd D adr cA μ ν)) (QL D adr cA res μ ν) 0 0 (AA adr) :=
  met_of (own := "LakeRelief$Lakes") rfl rfl (Nat.le_of_ble_eq_true rfl) (fun p e s m below meth c C hG hP hS ls hl => w_LK_topsBeside x1  C hG hf (fun pc ls H locs hd hP hS => ret_l C.1 C.2.1 C.2.2.2.2.2.1 C.2.2.2.2.2.2 hG hd hP hS) hP hS hl)
end X_LK_topsBeside
section X_RE_isBesideSea
variable {p : Program} {l : Launch} {e : Env} {s : State} {m : MethodId} {args : Array Value} {below : List Frame} {meth : Method} {c : Code} {Q : State → Prop}
variable {D : va_G} {adr : Nat → Nat} {cA : Nat → ClassId} {μ ν : Mem}
theorem d_RE_isBesideSea_0 : decode prog_4_method_13_code 0 = .ok (.iconst 0, 1) := by decide +kernel
theorem d_RE_isBesideSea_1 : decode prog_4_method_13_code 1 = .ok (.istore_n 2, 1) := by decide +kernel
theorem d_RE_isBesideSea_2 : decode prog_4_method_13_code 2 = .ok (.iload_n 2, 1) := by decide +kernel
theorem d_RE_isBesideSea_3 : decode prog_4_method_13_code 3 = .ok (.iconst 4, 1) := by decide +kernel
theorem d_RE_isBesideSea_4 : decode prog_4_method_13_code 4 = .ok (.if_icmp .ge 22, 3) := by decide +kernel
theorem d_RE_isBesideSea_7 : decode prog_4_method_13_code 7 = .ok (.aload_n 0, 1) := by decide +kernel
theorem d_RE_isBesideSea_8 : decode prog_4_method_13_code 8 = .ok (.iload_n 1, 1) := by decide +kernel
theorem d_RE_isBesideSea_9 : decode prog_4_method_13_code 9 = .ok (.iload_n 2, 1) := by decide +kernel
theorem d_RE_isBesideSea_10 : decode prog_4_method_13_code 10 = .ok (.invokevirtual 86, 3) := by decide +kernel
theorem d_RE_isBesideSea_13 : decode prog_4_method_13_code 13 = .ok (.bipush (-5), 2) := by decide +kernel
theorem d_RE_isBesideSea_15 : decode prog_4_method_13_code 15 = .ok (.if_icmp .ne 5, 3) := by decide +kernel
theorem d_RE_isBesideSea_18 : decode prog_4_method_13_code 18 = .ok (.iconst 1, 1) := by decide +kernel
theorem d_RE_isBesideSea_19 : decode prog_4_method_13_code 19 = .ok (.ireturn, 1) := by decide +kernel
theorem d_RE_isBesideSea_20 : decode prog_4_method_13_code 20 = .ok (.iinc 2 1, 3) := by decide +kernel
theorem d_RE_isBesideSea_23 : decode prog_4_method_13_code 23 = .ok (.goto (-21), 3) := by decide +kernel
theorem d_RE_isBesideSea_26 : decode prog_4_method_13_code 26 = .ok (.iconst 0, 1) := by decide +kernel
theorem d_RE_isBesideSea_27 : decode prog_4_method_13_code 27 = .ok (.ireturn, 1) := by decide +kernel
set_option maxHeartbeats 4000000 in
set_option maxRecDepth 100000 in
theorem w_RE_isBesideSea_L2 (y1 : Int32)  (C : Cx prog_4_method_13_code 3 "LakeRelief$Relief" (Option.some Jvm.ClassFile.FieldType.boolean) p s m args meth c) (hG : Geo D adr cA s) (K : Unit → Option (Int32)) {res : Int32} (hq : ∀ (pc : Nat) (ls : Array Slot) (H : Heap) (locs : List Loc), res &&& 1 = res → decode prog_4_method_13_code pc = .ok (.ireturn, 1) → va_P D cls (wld adr cA μ ν) H → va_S (AA adr) s.heap H locs → W p l e rm_RE_isBesideSea s m args below meth c H locs 0 0 Q (F0 m pc ls [.int res])) (hE : ∀ (u : Unit), K u = some res → ∀ (H : Heap) (locs : List Loc) (ls : Array Slot), va_P D cls (wld adr cA μ ν) H → va_S (AA adr) s.heap H locs → lv_has ls 3 [] → W p l e rm_RE_isBesideSea s m args below meth c H locs 0 0 Q (F0 m 26 ls [])) : ∀ (n : Nat) (y2 : Int32), f_RE_isBesideSea_L2 μ y1 K n y2 = some res → ∀ {H : Heap} {locs : List Loc} {ls : Array Slot}, va_P D cls (wld adr cA μ ν) H → va_S (AA adr) s.heap H locs → lv_has ls 3 [(0, .ref (adr 18)), (1, .int y1), (2, .int y2)] → W p l e rm_RE_isBesideSea s m args below meth c H locs 0 0 Q (F0 m 2 ls []) := by
  obtain ⟨hx, hb, hml, hown, hts, hr, hlocks⟩ := id C
  intro n
  induction n with
  | zero => intro y2 hf; rw [f_RE_isBesideSea_L2.eq_1] at hf; cases hf
  | succ n ih =>
    intro y2 hf H locs ls hP hS hl
    rw [f_RE_isBesideSea_L2.eq_2] at hf
    refine lv_iload_n hx hb d_RE_isBesideSea_2 rfl (lv_at hl 2 rfl) ?_
    refine lv_iconst (v := 4) hx hb d_RE_isBesideSea_3 (by decide) ?_
    refine lv_icmp_ge (tgt := 26) hx hb d_RE_isBesideSea_4 (by decide) (fun hc => ?_) (fun hc => ?_)
    · replace hf := if_p hc hf
      exact hE _ hf _ _ _ hP hS (lv_sub hl [] rfl)
    · replace hf := if_n hc hf
      refine lv_aload_n hx hb d_RE_isBesideSea_7 rfl (lv_at hl 0 rfl) ?_
      refine lv_iload_n hx hb d_RE_isBesideSea_8 rfl (lv_at hl 1 rfl) ?_
      refine lv_iload_n hx hb d_RE_isBesideSea_9 rfl (lv_at hl 2 rfl) ?_
      replace hf := B_some hf
      obtain ⟨v1, hv1, hf⟩ := hf
      refine ki (kv (As := [.int y1, .int y2]) (rest := []) ⟨hx, hb, hml, hown, hts⟩ (cw_RE_86 hts ⟨Nat.le_of_ble_eq_true rfl, Nat.le_of_ble_eq_true rfl⟩) (c_RE_beside l D adr cA μ ν y1 y2 hv1) hG hP (rc_o (q := 18) (ci := 2) hG hP (by decide) (wc_C (by decide) rfl) rfl) rfl hl.1 (Nat.le_of_ble_eq_true rfl) d_RE_isBesideSea_10) hS (fun H locs hP hS => ?_)
      refine lv_bipush (v := (-5)) hx hb d_RE_isBesideSea_13 (by decide) ?_
      refine lv_icmp_ne (tgt := 20) hx hb d_RE_isBesideSea_15 (by decide) (fun hc => ?_) (fun hc => ?_)
      · replace hf := if_n hc hf
        refine lv_iinc (v := (y2 + 1)) (lv' := [(2, .int (y2 + 1)), (0, .ref (adr 18)), (1, .int y1)]) hx hb d_RE_isBesideSea_20 hl (k := 2) rfl rfl (by decide) rfl (fun ls hl => ?_)
        refine lv_goto (tgt := 2) hx hb d_RE_isBesideSea_23 (by decide) ?_
        exact ih _ hf hP hS (lv_sub hl [1, 2, 0] rfl)
      · replace hf := if_p hc hf
        refine lv_iconst (v := 1) hx hb d_RE_isBesideSea_18 (by decide) ?_
        obtain rfl := Option.some.inj hf
        exact hq _ _ _ _ (by decide) d_RE_isBesideSea_19 hP hS
set_option maxHeartbeats 4000000 in
set_option maxRecDepth 100000 in
theorem w_RE_isBesideSea (x1 : Int32)  (C : Cx prog_4_method_13_code 3 "LakeRelief$Relief" (Option.some Jvm.ClassFile.FieldType.boolean) p s m args meth c) (hG : Geo D adr cA s) {res : Int32} (hf : f_RE_isBesideSea μ x1 = some res) (hq : ∀ (pc : Nat) (ls : Array Slot) (H : Heap) (locs : List Loc), res &&& 1 = res → decode prog_4_method_13_code pc = .ok (.ireturn, 1) → va_P D cls (wld adr cA μ ν) H → va_S (AA adr) s.heap H locs → W p l e rm_RE_isBesideSea s m args below meth c H locs 0 0 Q (F0 m pc ls [.int res])) {H : Heap} {locs : List Loc} {ls : Array Slot} (hP : va_P D cls (wld adr cA μ ν) H) (hS : va_S (AA adr) s.heap H locs) (hl : lv_has ls 3 [(0, .ref (adr 18)), (1, .int x1)]) : W p l e rm_RE_isBesideSea s m args below meth c H locs 0 0 Q (F0 m 0 ls []) := by
  obtain ⟨hx, hb, hml, hown, hts, hr, hlocks⟩ := id C
  unfold f_RE_isBesideSea at hf
  refine lv_iconst (v := 0) hx hb d_RE_isBesideSea_0 (by decide) ?_
  refine lv_istore_n (lv' := [(2, .int 0), (0, .ref (adr 18)), (1, .int x1)]) hx hb d_RE_isBesideSea_1 rfl hl (by decide) rfl (fun ls hl => ?_)
  refine w_RE_isBesideSea_L2 x1  C hG _ hq ?_ FU _ hf hP hS (lv_sub hl [1, 2, 0] rfl)
  clear hf hP hS hl
  intro u hf H locs ls hP hS hl
  refine lv_iconst (v := 0) hx hb d_RE_isBesideSea_26 (by decide) ?_
  obtain rfl := Option.some.inj hf
  exact hq _ _ _ _ (by decide) d_RE_isBesideSea_27 hP hS
theorem c_RE_isBesideSea (l : Launch) (D : va_G) (adr : Nat → Nat) (cA : Nat → ClassId) (μ ν : Mem) (x1 : Int32)  {res : Int32} (hf : f_RE_isBesideSea μ x1 = some res) : Met l y_RE_isBesideSea (Cond.code y_RE_isBesideSea prog_4_method_13_code 3 (Option.some Jvm.ClassFile.FieldType.boolean) :: lw_ok) rm_RE_isBesideSea (va_Pc [.ref (adr 18), .int x1] (Wd D adr cA μ ν)) (QI D adr cA res μ ν) 0 0 (AA adr) :=
  met_of (own := "LakeRelief$Relief") rfl rfl (Nat.le_of_ble_eq_true rfl) (fun p e s m below meth c C hG hP hS ls hl => w_RE_isBesideSea x1  C hG hf (fun pc ls H locs hz hd hP hS => ret_z C.1 C.2.1 C.2.2.2.2.2.1 C.2.2.2.2.2.2 hG hz hd hP hS) hP hS hl)
end X_RE_isBesideSea
section X_RE_isLower
variable {p : Program} {l : Launch} {e : Env} {s : State} {m : MethodId} {args : Array Value} {below : List Frame} {meth : Method} {c : Code} {Q : State → Prop}
variable {D : va_G} {adr : Nat → Nat} {cA : Nat → ClassId} {μ ν : Mem}
theorem d_RE_isLower_0 : decode prog_4_method_7_code 0 = .ok (.aload_n 0, 1) := by decide +kernel
theorem d_RE_isLower_1 : decode prog_4_method_7_code 1 = .ok (.getfield 9, 3) := by decide +kernel
theorem d_RE_isLower_4 : decode prog_4_method_7_code 4 = .ok (.iload_n 1, 1) := by decide +kernel
theorem d_RE_isLower_5 : decode prog_4_method_7_code 5 = .ok (.iaload, 1) := by decide +kernel
theorem d_RE_isLower_6 : decode prog_4_method_7_code 6 = .ok (.aload_n 0, 1) := by decide +kernel
theorem d_RE_isLower_7 : decode prog_4_method_7_code 7 = .ok (.getfield 9, 3) := by decide +kernel
theorem d_RE_isLower_10 : decode prog_4_method_7_code 10 = .ok (.iload_n 2, 1) := by decide +kernel
theorem d_RE_isLower_11 : decode prog_4_method_7_code 11 = .ok (.iaload, 1) := by decide +kernel
theorem d_RE_isLower_12 : decode prog_4_method_7_code 12 = .ok (.if_icmp .lt 23, 3) := by decide +kernel
theorem d_RE_isLower_15 : decode prog_4_method_7_code 15 = .ok (.aload_n 0, 1) := by decide +kernel
theorem d_RE_isLower_16 : decode prog_4_method_7_code 16 = .ok (.getfield 9, 3) := by decide +kernel
theorem d_RE_isLower_19 : decode prog_4_method_7_code 19 = .ok (.iload_n 1, 1) := by decide +kernel
theorem d_RE_isLower_20 : decode prog_4_method_7_code 20 = .ok (.iaload, 1) := by decide +kernel
theorem d_RE_isLower_21 : decode prog_4_method_7_code 21 = .ok (.aload_n 0, 1) := by decide +kernel
theorem d_RE_isLower_22 : decode prog_4_method_7_code 22 = .ok (.getfield 9, 3) := by decide +kernel
theorem d_RE_isLower_25 : decode prog_4_method_7_code 25 = .ok (.iload_n 2, 1) := by decide +kernel
theorem d_RE_isLower_26 : decode prog_4_method_7_code 26 = .ok (.iaload, 1) := by decide +kernel
theorem d_RE_isLower_27 : decode prog_4_method_7_code 27 = .ok (.if_icmp .ne 12, 3) := by decide +kernel
theorem d_RE_isLower_30 : decode prog_4_method_7_code 30 = .ok (.iload_n 1, 1) := by decide +kernel
theorem d_RE_isLower_31 : decode prog_4_method_7_code 31 = .ok (.iload_n 2, 1) := by decide +kernel
theorem d_RE_isLower_32 : decode prog_4_method_7_code 32 = .ok (.if_icmp .ge 7, 3) := by decide +kernel
theorem d_RE_isLower_35 : decode prog_4_method_7_code 35 = .ok (.iconst 1, 1) := by decide +kernel
theorem d_RE_isLower_36 : decode prog_4_method_7_code 36 = .ok (.goto 4, 3) := by decide +kernel
theorem d_RE_isLower_39 : decode prog_4_method_7_code 39 = .ok (.iconst 0, 1) := by decide +kernel
theorem d_RE_isLower_40 : decode prog_4_method_7_code 40 = .ok (.ireturn, 1) := by decide +kernel
set_option maxHeartbeats 4000000 in
set_option maxRecDepth 100000 in
theorem w_RE_isLower (x1 : Int32) (x2 : Int32)  (C : Cx prog_4_method_7_code 3 "LakeRelief$Relief" (Option.some Jvm.ClassFile.FieldType.boolean) p s m args meth c) (hG : Geo D adr cA s) {res : Int32} (hf : f_RE_isLower μ x1 x2 = some res) (hq : ∀ (pc : Nat) (ls : Array Slot) (H : Heap) (locs : List Loc), res &&& 1 = res → decode prog_4_method_7_code pc = .ok (.ireturn, 1) → va_P D cls (wld adr cA μ ν) H → va_S (AA adr) s.heap H locs → W p l e rm_RE_isLower s m args below meth c H locs 0 0 Q (F0 m pc ls [.int res])) {H : Heap} {locs : List Loc} {ls : Array Slot} (hP : va_P D cls (wld adr cA μ ν) H) (hS : va_S (AA adr) s.heap H locs) (hl : lv_has ls 3 [(0, .ref (adr 18)), (1, .int x1), (2, .int x2)]) : W p l e rm_RE_isLower s m args below meth c H locs 0 0 Q (F0 m 0 ls []) := by
  obtain ⟨hx, hb, hml, hown, hts, hr, hlocks⟩ := id C
  unfold f_RE_isLower at hf
  refine lv_aload_n hx hb d_RE_isLower_0 rfl (lv_at hl 0 rfl) ?_
  refine g_RE_height hx hb hts hown hG hP (hts _ in_44) d_RE_isLower_1 ?_
  refine lv_iload_n hx hb d_RE_isLower_4 rfl (lv_at hl 1 rfl) ?_
  replace hf := G_some hf
  obtain ⟨hi1, hf⟩ := hf
  refine r_iald hx hb hG hP 19 64 (f := μ.1 19) (by decide) (wc_C (by decide) rfl) hi1 d_RE_isLower_5 ?_
  refine lv_aload_n hx hb d_RE_isLower_6 rfl (lv_at hl 0 rfl) ?_
  refine g_RE_height hx hb hts hown hG hP (hts _ in_44) d_RE_isLower_7 ?_
  refine lv_iload_n hx hb d_RE_isLower_10 rfl (lv_at hl 2 rfl) ?_
  replace hf := G_some hf
  obtain ⟨hi2, hf⟩ := hf
  refine r_iald hx hb hG hP 19 64 (f := μ.1 19) (by decide) (wc_C (by decide) rfl) hi2 d_RE_isLower_11 ?_
  refine lv_icmp_lt (tgt := 35) hx hb d_RE_isLower_12 (by decide) (fun hc => ?_) (fun hc => ?_)
  · replace hf := if_p hc hf
    refine lv_iconst (v := 1) hx hb d_RE_isLower_35 (by decide) ?_
    refine lv_goto (tgt := 40) hx hb d_RE_isLower_36 (by decide) ?_
    obtain rfl := Option.some.inj hf
    exact hq _ _ _ _ (by decide) d_RE_isLower_40 hP hS
  · replace hf := if_n hc hf
    refine lv_aload_n hx hb d_RE_isLower_15 rfl (lv_at hl 0 rfl) ?_
    refine g_RE_height hx hb hts hown hG hP (hts _ in_44) d_RE_isLower_16 ?_
    refine lv_iload_n hx hb d_RE_isLower_19 rfl (lv_at hl 1 rfl) ?_
    replace hf := G_some hf
    obtain ⟨hi3, hf⟩ := hf
    refine r_iald hx hb hG hP 19 64 (f := μ.1 19) (by decide) (wc_C (by decide) rfl) hi3 d_RE_isLower_20 ?_
    refine lv_aload_n hx hb d_RE_isLower_21 rfl (lv_at hl 0 rfl) ?_
    refine g_RE_height hx hb hts hown hG hP (hts _ in_44) d_RE_isLower_22 ?_
    refine lv_iload_n hx hb d_RE_isLower_25 rfl (lv_at hl 2 rfl) ?_
    replace hf := G_some hf
    obtain ⟨hi4, hf⟩ := hf
    refine r_iald hx hb hG hP 19 64 (f := μ.1 19) (by decide) (wc_C (by decide) rfl) hi4 d_RE_isLower_26 ?_
    refine lv_icmp_ne (tgt := 39) hx hb d_RE_isLower_27 (by decide) (fun hc => ?_) (fun hc => ?_)
    · replace hf := if_n hc hf
      refine lv_iconst (v := 0) hx hb d_RE_isLower_39 (by decide) ?_
      obtain rfl := Option.some.inj hf
      exact hq _ _ _ _ (by decide) d_RE_isLower_40 hP hS
    · replace hf := if_p hc hf
      refine lv_iload_n hx hb d_RE_isLower_30 rfl (lv_at hl 1 rfl) ?_
      refine lv_iload_n hx hb d_RE_isLower_31 rfl (lv_at hl 2 rfl) ?_
      refine lv_icmp_ge (tgt := 39) hx hb d_RE_isLower_32 (by decide) (fun hc => ?_) (fun hc => ?_)
      · replace hf := if_p hc hf
        refine lv_iconst (v := 0) hx hb d_RE_isLower_39 (by decide) ?_
        obtain rfl := Option.some.inj hf
        exact hq _ _ _ _ (by decide) d_RE_isLower_40 hP hS
      · replace hf := if_n hc hf
        refine lv_iconst (v := 1) hx hb d_RE_isLower_35 (by decide) ?_
        refine lv_goto (tgt := 40) hx hb d_RE_isLower_36 (by decide) ?_
        obtain rfl := Option.some.inj hf
        exact hq _ _ _ _ (by decide) d_RE_isLower_40 hP hS
theorem c_RE_isLower (l : Launch) (D : va_G) (adr : Nat → Nat) (cA : Nat → ClassId) (μ ν : Mem) (x1 : Int32) (x2 : Int32)  {res : Int32} (hf : f_RE_isLower μ x1 x2 = some res) : Met l y_RE_isLower (Cond.code y_RE_isLower prog_4_method_7_code 3 (Option.some Jvm.ClassFile.FieldType.boolean) :: lw_ok) rm_RE_isLower (va_Pc [.ref (adr 18), .int x1, .int x2] (Wd D adr cA μ ν)) (QI D adr cA res μ ν) 0 0 (AA adr) :=
  met_of (own := "LakeRelief$Relief") rfl rfl (Nat.le_of_ble_eq_true rfl) (fun p e s m below meth c C hG hP hS ls hl => w_RE_isLower x1 x2  C hG hf (fun pc ls H locs hz hd hP hS => ret_z C.1 C.2.1 C.2.2.2.2.2.1 C.2.2.2.2.2.2 hG hz hd hP hS) hP hS hl)
end X_RE_isLower
section X_RE_lowestBeside
variable {p : Program} {l : Launch} {e : Env} {s : State} {m : MethodId} {args : Array Value} {below : List Frame} {meth : Method} {c : Code} {Q : State → Prop}
variable {D : va_G} {adr : Nat → Nat} {cA : Nat → ClassId} {μ ν : Mem}
theorem d_RE_lowestBeside_0 : decode prog_4_method_14_code 0 = .ok (.bipush (-3), 2) := by decide +kernel
theorem d_RE_lowestBeside_2 : decode prog_4_method_14_code 2 = .ok (.istore 4, 2) := by decide +kernel
theorem d_RE_lowestBeside_4 : decode prog_4_method_14_code 4 = .ok (.iconst 0, 1) := by decide +kernel
theorem d_RE_lowestBeside_5 : decode prog_4_method_14_code 5 = .ok (.istore 5, 2) := by decide +kernel
theorem d_RE_lowestBeside_7 : decode prog_4_method_14_code 7 = .ok (.iload 5, 2) := by decide +kernel
theorem d_RE_lowestBeside_9 : decode prog_4_method_14_code 9 = .ok (.iconst 4, 1) := by decide +kernel
theorem d_RE_lowestBeside_10 : decode prog_4_method_14_code 10 = .ok (.if_icmp .ge 56, 3) := by decide +kernel
theorem d_RE_lowestBeside_13 : decode prog_4_method_14_code 13 = .ok (.aload_n 0, 1) := by decide +kernel
theorem d_RE_lowestBeside_14 : decode prog_4_method_14_code 14 = .ok (.iload_n 1, 1) := by decide +kernel
theorem d_RE_lowestBeside_15 : decode prog_4_method_14_code 15 = .ok (.iload 5, 2) := by decide +kernel
theorem d_RE_lowestBeside_17 : decode prog_4_method_14_code 17 = .ok (.invokevirtual 86, 3) := by decide +kernel
theorem d_RE_lowestBeside_20 : decode prog_4_method_14_code 20 = .ok (.istore 6, 2) := by decide +kernel
theorem d_RE_lowestBeside_22 : decode prog_4_method_14_code 22 = .ok (.iload 6, 2) := by decide +kernel
theorem d_RE_lowestBeside_24 : decode prog_4_method_14_code 24 = .ok (.bipush (-5), 2) := by decide +kernel
theorem d_RE_lowestBeside_26 : decode prog_4_method_14_code 26 = .ok (.if_icmp .eq 34, 3) := by decide +kernel
theorem d_RE_lowestBeside_29 : decode prog_4_method_14_code 29 = .ok (.lload_n 2, 1) := by decide +kernel
theorem d_RE_lowestBeside_30 : decode prog_4_method_14_code 30 = .ok (.iload 6, 2) := by decide +kernel
theorem d_RE_lowestBeside_32 : decode prog_4_method_14_code 32 = .ok (.invokestatic 67, 3) := by decide +kernel
theorem d_RE_lowestBeside_35 : decode prog_4_method_14_code 35 = .ok (.ifCond .eq 25, 3) := by decide +kernel
theorem d_RE_lowestBeside_38 : decode prog_4_method_14_code 38 = .ok (.iload 4, 2) := by decide +kernel
theorem d_RE_lowestBeside_40 : decode prog_4_method_14_code 40 = .ok (.bipush (-3), 2) := by decide +kernel
theorem d_RE_lowestBeside_42 : decode prog_4_method_14_code 42 = .ok (.if_icmp .eq 14, 3) := by decide +kernel
theorem d_RE_lowestBeside_45 : decode prog_4_method_14_code 45 = .ok (.aload_n 0, 1) := by decide +kernel
theorem d_RE_lowestBeside_46 : decode prog_4_method_14_code 46 = .ok (.iload 6, 2) := by decide +kernel
theorem d_RE_lowestBeside_48 : decode prog_4_method_14_code 48 = .ok (.iload 4, 2) := by decide +kernel
theorem d_RE_lowestBeside_50 : decode prog_4_method_14_code 50 = .ok (.invokevirtual 82, 3) := by decide +kernel
theorem d_RE_lowestBeside_53 : decode prog_4_method_14_code 53 = .ok (.ifCond .eq 7, 3) := by decide +kernel
theorem d_RE_lowestBeside_56 : decode prog_4_method_14_code 56 = .ok (.iload 6, 2) := by decide +kernel
theorem d_RE_lowestBeside_58 : decode prog_4_method_14_code 58 = .ok (.istore 4, 2) := by decide +kernel
theorem d_RE_lowestBeside_60 : decode prog_4_method_14_code 60 = .ok (.iinc 5 1, 3) := by decide +kernel
theorem d_RE_lowestBeside_63 : decode prog_4_method_14_code 63 = .ok (.goto (-56), 3) := by decide +kernel
theorem d_RE_lowestBeside_66 : decode prog_4_method_14_code 66 = .ok (.iload 4, 2) := by decide +kernel
theorem d_RE_lowestBeside_68 : decode prog_4_method_14_code 68 = .ok (.ireturn, 1) := by decide +kernel
set_option maxHeartbeats 4000000 in
set_option maxRecDepth 100000 in
theorem w_RE_lowestBeside_L7 (y1 : Int32) (y2 : Int64)  (C : Cx prog_4_method_14_code 7 "LakeRelief$Relief" (Option.some Jvm.ClassFile.FieldType.int) p s m args meth c) (hG : Geo D adr cA s) (v : Int32) (hE : ∀ (H : Heap) (locs : List Loc) (ls : Array Slot), va_P D cls (wld adr cA μ ν) H → va_S (AA adr) s.heap H locs → lv_has ls 7 [(4, .int v)] → W p l e rm_RE_lowestBeside s m args below meth c H locs 0 0 Q (F0 m 66 ls [])) : ∀ (n : Nat) (y4 : Int32) (y5 : Int32), f_RE_lowestBeside_L7 μ y1 y2 n y4 y5 = some v → ∀ {H : Heap} {locs : List Loc} {ls : Array Slot}, va_P D cls (wld adr cA μ ν) H → va_S (AA adr) s.heap H locs → lv_has ls 7 [(0, .ref (adr 18)), (1, .int y1), (2, .long y2), (4, .int y4), (5, .int y5)] → W p l e rm_RE_lowestBeside s m args below meth c H locs 0 0 Q (F0 m 7 ls []) := by
  obtain ⟨hx, hb, hml, hown, hts, hr, hlocks⟩ := id C
  intro n
  induction n with
  | zero => intro y4 y5 hf; rw [f_RE_lowestBeside_L7.eq_1] at hf; cases hf
  | succ n ih =>
    intro y4 y5 hf H locs ls hP hS hl
    rw [f_RE_lowestBeside_L7.eq_2] at hf
    refine lv_iload hx hb d_RE_lowestBeside_7 (lv_at hl 4 rfl) ?_
    refine lv_iconst (v := 4) hx hb d_RE_lowestBeside_9 (by decide) ?_
    refine lv_icmp_ge (tgt := 66) hx hb d_RE_lowestBeside_10 (by decide) (fun hc => ?_) (fun hc => ?_)
    · replace hf := if_p hc hf
      obtain rfl := Option.some.inj hf
      exact hE _ _ _ hP hS (lv_sub hl [3] rfl)
    · replace hf := if_n hc hf
      refine lv_aload_n hx hb d_RE_lowestBeside_13 rfl (lv_at hl 0 rfl) ?_
      refine lv_iload_n hx hb d_RE_lowestBeside_14 rfl (lv_at hl 1 rfl) ?_
      refine lv_iload hx hb d_RE_lowestBeside_15 (lv_at hl 4 rfl) ?_
      replace hf := B_some hf
      obtain ⟨v1, hv1, hf⟩ := hf
      refine ki (kv (As := [.int y1, .int y5]) (rest := []) ⟨hx, hb, hml, hown, hts⟩ (cw_RE_86 hts ⟨Nat.le_of_ble_eq_true rfl, Nat.le_of_ble_eq_true rfl⟩) (c_RE_beside l D adr cA μ ν y1 y5 hv1) hG hP (rc_o (q := 18) (ci := 2) hG hP (by decide) (wc_C (by decide) rfl) rfl) rfl hl.1 (Nat.le_of_ble_eq_true rfl) d_RE_lowestBeside_17) hS (fun H locs hP hS => ?_)
      refine lv_istore (lv' := [(6, .int v1), (0, .ref (adr 18)), (1, .int y1), (2, .long y2), (4, .int y4), (5, .int y5)]) hx hb d_RE_lowestBeside_20 hl (by decide) rfl (fun ls hl => ?_)
      refine lv_iload hx hb d_RE_lowestBeside_22 (lv_at hl 0 rfl) ?_
      refine lv_bipush (v := (-5)) hx hb d_RE_lowestBeside_24 (by decide) ?_
      replace hf := B_some hf
      obtain ⟨v2, hv2, hf⟩ := hf
      have hJ : ∀ (H : Heap) (locs : List Loc) (ls : Array Slot), va_P D cls (wld adr cA μ ν) H → va_S (AA adr) s.heap H locs → lv_has ls 7 [(0, .ref (adr 18)), (1, .int y1), (2, .long y2), (4, .int v2), (5, .int y5)] → W p l e rm_RE_lowestBeside s m args below meth c H locs 0 0 Q (F0 m 60 ls []) := by
        clear hv2
        intro H locs ls hP hS hl
        refine lv_iinc (v := (y5 + 1)) (lv' := [(5, .int (y5 + 1)), (0, .ref (adr 18)), (1, .int y1), (2, .long y2), (4, .int v2)]) hx hb d_RE_lowestBeside_60 hl (k := 4) rfl rfl (by decide) rfl (fun ls hl => ?_)
        refine lv_goto (tgt := 7) hx hb d_RE_lowestBeside_63 (by decide) ?_
        exact ih _ _ hf hP hS (lv_sub hl [1, 2, 3, 4, 0] rfl)
      clear hf
      have hf := hv2
      clear hv2
      refine lv_icmp_eq (tgt := 60) hx hb d_RE_lowestBeside_26 (by decide) (fun hc => ?_) (fun hc => ?_)
      · replace hf := if_p hc hf
        obtain rfl := Option.some.inj hf
        exact hJ _ _ _ hP hS (lv_sub hl [1, 2, 3, 4, 5] rfl)
      · replace hf := if_n hc hf
        refine lv_lload_n hx hb d_RE_lowestBeside_29 rfl (lv_at hl 3 rfl) ?_
        refine lv_iload hx hb d_RE_lowestBeside_30 (lv_at hl 0 rfl) ?_
        refine ki (kn (As := [.long y2, .int v1]) (rest := []) ⟨hx, hb, hml, hown, hts⟩ (cw_RE_67 hts hG ⟨Nat.le_of_ble_eq_true rfl, Nat.le_of_ble_eq_true rfl⟩) (c_LR_isIn l D adr cA μ ν y2 v1) hG hP rfl hl.1 (Nat.le_of_ble_eq_true rfl) d_RE_lowestBeside_32) hS (fun H locs hP hS => ?_)
        refine lv_if_eq (tgt := 60) hx hb d_RE_lowestBeside_35 (by decide) (fun hc => ?_) (fun hc => ?_)
        · replace hf := if_p hc hf
          obtain rfl := Option.some.inj hf
          exact hJ _ _ _ hP hS (lv_sub hl [1, 2, 3, 4, 5] rfl)
        · replace hf := if_n hc hf
          refine lv_iload hx hb d_RE_lowestBeside_38 (lv_at hl 4 rfl) ?_
          refine lv_bipush (v := (-3)) hx hb d_RE_lowestBeside_40 (by decide) ?_
          refine lv_icmp_eq (tgt := 56) hx hb d_RE_lowestBeside_42 (by decide) (fun hc => ?_) (fun hc => ?_)
          · replace hf := if_p hc hf
            refine lv_iload hx hb d_RE_lowestBeside_56 (lv_at hl 0 rfl) ?_
            refine lv_istore (lv' := [(4, .int v1), (6, .int v1), (0, .ref (adr 18)), (1, .int y1), (2, .long y2), (5, .int y5)]) hx hb d_RE_lowestBeside_58 hl (by decide) rfl (fun ls hl => ?_)
            obtain rfl := Option.some.inj hf
            exact hJ _ _ _ hP hS (lv_sub hl [2, 3, 4, 0, 5] rfl)
          · replace hf := if_n hc hf
            refine lv_aload_n hx hb d_RE_lowestBeside_45 rfl (lv_at hl 1 rfl) ?_
            refine lv_iload hx hb d_RE_lowestBeside_46 (lv_at hl 0 rfl) ?_
            refine lv_iload hx hb d_RE_lowestBeside_48 (lv_at hl 4 rfl) ?_
            replace hf := B_some hf
            obtain ⟨v3, hv3, hf⟩ := hf
            refine ki (kv (As := [.int v1, .int y4]) (rest := []) ⟨hx, hb, hml, hown, hts⟩ (cw_RE_82 hts ⟨Nat.le_of_ble_eq_true rfl, Nat.le_of_ble_eq_true rfl⟩) (c_RE_isLower l D adr cA μ ν v1 y4 hv3) hG hP (rc_o (q := 18) (ci := 2) hG hP (by decide) (wc_C (by decide) rfl) rfl) rfl hl.1 (Nat.le_of_ble_eq_true rfl) d_RE_lowestBeside_50) hS (fun H locs hP hS => ?_)
            refine lv_if_eq (tgt := 60) hx hb d_RE_lowestBeside_53 (by decide) (fun hc => ?_) (fun hc => ?_)
            · replace hf := if_p hc hf
              obtain rfl := Option.some.inj hf
              exact hJ _ _ _ hP hS (lv_sub hl [1, 2, 3, 4, 5] rfl)
            · replace hf := if_n hc hf
              refine lv_iload hx hb d_RE_lowestBeside_56 (lv_at hl 0 rfl) ?_
              refine lv_istore (lv' := [(4, .int v1), (6, .int v1), (0, .ref (adr 18)), (1, .int y1), (2, .long y2), (5, .int y5)]) hx hb d_RE_lowestBeside_58 hl (by decide) rfl (fun ls hl => ?_)
              obtain rfl := Option.some.inj hf
              exact hJ _ _ _ hP hS (lv_sub hl [2, 3, 4, 0, 5] rfl)
set_option maxHeartbeats 4000000 in
set_option maxRecDepth 100000 in
theorem w_RE_lowestBeside (x1 : Int32) (x2 : Int64)  (C : Cx prog_4_method_14_code 7 "LakeRelief$Relief" (Option.some Jvm.ClassFile.FieldType.int) p s m args meth c) (hG : Geo D adr cA s) {res : Int32} (hf : f_RE_lowestBeside μ x1 x2 = some res) (hq : ∀ (pc : Nat) (ls : Array Slot) (H : Heap) (locs : List Loc), decode prog_4_method_14_code pc = .ok (.ireturn, 1) → va_P D cls (wld adr cA μ ν) H → va_S (AA adr) s.heap H locs → W p l e rm_RE_lowestBeside s m args below meth c H locs 0 0 Q (F0 m pc ls [.int res])) {H : Heap} {locs : List Loc} {ls : Array Slot} (hP : va_P D cls (wld adr cA μ ν) H) (hS : va_S (AA adr) s.heap H locs) (hl : lv_has ls 7 [(0, .ref (adr 18)), (1, .int x1), (2, .long x2)]) : W p l e rm_RE_lowestBeside s m args below meth c H locs 0 0 Q (F0 m 0 ls []) := by
  obtain ⟨hx, hb, hml, hown, hts, hr, hlocks⟩ := id C
  unfold f_RE_lowestBeside at hf
  refine lv_bipush (v := (-3)) hx hb d_RE_lowestBeside_0 (by decide) ?_
  refine lv_istore (lv' := [(4, .int (-3)), (0, .ref (adr 18)), (1, .int x1), (2, .long x2)]) hx hb d_RE_lowestBeside_2 hl (by decide) rfl (fun ls hl => ?_)
  refine lv_iconst (v := 0) hx hb d_RE_lowestBeside_4 (by decide) ?_
  refine lv_istore (lv' := [(5, .int 0), (4, .int (-3)), (0, .ref (adr 18)), (1, .int x1), (2, .long x2)]) hx hb d_RE_lowestBeside_5 hl (by decide) rfl (fun ls hl => ?_)
  replace hf := B_some hf
  obtain ⟨v4, hv4, hf⟩ := hf
  refine w_RE_lowestBeside_L7 x1 x2  C hG v4 ?_ FU _ _ hv4 hP hS (lv_sub hl [2, 3, 4, 1, 0] rfl)
  clear hv4 hP hS hl
  intro H locs ls hP hS hl
  refine lv_iload hx hb d_RE_lowestBeside_66 (lv_at hl 0 rfl) ?_
  obtain rfl := Option.some.inj hf
  exact hq _ _ _ _ d_RE_lowestBeside_68 hP hS
theorem c_RE_lowestBeside (l : Launch) (D : va_G) (adr : Nat → Nat) (cA : Nat → ClassId) (μ ν : Mem) (x1 : Int32) (x2 : Int64)  {res : Int32} (hf : f_RE_lowestBeside μ x1 x2 = some res) : Met l y_RE_lowestBeside (Cond.code y_RE_lowestBeside prog_4_method_14_code 7 (Option.some Jvm.ClassFile.FieldType.int) :: lw_ok) rm_RE_lowestBeside (va_Pc [.ref (adr 18), .int x1, .long x2] (Wd D adr cA μ ν)) (QI D adr cA res μ ν) 0 0 (AA adr) :=
  met_of (own := "LakeRelief$Relief") rfl rfl (Nat.le_of_ble_eq_true rfl) (fun p e s m below meth c C hG hP hS ls hl => w_RE_lowestBeside x1 x2  C hG hf (fun pc ls H locs hd hP hS => ret_i C.1 C.2.1 C.2.2.2.2.2.1 C.2.2.2.2.2.2 hG hd hP hS) hP hS hl)
end X_RE_lowestBeside
section X_LK_isBesideSeas
variable {p : Program} {l : Launch} {e : Env} {s : State} {m : MethodId} {args : Array Value} {below : List Frame} {meth : Method} {c : Code} {Q : State → Prop}
variable {D : va_G} {adr : Nat → Nat} {cA : Nat → ClassId} {μ ν : Mem}
theorem d_LK_isBesideSeas_0 : decode prog_3_method_7_code 0 = .ok (.aload_n 0, 1) := by decide +kernel
theorem d_LK_isBesideSeas_1 : decode prog_3_method_7_code 1 = .ok (.getfield 9, 3) := by decide +kernel
theorem d_LK_isBesideSeas_4 : decode prog_3_method_7_code 4 = .ok (.iload_n 1, 1) := by decide +kernel
theorem d_LK_isBesideSeas_5 : decode prog_3_method_7_code 5 = .ok (.invokevirtual 105, 3) := by decide +kernel
theorem d_LK_isBesideSeas_8 : decode prog_3_method_7_code 8 = .ok (.ifCond .ne 20, 3) := by decide +kernel
theorem d_LK_isBesideSeas_11 : decode prog_3_method_7_code 11 = .ok (.aload_n 0, 1) := by decide +kernel
theorem d_LK_isBesideSeas_12 : decode prog_3_method_7_code 12 = .ok (.getfield 9, 3) := by decide +kernel
theorem d_LK_isBesideSeas_15 : decode prog_3_method_7_code 15 = .ok (.iload_n 1, 1) := by decide +kernel
theorem d_LK_isBesideSeas_16 : decode prog_3_method_7_code 16 = .ok (.aload_n 0, 1) := by decide +kernel
theorem d_LK_isBesideSeas_17 : decode prog_3_method_7_code 17 = .ok (.getfield 33, 3) := by decide +kernel
theorem d_LK_isBesideSeas_20 : decode prog_3_method_7_code 20 = .ok (.invokevirtual 108, 3) := by decide +kernel
theorem d_LK_isBesideSeas_23 : decode prog_3_method_7_code 23 = .ok (.bipush (-3), 2) := by decide +kernel
theorem d_LK_isBesideSeas_25 : decode prog_3_method_7_code 25 = .ok (.if_icmp .eq 7, 3) := by decide +kernel
theorem d_LK_isBesideSeas_28 : decode prog_3_method_7_code 28 = .ok (.iconst 1, 1) := by decide +kernel
theorem d_LK_isBesideSeas_29 : decode prog_3_method_7_code 29 = .ok (.goto 4, 3) := by decide +kernel
theorem d_LK_isBesideSeas_32 : decode prog_3_method_7_code 32 = .ok (.iconst 0, 1) := by decide +kernel
theorem d_LK_isBesideSeas_33 : decode prog_3_method_7_code 33 = .ok (.ireturn, 1) := by decide +kernel
set_option maxHeartbeats 4000000 in
set_option maxRecDepth 100000 in
theorem w_LK_isBesideSeas (x1 : Int32)  (C : Cx prog_3_method_7_code 2 "LakeRelief$Lakes" (Option.some Jvm.ClassFile.FieldType.boolean) p s m args meth c) (hG : Geo D adr cA s) {res : Int32} (hf : f_LK_isBesideSeas μ x1 = some res) (hq : ∀ (pc : Nat) (ls : Array Slot) (H : Heap) (locs : List Loc), res &&& 1 = res → decode prog_3_method_7_code pc = .ok (.ireturn, 1) → va_P D cls (wld adr cA μ ν) H → va_S (AA adr) s.heap H locs → W p l e rm_LK_isBesideSeas s m args below meth c H locs 0 0 Q (F0 m pc ls [.int res])) {H : Heap} {locs : List Loc} {ls : Array Slot} (hP : va_P D cls (wld adr cA μ ν) H) (hS : va_S (AA adr) s.heap H locs) (hl : lv_has ls 2 [(0, .ref (adr 26)), (1, .int x1)]) : W p l e rm_LK_isBesideSeas s m args below meth c H locs 0 0 Q (F0 m 0 ls []) := by
  obtain ⟨hx, hb, hml, hown, hts, hr, hlocks⟩ := id C
  unfold f_LK_isBesideSeas at hf
  refine lv_aload_n hx hb d_LK_isBesideSeas_0 rfl (lv_at hl 0 rfl) ?_
  refine g_LK_relief hx hb hts hown hG hP (hts _ in_160) d_LK_isBesideSeas_1 ?_
  refine lv_iload_n hx hb d_LK_isBesideSeas_4 rfl (lv_at hl 1 rfl) ?_
  replace hf := B_some hf
  obtain ⟨v1, hv1, hf⟩ := hf
  refine ki (kv (As := [.int x1]) (rest := []) ⟨hx, hb, hml, hown, hts⟩ (cw_LK_105 hts ⟨Nat.le_of_ble_eq_true rfl, Nat.le_of_ble_eq_true rfl⟩) (c_RE_isBesideSea l D adr cA μ ν x1 hv1) hG hP (rc_o (q := 18) (ci := 2) hG hP (by decide) (wc_C (by decide) rfl) rfl) rfl hl.1 (Nat.le_of_ble_eq_true rfl) d_LK_isBesideSeas_5) hS (fun H locs hP hS => ?_)
  refine lv_if_ne (tgt := 28) hx hb d_LK_isBesideSeas_8 (by decide) (fun hc => ?_) (fun hc => ?_)
  · replace hf := if_n hc hf
    refine lv_iconst (v := 1) hx hb d_LK_isBesideSeas_28 (by decide) ?_
    refine lv_goto (tgt := 33) hx hb d_LK_isBesideSeas_29 (by decide) ?_
    obtain rfl := Option.some.inj hf
    exact hq _ _ _ _ (by decide) d_LK_isBesideSeas_33 hP hS
  · replace hf := if_p hc hf
    refine lv_aload_n hx hb d_LK_isBesideSeas_11 rfl (lv_at hl 0 rfl) ?_
    refine g_LK_relief hx hb hts hown hG hP (hts _ in_160) d_LK_isBesideSeas_12 ?_
    refine lv_iload_n hx hb d_LK_isBesideSeas_15 rfl (lv_at hl 1 rfl) ?_
    refine lv_aload_n hx hb d_LK_isBesideSeas_16 rfl (lv_at hl 0 rfl) ?_
    refine g_LK_seas hx hb hts hown hG hP (hts _ in_161) d_LK_isBesideSeas_17 ?_
    replace hf := B_some hf
    obtain ⟨v2, hv2, hf⟩ := hf
    refine ki (kv (As := [.int x1, .long (μ.2 26 5)]) (rest := []) ⟨hx, hb, hml, hown, hts⟩ (cw_LK_108 hts ⟨Nat.le_of_ble_eq_true rfl, Nat.le_of_ble_eq_true rfl⟩) (c_RE_lowestBeside l D adr cA μ ν x1 (μ.2 26 5) hv2) hG hP (rc_o (q := 18) (ci := 2) hG hP (by decide) (wc_C (by decide) rfl) rfl) rfl hl.1 (Nat.le_of_ble_eq_true rfl) d_LK_isBesideSeas_20) hS (fun H locs hP hS => ?_)
    refine lv_bipush (v := (-3)) hx hb d_LK_isBesideSeas_23 (by decide) ?_
    refine lv_icmp_eq (tgt := 32) hx hb d_LK_isBesideSeas_25 (by decide) (fun hc => ?_) (fun hc => ?_)
    · replace hf := if_p hc hf
      refine lv_iconst (v := 0) hx hb d_LK_isBesideSeas_32 (by decide) ?_
      obtain rfl := Option.some.inj hf
      exact hq _ _ _ _ (by decide) d_LK_isBesideSeas_33 hP hS
    · replace hf := if_n hc hf
      refine lv_iconst (v := 1) hx hb d_LK_isBesideSeas_28 (by decide) ?_
      refine lv_goto (tgt := 33) hx hb d_LK_isBesideSeas_29 (by decide) ?_
      obtain rfl := Option.some.inj hf
      exact hq _ _ _ _ (by decide) d_LK_isBesideSeas_33 hP hS
theorem c_LK_isBesideSeas (l : Launch) (D : va_G) (adr : Nat → Nat) (cA : Nat → ClassId) (μ ν : Mem) (x1 : Int32)  {res : Int32} (hf : f_LK_isBesideSeas μ x1 = some res) : Met l y_LK_isBesideSeas (Cond.code y_LK_isBesideSeas prog_3_method_7_code 2 (Option.some Jvm.ClassFile.FieldType.boolean) :: lw_ok) rm_LK_isBesideSeas (va_Pc [.ref (adr 26), .int x1] (Wd D adr cA μ ν)) (QI D adr cA res μ ν) 0 0 (AA adr) :=
  met_of (own := "LakeRelief$Lakes") rfl rfl (Nat.le_of_ble_eq_true rfl) (fun p e s m below meth c C hG hP hS ls hl => w_LK_isBesideSeas x1  C hG hf (fun pc ls H locs hz hd hP hS => ret_z C.1 C.2.1 C.2.2.2.2.2.1 C.2.2.2.2.2.2 hG hz hd hP hS) hP hS hl)
end X_LK_isBesideSeas
