section X_LK_numberThere
variable {p : Program} {l : Launch} {e : Env} {s : State} {m : MethodId} {args : Array Value} {below : List Frame} {meth : Method} {c : Code} {Q : State → Prop}
variable {D : va_G} {adr : Nat → Nat} {cA : Nat → ClassId} {μ ν : Mem}
theorem d_LK_numberThere_0 : decode prog_3_method_15_code 0 = .ok (.iconst 0, 1) := by decide +kernel
theorem d_LK_numberThere_1 : decode prog_3_method_15_code 1 = .ok (.istore_n 1, 1) := by decide +kernel
theorem d_LK_numberThere_2 : decode prog_3_method_15_code 2 = .ok (.iconst 0, 1) := by decide +kernel
theorem d_LK_numberThere_3 : decode prog_3_method_15_code 3 = .ok (.istore_n 2, 1) := by decide +kernel
theorem d_LK_numberThere_4 : decode prog_3_method_15_code 4 = .ok (.iload_n 2, 1) := by decide +kernel
theorem d_LK_numberThere_5 : decode prog_3_method_15_code 5 = .ok (.aload_n 0, 1) := by decide +kernel
theorem d_LK_numberThere_6 : decode prog_3_method_15_code 6 = .ok (.getfield 22, 3) := by decide +kernel
theorem d_LK_numberThere_9 : decode prog_3_method_15_code 9 = .ok (.if_icmp .ge 24, 3) := by decide +kernel
theorem d_LK_numberThere_12 : decode prog_3_method_15_code 12 = .ok (.aload_n 0, 1) := by decide +kernel
theorem d_LK_numberThere_13 : decode prog_3_method_15_code 13 = .ok (.getfield 17, 3) := by decide +kernel
theorem d_LK_numberThere_16 : decode prog_3_method_15_code 16 = .ok (.iload_n 2, 1) := by decide +kernel
theorem d_LK_numberThere_17 : decode prog_3_method_15_code 17 = .ok (.aaload, 1) := by decide +kernel
theorem d_LK_numberThere_18 : decode prog_3_method_15_code 18 = .ok (.getfield 139, 3) := by decide +kernel
theorem d_LK_numberThere_21 : decode prog_3_method_15_code 21 = .ok (.ifCond .eq 6, 3) := by decide +kernel
theorem d_LK_numberThere_24 : decode prog_3_method_15_code 24 = .ok (.iinc 1 1, 3) := by decide +kernel
theorem d_LK_numberThere_27 : decode prog_3_method_15_code 27 = .ok (.iinc 2 1, 3) := by decide +kernel
theorem d_LK_numberThere_30 : decode prog_3_method_15_code 30 = .ok (.goto (-26), 3) := by decide +kernel
theorem d_LK_numberThere_33 : decode prog_3_method_15_code 33 = .ok (.iload_n 1, 1) := by decide +kernel
theorem d_LK_numberThere_34 : decode prog_3_method_15_code 34 = .ok (.ireturn, 1) := by decide +kernel
set_option maxHeartbeats 4000000 in
set_option maxRecDepth 100000 in
theorem w_LK_numberThere_L4   (C : Cx prog_3_method_15_code 3 "LakeRelief$Lakes" (Option.some Jvm.ClassFile.FieldType.int) p s m args meth c) (hG : Geo D adr cA s) (v : Int32) (hE : ∀ (H : Heap) (locs : List Loc) (ls : Array Slot), va_P D cls (wld adr cA μ ν) H → va_S (AA adr) s.heap H locs → lv_has ls 3 [(1, .int v)] → W p l e rm_LK_numberThere s m args below meth c H locs 0 0 Q (F0 m 33 ls [])) : ∀ (n : Nat) (y1 : Int32) (y2 : Int32), f_LK_numberThere_L4 μ n y1 y2 = some v → ∀ {H : Heap} {locs : List Loc} {ls : Array Slot}, va_P D cls (wld adr cA μ ν) H → va_S (AA adr) s.heap H locs → lv_has ls 3 [(0, .ref (adr 26)), (1, .int y1), (2, .int y2)] → W p l e rm_LK_numberThere s m args below meth c H locs 0 0 Q (F0 m 4 ls []) := by
  obtain ⟨hx, hb, hml, hown, hts, hr, hlocks⟩ := id C
  intro n
  induction n with
  | zero => intro y1 y2 hf; rw [f_LK_numberThere_L4.eq_1] at hf; cases hf
  | succ n ih =>
    intro y1 y2 hf H locs ls hP hS hl
    rw [f_LK_numberThere_L4.eq_2] at hf
    refine lv_iload_n hx hb d_LK_numberThere_4 rfl (lv_at hl 2 rfl) ?_
    refine lv_aload_n hx hb d_LK_numberThere_5 rfl (lv_at hl 0 rfl) ?_
    refine g_LK_number hx hb hts hown hG hP (hts _ in_154) d_LK_numberThere_6 ?_
    refine lv_icmp_ge (tgt := 33) hx hb d_LK_numberThere_9 (by decide) (fun hc => ?_) (fun hc => ?_)
    · replace hf := if_p hc hf
      obtain rfl := Option.some.inj hf
      exact hE _ _ _ hP hS (lv_sub hl [1] rfl)
    · replace hf := if_n hc hf
      refine lv_aload_n hx hb d_LK_numberThere_12 rfl (lv_at hl 0 rfl) ?_
      refine g_LK_all hx hb hts hown hG hP (hts _ in_152) d_LK_numberThere_13 ?_
      refine lv_iload_n hx hb d_LK_numberThere_16 rfl (lv_at hl 2 rfl) ?_
      replace hf := G_some hf
      obtain ⟨hi1, hf⟩ := hf
      refine r_aLA hx hb hG hP hi1 d_LK_numberThere_17 ?_
      refine g_LA_isThere hx hb hts hown hG hP (vin_lt hi1) (hts _ in_131) d_LK_numberThere_18 ?_
      replace hf := B_some hf
      obtain ⟨v2, hv2, hf⟩ := hf
      have hJ : ∀ (H : Heap) (locs : List Loc) (ls : Array Slot), va_P D cls (wld adr cA μ ν) H → va_S (AA adr) s.heap H locs → lv_has ls 3 [(0, .ref (adr 26)), (1, .int v2), (2, .int y2)] → W p l e rm_LK_numberThere s m args below meth c H locs 0 0 Q (F0 m 27 ls []) := by
        clear hv2
        intro H locs ls hP hS hl
        refine lv_iinc (v := (y2 + 1)) (lv' := [(2, .int (y2 + 1)), (0, .ref (adr 26)), (1, .int v2)]) hx hb d_LK_numberThere_27 hl (k := 2) rfl rfl (by decide) rfl (fun ls hl => ?_)
        refine lv_goto (tgt := 4) hx hb d_LK_numberThere_30 (by decide) ?_
        exact ih _ _ hf hP hS (lv_sub hl [1, 2, 0] rfl)
      clear hf
      have hf := hv2
      clear hv2
      refine lv_if_eq (tgt := 27) hx hb d_LK_numberThere_21 (by decide) (fun hc => ?_) (fun hc => ?_)
      · replace hf := if_p hc hf
        obtain rfl := Option.some.inj hf
        exact hJ _ _ _ hP hS (lv_sub hl [0, 1, 2] rfl)
      · replace hf := if_n hc hf
        refine lv_iinc (v := (y1 + 1)) (lv' := [(1, .int (y1 + 1)), (0, .ref (adr 26)), (2, .int y2)]) hx hb d_LK_numberThere_24 hl (k := 1) rfl rfl (by decide) rfl (fun ls hl => ?_)
        obtain rfl := Option.some.inj hf
        exact hJ _ _ _ hP hS (lv_sub hl [1, 0, 2] rfl)
set_option maxHeartbeats 4000000 in
set_option maxRecDepth 100000 in
theorem w_LK_numberThere   (C : Cx prog_3_method_15_code 3 "LakeRelief$Lakes" (Option.some Jvm.ClassFile.FieldType.int) p s m args meth c) (hG : Geo D adr cA s) {res : Int32} (hf : f_LK_numberThere μ  = some res) (hq : ∀ (pc : Nat) (ls : Array Slot) (H : Heap) (locs : List Loc), decode prog_3_method_15_code pc = .ok (.ireturn, 1) → va_P D cls (wld adr cA μ ν) H → va_S (AA adr) s.heap H locs → W p l e rm_LK_numberThere s m args below meth c H locs 0 0 Q (F0 m pc ls [.int res])) {H : Heap} {locs : List Loc} {ls : Array Slot} (hP : va_P D cls (wld adr cA μ ν) H) (hS : va_S (AA adr) s.heap H locs) (hl : lv_has ls 3 [(0, .ref (adr 26))]) : W p l e rm_LK_numberThere s m args below meth c H locs 0 0 Q (F0 m 0 ls []) := by
  obtain ⟨hx, hb, hml, hown, hts, hr, hlocks⟩ := id C
  unfold f_LK_numberThere at hf
  refine lv_iconst (v := 0) hx hb d_LK_numberThere_0 (by decide) ?_
  refine lv_istore_n (lv' := [(1, .int 0), (0, .ref (adr 26))]) hx hb d_LK_numberThere_1 rfl hl (by decide) rfl (fun ls hl => ?_)
  refine lv_iconst (v := 0) hx hb d_LK_numberThere_2 (by decide) ?_
  refine lv_istore_n (lv' := [(2, .int 0), (1, .int 0), (0, .ref (adr 26))]) hx hb d_LK_numberThere_3 rfl hl (by decide) rfl (fun ls hl => ?_)
  replace hf := B_some hf
  obtain ⟨v3, hv3, hf⟩ := hf
  refine w_LK_numberThere_L4   C hG v3 ?_ FU _ _ hv3 hP hS (lv_sub hl [2, 1, 0] rfl)
  clear hv3 hP hS hl
  intro H locs ls hP hS hl
  refine lv_iload_n hx hb d_LK_numberThere_33 rfl (lv_at hl 0 rfl) ?_
  obtain rfl := Option.some.inj hf
  exact hq _ _ _ _ d_LK_numberThere_34 hP hS
theorem c_LK_numberThere (l : Launch) (D : va_G) (adr : Nat → Nat) (cA : Nat → ClassId) (μ ν : Mem)   {res : Int32} (hf : f_LK_numberThere μ  = some res) : Met l y_LK_numberThere (Cond.code y_LK_numberThere prog_3_method_15_code 3 (Option.some Jvm.ClassFile.FieldType.int) :: lw_ok) rm_LK_numberThere (va_Pc [.ref (adr 26)] (Wd D adr cA μ ν)) (QI D adr cA res μ ν) 0 0 (AA adr) :=
  met_of (own := "LakeRelief$Lakes") rfl rfl (Nat.le_of_ble_eq_true rfl) (fun p e s m below meth c C hG hP hS ls hl => w_LK_numberThere   C hG hf (fun pc ls H locs hd hP hS => ret_i C.1 C.2.1 C.2.2.2.2.2.1 C.2.2.2.2.2.2 hG hd hP hS) hP hS hl)
end X_LK_numberThere
section X_LK_waterThere
variable {p : Program} {l : Launch} {e : Env} {s : State} {m : MethodId} {args : Array Value} {below : List Frame} {meth : Method} {c : Code} {Q : State → Prop}
variable {D : va_G} {adr : Nat → Nat} {cA : Nat → ClassId} {μ ν : Mem}
theorem d_LK_waterThere_0 : decode prog_3_method_16_code 0 = .ok (.lconst 0, 1) := by decide +kernel
theorem d_LK_waterThere_1 : decode prog_3_method_16_code 1 = .ok (.lstore_n 1, 1) := by decide +kernel
theorem d_LK_waterThere_2 : decode prog_3_method_16_code 2 = .ok (.iconst 0, 1) := by decide +kernel
theorem d_LK_waterThere_3 : decode prog_3_method_16_code 3 = .ok (.istore_n 3, 1) := by decide +kernel
theorem d_LK_waterThere_4 : decode prog_3_method_16_code 4 = .ok (.iload_n 3, 1) := by decide +kernel
theorem d_LK_waterThere_5 : decode prog_3_method_16_code 5 = .ok (.aload_n 0, 1) := by decide +kernel
theorem d_LK_waterThere_6 : decode prog_3_method_16_code 6 = .ok (.getfield 22, 3) := by decide +kernel
theorem d_LK_waterThere_9 : decode prog_3_method_16_code 9 = .ok (.if_icmp .ge 34, 3) := by decide +kernel
theorem d_LK_waterThere_12 : decode prog_3_method_16_code 12 = .ok (.aload_n 0, 1) := by decide +kernel
theorem d_LK_waterThere_13 : decode prog_3_method_16_code 13 = .ok (.getfield 17, 3) := by decide +kernel
theorem d_LK_waterThere_16 : decode prog_3_method_16_code 16 = .ok (.iload_n 3, 1) := by decide +kernel
theorem d_LK_waterThere_17 : decode prog_3_method_16_code 17 = .ok (.aaload, 1) := by decide +kernel
theorem d_LK_waterThere_18 : decode prog_3_method_16_code 18 = .ok (.getfield 139, 3) := by decide +kernel
theorem d_LK_waterThere_21 : decode prog_3_method_16_code 21 = .ok (.ifCond .eq 16, 3) := by decide +kernel
theorem d_LK_waterThere_24 : decode prog_3_method_16_code 24 = .ok (.lload_n 1, 1) := by decide +kernel
theorem d_LK_waterThere_25 : decode prog_3_method_16_code 25 = .ok (.aload_n 0, 1) := by decide +kernel
theorem d_LK_waterThere_26 : decode prog_3_method_16_code 26 = .ok (.getfield 17, 3) := by decide +kernel
theorem d_LK_waterThere_29 : decode prog_3_method_16_code 29 = .ok (.iload_n 3, 1) := by decide +kernel
theorem d_LK_waterThere_30 : decode prog_3_method_16_code 30 = .ok (.aaload, 1) := by decide +kernel
theorem d_LK_waterThere_31 : decode prog_3_method_16_code 31 = .ok (.getfield 143, 3) := by decide +kernel
theorem d_LK_waterThere_34 : decode prog_3_method_16_code 34 = .ok (.i2l, 1) := by decide +kernel
theorem d_LK_waterThere_35 : decode prog_3_method_16_code 35 = .ok (.ladd, 1) := by decide +kernel
theorem d_LK_waterThere_36 : decode prog_3_method_16_code 36 = .ok (.lstore_n 1, 1) := by decide +kernel
theorem d_LK_waterThere_37 : decode prog_3_method_16_code 37 = .ok (.iinc 3 1, 3) := by decide +kernel
theorem d_LK_waterThere_40 : decode prog_3_method_16_code 40 = .ok (.goto (-36), 3) := by decide +kernel
theorem d_LK_waterThere_43 : decode prog_3_method_16_code 43 = .ok (.lload_n 1, 1) := by decide +kernel
theorem d_LK_waterThere_44 : decode prog_3_method_16_code 44 = .ok (.lreturn, 1) := by decide +kernel
set_option maxHeartbeats 4000000 in
set_option maxRecDepth 100000 in
theorem w_LK_waterThere_L4   (C : Cx prog_3_method_16_code 4 "LakeRelief$Lakes" (Option.some Jvm.ClassFile.FieldType.long) p s m args meth c) (hG : Geo D adr cA s) (v : Int64) (hE : ∀ (H : Heap) (locs : List Loc) (ls : Array Slot), va_P D cls (wld adr cA μ ν) H → va_S (AA adr) s.heap H locs → lv_has ls 4 [(1, .long v)] → W p l e rm_LK_waterThere s m args below meth c H locs 0 0 Q (F0 m 43 ls [])) : ∀ (n : Nat) (y1 : Int64) (y3 : Int32), f_LK_waterThere_L4 μ n y1 y3 = some v → ∀ {H : Heap} {locs : List Loc} {ls : Array Slot}, va_P D cls (wld adr cA μ ν) H → va_S (AA adr) s.heap H locs → lv_has ls 4 [(0, .ref (adr 26)), (1, .long y1), (3, .int y3)] → W p l e rm_LK_waterThere s m args below meth c H locs 0 0 Q (F0 m 4 ls []) := by
  obtain ⟨hx, hb, hml, hown, hts, hr, hlocks⟩ := id C
  intro n
  induction n with
  | zero => intro y1 y3 hf; rw [f_LK_waterThere_L4.eq_1] at hf; cases hf
  | succ n ih =>
    intro y1 y3 hf H locs ls hP hS hl
    rw [f_LK_waterThere_L4.eq_2] at hf
    refine lv_iload_n hx hb d_LK_waterThere_4 rfl (lv_at hl 2 rfl) ?_
    refine lv_aload_n hx hb d_LK_waterThere_5 rfl (lv_at hl 0 rfl) ?_
    refine g_LK_number hx hb hts hown hG hP (hts _ in_154) d_LK_waterThere_6 ?_
    refine lv_icmp_ge (tgt := 43) hx hb d_LK_waterThere_9 (by decide) (fun hc => ?_) (fun hc => ?_)
    · replace hf := if_p hc hf
      obtain rfl := Option.some.inj hf
      exact hE _ _ _ hP hS (lv_sub hl [1] rfl)
    · replace hf := if_n hc hf
      refine lv_aload_n hx hb d_LK_waterThere_12 rfl (lv_at hl 0 rfl) ?_
      refine g_LK_all hx hb hts hown hG hP (hts _ in_152) d_LK_waterThere_13 ?_
      refine lv_iload_n hx hb d_LK_waterThere_16 rfl (lv_at hl 2 rfl) ?_
      replace hf := G_some hf
      obtain ⟨hi1, hf⟩ := hf
      refine r_aLA hx hb hG hP hi1 d_LK_waterThere_17 ?_
      refine g_LA_isThere hx hb hts hown hG hP (vin_lt hi1) (hts _ in_131) d_LK_waterThere_18 ?_
      replace hf := B_some hf
      obtain ⟨v2, hv2, hf⟩ := hf
      have hJ : ∀ (H : Heap) (locs : List Loc) (ls : Array Slot), va_P D cls (wld adr cA μ ν) H → va_S (AA adr) s.heap H locs → lv_has ls 4 [(0, .ref (adr 26)), (1, .long v2), (3, .int y3)] → W p l e rm_LK_waterThere s m args below meth c H locs 0 0 Q (F0 m 37 ls []) := by
        clear hv2
        intro H locs ls hP hS hl
        refine lv_iinc (v := (y3 + 1)) (lv' := [(3, .int (y3 + 1)), (0, .ref (adr 26)), (1, .long v2)]) hx hb d_LK_waterThere_37 hl (k := 2) rfl rfl (by decide) rfl (fun ls hl => ?_)
        refine lv_goto (tgt := 4) hx hb d_LK_waterThere_40 (by decide) ?_
        exact ih _ _ hf hP hS (lv_sub hl [1, 2, 0] rfl)
      clear hf
      have hf := hv2
      clear hv2
      refine lv_if_eq (tgt := 37) hx hb d_LK_waterThere_21 (by decide) (fun hc => ?_) (fun hc => ?_)
      · replace hf := if_p hc hf
        obtain rfl := Option.some.inj hf
        exact hJ _ _ _ hP hS (lv_sub hl [0, 1, 2] rfl)
      · replace hf := if_n hc hf
        refine lv_lload_n hx hb d_LK_waterThere_24 rfl (lv_at hl 1 rfl) ?_
        refine lv_aload_n hx hb d_LK_waterThere_25 rfl (lv_at hl 0 rfl) ?_
        refine g_LK_all hx hb hts hown hG hP (hts _ in_152) d_LK_waterThere_26 ?_
        refine lv_iload_n hx hb d_LK_waterThere_29 rfl (lv_at hl 2 rfl) ?_
        replace hf := G_some hf
        obtain ⟨hi3, hf⟩ := hf
        refine r_aLA hx hb hG hP hi3 d_LK_waterThere_30 ?_
        refine g_LA_water hx hb hts hown hG hP (vin_lt hi3) (hts _ in_134) d_LK_waterThere_31 ?_
        refine lv_i2l hx hb d_LK_waterThere_34 rfl ?_
        refine lv_ladd hx hb d_LK_waterThere_35 ?_
        refine lv_lstore_n (lv' := [(1, .long (y1 + (μ.1 (28 + y3.toNatClampNeg) 7).toInt64)), (0, .ref (adr 26)), (3, .int y3)]) hx hb d_LK_waterThere_36 rfl hl (by decide) rfl (fun ls hl => ?_)
        obtain rfl := Option.some.inj hf
        exact hJ _ _ _ hP hS (lv_sub hl [1, 0, 2] rfl)
set_option maxHeartbeats 4000000 in
set_option maxRecDepth 100000 in
theorem w_LK_waterThere   (C : Cx prog_3_method_16_code 4 "LakeRelief$Lakes" (Option.some Jvm.ClassFile.FieldType.long) p s m args meth c) (hG : Geo D adr cA s) {res : Int64} (hf : f_LK_waterThere μ  = some res) (hq : ∀ (pc : Nat) (ls : Array Slot) (H : Heap) (locs : List Loc), decode prog_3_method_16_code pc = .ok (.lreturn, 1) → va_P D cls (wld adr cA μ ν) H → va_S (AA adr) s.heap H locs → W p l e rm_LK_waterThere s m args below meth c H locs 0 0 Q (F0 m pc ls [.long res])) {H : Heap} {locs : List Loc} {ls : Array Slot} (hP : va_P D cls (wld adr cA μ ν) H) (hS : va_S (AA adr) s.heap H locs) (hl : lv_has ls 4 [(0, .ref (adr 26))]) : W p l e rm_LK_waterThere s m args below meth c H locs 0 0 Q (F0 m 0 ls []) := by
  obtain ⟨hx, hb, hml, hown, hts, hr, hlocks⟩ := id C
  unfold f_LK_waterThere at hf
  refine lv_lconst (v := 0) hx hb d_LK_waterThere_0 (by decide) ?_
  refine lv_lstore_n (lv' := [(1, .long 0), (0, .ref (adr 26))]) hx hb d_LK_waterThere_1 rfl hl (by decide) rfl (fun ls hl => ?_)
  refine lv_iconst (v := 0) hx hb d_LK_waterThere_2 (by decide) ?_
  refine lv_istore_n (lv' := [(3, .int 0), (1, .long 0), (0, .ref (adr 26))]) hx hb d_LK_waterThere_3 rfl hl (by decide) rfl (fun ls hl => ?_)
  replace hf := B_some hf
  obtain ⟨v4, hv4, hf⟩ := hf
  refine w_LK_waterThere_L4   C hG v4 ?_ FU _ _ hv4 hP hS (lv_sub hl [2, 1, 0] rfl)
  clear hv4 hP hS hl
  intro H locs ls hP hS hl
  refine lv_lload_n hx hb d_LK_waterThere_43 rfl (lv_at hl 0 rfl) ?_
  obtain rfl := Option.some.inj hf
  exact hq _ _ _ _ d_LK_waterThere_44 hP hS
theorem c_LK_waterThere (l : Launch) (D : va_G) (adr : Nat → Nat) (cA : Nat → ClassId) (μ ν : Mem)   {res : Int64} (hf : f_LK_waterThere μ  = some res) : Met l y_LK_waterThere (Cond.code y_LK_waterThere prog_3_method_16_code 4 (Option.some Jvm.ClassFile.FieldType.long) :: lw_ok) rm_LK_waterThere (va_Pc [.ref (adr 26)] (Wd D adr cA μ ν)) (QL D adr cA res μ ν) 0 0 (AA adr) :=
  met_of (own := "LakeRelief$Lakes") rfl rfl (Nat.le_of_ble_eq_true rfl) (fun p e s m below meth c C hG hP hS ls hl => w_LK_waterThere   C hG hf (fun pc ls H locs hd hP hS => ret_l C.1 C.2.1 C.2.2.2.2.2.1 C.2.2.2.2.2.2 hG hd hP hS) hP hS hl)
end X_LK_waterThere
section X_LK_lakeBelow
variable {p : Program} {l : Launch} {e : Env} {s : State} {m : MethodId} {args : Array Value} {below : List Frame} {meth : Method} {c : Code} {Q : State → Prop}
variable {D : va_G} {adr : Nat → Nat} {cA : Nat → ClassId} {μ ν : Mem}
theorem d_LK_lakeBelow_0 : decode prog_3_method_18_code 0 = .ok (.aload_n 0, 1) := by decide +kernel
theorem d_LK_lakeBelow_1 : decode prog_3_method_18_code 1 = .ok (.getfield 9, 3) := by decide +kernel
theorem d_LK_lakeBelow_4 : decode prog_3_method_18_code 4 = .ok (.iload_n 1, 1) := by decide +kernel
theorem d_LK_lakeBelow_5 : decode prog_3_method_18_code 5 = .ok (.invokevirtual 43, 3) := by decide +kernel
theorem d_LK_lakeBelow_8 : decode prog_3_method_18_code 8 = .ok (.ifCond .eq 22, 3) := by decide +kernel
theorem d_LK_lakeBelow_11 : decode prog_3_method_18_code 11 = .ok (.aload_n 0, 1) := by decide +kernel
theorem d_LK_lakeBelow_12 : decode prog_3_method_18_code 12 = .ok (.getfield 9, 3) := by decide +kernel
theorem d_LK_lakeBelow_15 : decode prog_3_method_18_code 15 = .ok (.aload_n 0, 1) := by decide +kernel
theorem d_LK_lakeBelow_16 : decode prog_3_method_18_code 16 = .ok (.getfield 9, 3) := by decide +kernel
theorem d_LK_lakeBelow_19 : decode prog_3_method_18_code 19 = .ok (.getfield 152, 3) := by decide +kernel
theorem d_LK_lakeBelow_22 : decode prog_3_method_18_code 22 = .ok (.iload_n 1, 1) := by decide +kernel
theorem d_LK_lakeBelow_23 : decode prog_3_method_18_code 23 = .ok (.iaload, 1) := by decide +kernel
theorem d_LK_lakeBelow_24 : decode prog_3_method_18_code 24 = .ok (.invokevirtual 43, 3) := by decide +kernel
theorem d_LK_lakeBelow_27 : decode prog_3_method_18_code 27 = .ok (.ifCond .ne 6, 3) := by decide +kernel
theorem d_LK_lakeBelow_30 : decode prog_3_method_18_code 30 = .ok (.bipush (-5), 2) := by decide +kernel
theorem d_LK_lakeBelow_32 : decode prog_3_method_18_code 32 = .ok (.ireturn, 1) := by decide +kernel
theorem d_LK_lakeBelow_33 : decode prog_3_method_18_code 33 = .ok (.aload_n 0, 1) := by decide +kernel
theorem d_LK_lakeBelow_34 : decode prog_3_method_18_code 34 = .ok (.aload_n 0, 1) := by decide +kernel
theorem d_LK_lakeBelow_35 : decode prog_3_method_18_code 35 = .ok (.getfield 9, 3) := by decide +kernel
theorem d_LK_lakeBelow_38 : decode prog_3_method_18_code 38 = .ok (.getfield 152, 3) := by decide +kernel
theorem d_LK_lakeBelow_41 : decode prog_3_method_18_code 41 = .ok (.iload_n 1, 1) := by decide +kernel
theorem d_LK_lakeBelow_42 : decode prog_3_method_18_code 42 = .ok (.iaload, 1) := by decide +kernel
theorem d_LK_lakeBelow_43 : decode prog_3_method_18_code 43 = .ok (.invokevirtual 155, 3) := by decide +kernel
theorem d_LK_lakeBelow_46 : decode prog_3_method_18_code 46 = .ok (.ireturn, 1) := by decide +kernel
set_option maxHeartbeats 4000000 in
set_option maxRecDepth 100000 in
theorem w_LK_lakeBelow (x1 : Int32)  (C : Cx prog_3_method_18_code 2 "LakeRelief$Lakes" (Option.some Jvm.ClassFile.FieldType.int) p s m args meth c) (hG : Geo D adr cA s) {res : Int32} (hf : f_LK_lakeBelow μ x1 = some res) (hq : ∀ (pc : Nat) (ls : Array Slot) (H : Heap) (locs : List Loc), decode prog_3_method_18_code pc = .ok (.ireturn, 1) → va_P D cls (wld adr cA μ ν) H → va_S (AA adr) s.heap H locs → W p l e rm_LK_lakeBelow s m args below meth c H locs 0 0 Q (F0 m pc ls [.int res])) {H : Heap} {locs : List Loc} {ls : Array Slot} (hP : va_P D cls (wld adr cA μ ν) H) (hS : va_S (AA adr) s.heap H locs) (hl : lv_has ls 2 [(0, .ref (adr 26)), (1, .int x1)]) : W p l e rm_LK_lakeBelow s m args below meth c H locs 0 0 Q (F0 m 0 ls []) := by
  obtain ⟨hx, hb, hml, hown, hts, hr, hlocks⟩ := id C
  unfold f_LK_lakeBelow at hf
  refine lv_aload_n hx hb d_LK_lakeBelow_0 rfl (lv_at hl 0 rfl) ?_
  refine g_LK_relief hx hb hts hown hG hP (hts _ in_160) d_LK_lakeBelow_1 ?_
  refine lv_iload_n hx hb d_LK_lakeBelow_4 rfl (lv_at hl 1 rfl) ?_
  refine ki (kv (As := [.int x1]) (rest := []) ⟨hx, hb, hml, hown, hts⟩ (cw_LK_43 hts ⟨Nat.le_of_ble_eq_true rfl, Nat.le_of_ble_eq_true rfl⟩) (c_RE_isLand l D adr cA μ ν x1) hG hP (rc_o (q := 18) (ci := 2) hG hP (by decide) (wc_C (by decide) rfl) rfl) rfl hl.1 (Nat.le_of_ble_eq_true rfl) d_LK_lakeBelow_5) hS (fun H locs hP hS => ?_)
  refine lv_if_eq (tgt := 30) hx hb d_LK_lakeBelow_8 (by decide) (fun hc => ?_) (fun hc => ?_)
  · replace hf := if_p hc hf
    refine lv_bipush (v := (-5)) hx hb d_LK_lakeBelow_30 (by decide) ?_
    obtain rfl := Option.some.inj hf
    exact hq _ _ _ _ d_LK_lakeBelow_32 hP hS
  · replace hf := if_n hc hf
    refine lv_aload_n hx hb d_LK_lakeBelow_11 rfl (lv_at hl 0 rfl) ?_
    refine g_LK_relief hx hb hts hown hG hP (hts _ in_160) d_LK_lakeBelow_12 ?_
    refine lv_aload_n hx hb d_LK_lakeBelow_15 rfl (lv_at hl 0 rfl) ?_
    refine g_LK_relief hx hb hts hown hG hP (hts _ in_160) d_LK_lakeBelow_16 ?_
    refine g_RE_wayEnd hx hb hts hown hG hP (hts _ in_51) d_LK_lakeBelow_19 ?_
    refine lv_iload_n hx hb d_LK_lakeBelow_22 rfl (lv_at hl 1 rfl) ?_
    replace hf := G_some hf
    obtain ⟨hi1, hf⟩ := hf
    refine r_iald hx hb hG hP 21 64 (f := μ.1 21) (by decide) (wc_C (by decide) rfl) hi1 d_LK_lakeBelow_23 ?_
    refine ki (kv (As := [.int (μ.1 21 x1.toNatClampNeg)]) (rest := []) ⟨hx, hb, hml, hown, hts⟩ (cw_LK_43 hts ⟨Nat.le_of_ble_eq_true rfl, Nat.le_of_ble_eq_true rfl⟩) (c_RE_isLand l D adr cA μ ν (μ.1 21 x1.toNatClampNeg)) hG hP (rc_o (q := 18) (ci := 2) hG hP (by decide) (wc_C (by decide) rfl) rfl) rfl hl.1 (Nat.le_of_ble_eq_true rfl) d_LK_lakeBelow_24) hS (fun H locs hP hS => ?_)
    refine lv_if_ne (tgt := 33) hx hb d_LK_lakeBelow_27 (by decide) (fun hc => ?_) (fun hc => ?_)
    · replace hf := if_n hc hf
      refine lv_aload_n hx hb d_LK_lakeBelow_33 rfl (lv_at hl 0 rfl) ?_
      refine lv_aload_n hx hb d_LK_lakeBelow_34 rfl (lv_at hl 0 rfl) ?_
      refine g_LK_relief hx hb hts hown hG hP (hts _ in_160) d_LK_lakeBelow_35 ?_
      refine g_RE_wayEnd hx hb hts hown hG hP (hts _ in_51) d_LK_lakeBelow_38 ?_
      refine lv_iload_n hx hb d_LK_lakeBelow_41 rfl (lv_at hl 1 rfl) ?_
      replace hf := G_some hf
      obtain ⟨hi2, hf⟩ := hf
      refine r_iald hx hb hG hP 21 64 (f := μ.1 21) (by decide) (wc_C (by decide) rfl) hi2 d_LK_lakeBelow_42 ?_
      replace hf := B_some hf
      obtain ⟨v3, hv3, hf⟩ := hf
      refine ki (kv (As := [.int (μ.1 21 x1.toNatClampNeg)]) (rest := []) ⟨hx, hb, hml, hown, hts⟩ (cw_LK_155 hts ⟨Nat.le_of_ble_eq_true rfl, Nat.le_of_ble_eq_true rfl⟩) (c_LK_thereWith l D adr cA μ ν (μ.1 21 x1.toNatClampNeg) hv3) hG hP (rc_o (q := 26) (ci := 1) hG hP (by decide) (wc_C (by decide) rfl) rfl) rfl hl.1 (Nat.le_of_ble_eq_true rfl) d_LK_lakeBelow_43) hS (fun H locs hP hS => ?_)
      obtain rfl := Option.some.inj hf
      exact hq _ _ _ _ d_LK_lakeBelow_46 hP hS
    · replace hf := if_p hc hf
      refine lv_bipush (v := (-5)) hx hb d_LK_lakeBelow_30 (by decide) ?_
      obtain rfl := Option.some.inj hf
      exact hq _ _ _ _ d_LK_lakeBelow_32 hP hS
theorem c_LK_lakeBelow (l : Launch) (D : va_G) (adr : Nat → Nat) (cA : Nat → ClassId) (μ ν : Mem) (x1 : Int32)  {res : Int32} (hf : f_LK_lakeBelow μ x1 = some res) : Met l y_LK_lakeBelow (Cond.code y_LK_lakeBelow prog_3_method_18_code 2 (Option.some Jvm.ClassFile.FieldType.int) :: lw_ok) rm_LK_lakeBelow (va_Pc [.ref (adr 26), .int x1] (Wd D adr cA μ ν)) (QI D adr cA res μ ν) 0 0 (AA adr) :=
  met_of (own := "LakeRelief$Lakes") rfl rfl (Nat.le_of_ble_eq_true rfl) (fun p e s m below meth c C hG hP hS ls hl => w_LK_lakeBelow x1  C hG hf (fun pc ls H locs hd hP hS => ret_i C.1 C.2.1 C.2.2.2.2.2.1 C.2.2.2.2.2.2 hG hd hP hS) hP hS hl)
end X_LK_lakeBelow
section X_LK_fillUp
variable {p : Program} {l : Launch} {e : Env} {s : State} {m : MethodId} {args : Array Value} {below : List Frame} {meth : Method} {c : Code} {Q : State → Prop}
variable {D : va_G} {adr : Nat → Nat} {cA : Nat → ClassId} {μ ν : Mem}
theorem d_LK_fillUp_0 : decode prog_3_method_20_code 0 = .ok (.iload_n 2, 1) := by decide +kernel
theorem d_LK_fillUp_1 : decode prog_3_method_20_code 1 = .ok (.aload_n 1, 1) := by decide +kernel
theorem d_LK_fillUp_2 : decode prog_3_method_20_code 2 = .ok (.getfield 74, 3) := by decide +kernel
theorem d_LK_fillUp_5 : decode prog_3_method_20_code 5 = .ok (.aload_n 1, 1) := by decide +kernel
theorem d_LK_fillUp_6 : decode prog_3_method_20_code 6 = .ok (.getfield 143, 3) := by decide +kernel
theorem d_LK_fillUp_9 : decode prog_3_method_20_code 9 = .ok (.isub, 1) := by decide +kernel
theorem d_LK_fillUp_10 : decode prog_3_method_20_code 10 = .ok (.invokestatic 165, 3) := by decide +kernel
theorem d_LK_fillUp_13 : decode prog_3_method_20_code 13 = .ok (.istore_n 3, 1) := by decide +kernel
theorem d_LK_fillUp_14 : decode prog_3_method_20_code 14 = .ok (.aload_n 1, 1) := by decide +kernel
theorem d_LK_fillUp_15 : decode prog_3_method_20_code 15 = .ok (.dup, 1) := by decide +kernel
theorem d_LK_fillUp_16 : decode prog_3_method_20_code 16 = .ok (.getfield 143, 3) := by decide +kernel
theorem d_LK_fillUp_19 : decode prog_3_method_20_code 19 = .ok (.iload_n 3, 1) := by decide +kernel
theorem d_LK_fillUp_20 : decode prog_3_method_20_code 20 = .ok (.iadd, 1) := by decide +kernel
theorem d_LK_fillUp_21 : decode prog_3_method_20_code 21 = .ok (.putfield 143, 3) := by decide +kernel
theorem d_LK_fillUp_24 : decode prog_3_method_20_code 24 = .ok (.iload_n 3, 1) := by decide +kernel
theorem d_LK_fillUp_25 : decode prog_3_method_20_code 25 = .ok (.ireturn, 1) := by decide +kernel
set_option maxHeartbeats 4000000 in
set_option maxRecDepth 100000 in
theorem w_LK_fillUp (x1 : Nat) (x2 : Int32) (hx1 : x1 < 35) (C : Cx prog_3_method_20_code 4 "LakeRelief$Lakes" (Option.some Jvm.ClassFile.FieldType.int) p s m args meth c) (hG : Geo D adr cA s) {res : Int32 × Mem} (hf : f_LK_fillUp μ x1 x2 = res) (hq : ∀ (pc : Nat) (ls : Array Slot) (H : Heap) (locs : List Loc), decode prog_3_method_20_code pc = .ok (.ireturn, 1) → va_P D cls (wld adr cA res.2 ν) H → va_S (AA adr) s.heap H locs → W p l e rm_LK_fillUp s m args below meth c H locs 0 0 Q (F0 m pc ls [.int res.1])) {H : Heap} {locs : List Loc} {ls : Array Slot} (hP : va_P D cls (wld adr cA μ ν) H) (hS : va_S (AA adr) s.heap H locs) (hl : lv_has ls 4 [(0, .ref (adr 26)), (1, .ref (adr (28 + x1))), (2, .int x2)]) : W p l e rm_LK_fillUp s m args below meth c H locs 0 0 Q (F0 m 0 ls []) := by
  obtain ⟨hx, hb, hml, hown, hts, hr, hlocks⟩ := id C
  unfold f_LK_fillUp at hf
  refine lv_iload_n hx hb d_LK_fillUp_0 rfl (lv_at hl 2 rfl) ?_
  refine lv_aload_n hx hb d_LK_fillUp_1 rfl (lv_at hl 1 rfl) ?_
  refine g_LA_most hx hb hts hown hG hP hx1 (hts _ in_127) d_LK_fillUp_2 ?_
  refine lv_aload_n hx hb d_LK_fillUp_5 rfl (lv_at hl 1 rfl) ?_
  refine g_LA_water hx hb hts hown hG hP hx1 (hts _ in_134) d_LK_fillUp_6 ?_
  refine lv_isub hx hb d_LK_fillUp_9 ?_
  refine va_mmin hx hb (hml.trans hl.1.symm) hown (hts _ in_481) (hts _ in_106) (hts _ in_6) (hts _ in_107) (Nat.le_of_ble_eq_true rfl) (Nat.le_of_ble_eq_true rfl) (Nat.zero_le _) (Nat.zero_le _) d_LK_fillUp_10 ?_
  refine lv_istore_n (lv' := [(3, .int (if ((μ.1 (28 + x1) 5) - (μ.1 (28 + x1) 7)) < x2 then ((μ.1 (28 + x1) 5) - (μ.1 (28 + x1) 7)) else x2)), (0, .ref (adr 26)), (1, .ref (adr (28 + x1))), (2, .int x2)]) hx hb d_LK_fillUp_13 rfl hl (by decide) rfl (fun ls hl => ?_)
  refine lv_aload_n hx hb d_LK_fillUp_14 rfl (lv_at hl 2 rfl) ?_
  refine lv_dup hx hb d_LK_fillUp_15 rfl ?_
  refine g_LA_water hx hb hts hown hG hP hx1 (hts _ in_134) d_LK_fillUp_16 ?_
  refine lv_iload_n hx hb d_LK_fillUp_19 rfl (lv_at hl 0 rfl) ?_
  refine lv_iadd hx hb d_LK_fillUp_20 ?_
  refine p_LA_water hx hb hts hown hG hP hS hx1 (hts _ in_134) d_LK_fillUp_21 (fun H locs hP hS => ?_)
  refine lv_iload_n hx hb d_LK_fillUp_24 rfl (lv_at hl 0 rfl) ?_
  subst hf
  exact hq _ _ _ _ d_LK_fillUp_25 hP hS
theorem c_LK_fillUp (l : Launch) (D : va_G) (adr : Nat → Nat) (cA : Nat → ClassId) (μ ν : Mem) (x1 : Nat) (x2 : Int32) (hx1 : x1 < 35) : Met l y_LK_fillUp (Cond.code y_LK_fillUp prog_3_method_20_code 4 (Option.some Jvm.ClassFile.FieldType.int) :: lw_ok) rm_LK_fillUp (va_Pc [.ref (adr 26), .ref (adr (28 + x1)), .int x2] (Wd D adr cA μ ν)) (QI D adr cA (f_LK_fillUp μ x1 x2).1 ((f_LK_fillUp μ x1 x2).2) ν) 0 0 (AA adr) :=
  met_of (own := "LakeRelief$Lakes") rfl rfl (Nat.le_of_ble_eq_true rfl) (fun p e s m below meth c C hG hP hS ls hl => w_LK_fillUp x1 x2 hx1 C hG rfl (fun pc ls H locs hd hP hS => ret_i C.1 C.2.1 C.2.2.2.2.2.1 C.2.2.2.2.2.2 hG hd hP hS) hP hS hl)
end X_LK_fillUp
section X_LK_join
variable {p : Program} {l : Launch} {e : Env} {s : State} {m : MethodId} {args : Array Value} {below : List Frame} {meth : Method} {c : Code} {Q : State → Prop}
variable {D : va_G} {adr : Nat → Nat} {cA : Nat → ClassId} {μ ν : Mem}
theorem d_LK_join_0 : decode prog_3_method_22_code 0 = .ok (.aload_n 3, 1) := by decide +kernel
theorem d_LK_join_1 : decode prog_3_method_22_code 1 = .ok (.aload_n 1, 1) := by decide +kernel
theorem d_LK_join_2 : decode prog_3_method_22_code 2 = .ok (.getfield 143, 3) := by decide +kernel
theorem d_LK_join_5 : decode prog_3_method_22_code 5 = .ok (.aload_n 2, 1) := by decide +kernel
theorem d_LK_join_6 : decode prog_3_method_22_code 6 = .ok (.getfield 143, 3) := by decide +kernel
theorem d_LK_join_9 : decode prog_3_method_22_code 9 = .ok (.iadd, 1) := by decide +kernel
theorem d_LK_join_10 : decode prog_3_method_22_code 10 = .ok (.invokevirtual 81, 3) := by decide +kernel
theorem d_LK_join_13 : decode prog_3_method_22_code 13 = .ok (.aload_n 1, 1) := by decide +kernel
theorem d_LK_join_14 : decode prog_3_method_22_code 14 = .ok (.invokevirtual 183, 3) := by decide +kernel
theorem d_LK_join_17 : decode prog_3_method_22_code 17 = .ok (.aload_n 2, 1) := by decide +kernel
theorem d_LK_join_18 : decode prog_3_method_22_code 18 = .ok (.invokevirtual 183, 3) := by decide +kernel
theorem d_LK_join_21 : decode prog_3_method_22_code 21 = .ok (.return_, 1) := by decide +kernel
set_option maxHeartbeats 4000000 in
set_option maxRecDepth 100000 in
theorem w_LK_join (x1 : Nat) (x2 : Nat) (x3 : Nat) (hx1 : x1 < 35) (hx2 : x2 < 35) (hx3 : x3 < 35) (C : Cx prog_3_method_22_code 4 "LakeRelief$Lakes" (Option.none : Option Jvm.ClassFile.FieldType) p s m args meth c) (hG : Geo D adr cA s) {res : Mem} (hf : f_LK_join μ x1 x2 x3 = res) (hq : ∀ (pc : Nat) (ls : Array Slot) (H : Heap) (locs : List Loc), decode prog_3_method_22_code pc = .ok (.return_, 1) → va_P D cls (wld adr cA res ν) H → va_S (AA adr) s.heap H locs → W p l e rm_LK_join s m args below meth c H locs 0 0 Q (F0 m pc ls [])) {H : Heap} {locs : List Loc} {ls : Array Slot} (hP : va_P D cls (wld adr cA μ ν) H) (hS : va_S (AA adr) s.heap H locs) (hl : lv_has ls 4 [(0, .ref (adr 26)), (1, .ref (adr (28 + x1))), (2, .ref (adr (28 + x2))), (3, .ref (adr (28 + x3)))]) : W p l e rm_LK_join s m args below meth c H locs 0 0 Q (F0 m 0 ls []) := by
  obtain ⟨hx, hb, hml, hown, hts, hr, hlocks⟩ := id C
  unfold f_LK_join at hf
  refine lv_aload_n hx hb d_LK_join_0 rfl (lv_at hl 3 rfl) ?_
  refine lv_aload_n hx hb d_LK_join_1 rfl (lv_at hl 1 rfl) ?_
  refine g_LA_water hx hb hts hown hG hP hx1 (hts _ in_134) d_LK_join_2 ?_
  refine lv_aload_n hx hb d_LK_join_5 rfl (lv_at hl 2 rfl) ?_
  refine g_LA_water hx hb hts hown hG hP hx2 (hts _ in_134) d_LK_join_6 ?_
  refine lv_iadd hx hb d_LK_join_9 ?_
  refine kw (kv (As := [.int ((μ.1 (28 + x1) 7) + (μ.1 (28 + x2) 7))]) (rest := []) ⟨hx, hb, hml, hown, hts⟩ (cw_LK_81 hts ⟨Nat.le_of_ble_eq_true rfl, Nat.le_of_ble_eq_true rfl⟩) (c_LA_appear l D adr cA μ ν x3 ((μ.1 (28 + x1) 7) + (μ.1 (28 + x2) 7)) hx3) hG hP (rc_o (q := (28 + x3)) (ci := 0) hG hP (by have := hx3; omega) (wc_C (by have := hx3; omega) (sh_LA)) rfl) rfl hl.1 (Nat.le_of_ble_eq_true rfl) d_LK_join_10) hS (fun H locs hP hS => ?_)
  refine lv_aload_n hx hb d_LK_join_13 rfl (lv_at hl 1 rfl) ?_
  refine kw (kv (As := []) (rest := []) ⟨hx, hb, hml, hown, hts⟩ (cw_LK_183 hts ⟨Nat.le_of_ble_eq_true rfl, Nat.le_of_ble_eq_true rfl⟩) (c_LA_vanish l D adr cA (f_LA_appear μ x3 ((μ.1 (28 + x1) 7) + (μ.1 (28 + x2) 7))) ν x1 hx1) hG hP (rc_o (q := (28 + x1)) (ci := 0) hG hP (by have := hx1; omega) (wc_C (by have := hx1; omega) (sh_LA)) rfl) rfl hl.1 (Nat.le_of_ble_eq_true rfl) d_LK_join_14) hS (fun H locs hP hS => ?_)
  refine lv_aload_n hx hb d_LK_join_17 rfl (lv_at hl 2 rfl) ?_
  refine kw (kv (As := []) (rest := []) ⟨hx, hb, hml, hown, hts⟩ (cw_LK_183 hts ⟨Nat.le_of_ble_eq_true rfl, Nat.le_of_ble_eq_true rfl⟩) (c_LA_vanish l D adr cA (f_LA_vanish (f_LA_appear μ x3 ((μ.1 (28 + x1) 7) + (μ.1 (28 + x2) 7))) x1) ν x2 hx2) hG hP (rc_o (q := (28 + x2)) (ci := 0) hG hP (by have := hx2; omega) (wc_C (by have := hx2; omega) (sh_LA)) rfl) rfl hl.1 (Nat.le_of_ble_eq_true rfl) d_LK_join_18) hS (fun H locs hP hS => ?_)
  subst hf
  exact hq _ _ _ _ d_LK_join_21 hP hS
theorem c_LK_join (l : Launch) (D : va_G) (adr : Nat → Nat) (cA : Nat → ClassId) (μ ν : Mem) (x1 : Nat) (x2 : Nat) (x3 : Nat) (hx1 : x1 < 35) (hx2 : x2 < 35) (hx3 : x3 < 35) : Met l y_LK_join (Cond.code y_LK_join prog_3_method_22_code 4 (Option.none : Option Jvm.ClassFile.FieldType) :: lw_ok) rm_LK_join (va_Pc [.ref (adr 26), .ref (adr (28 + x1)), .ref (adr (28 + x2)), .ref (adr (28 + x3))] (Wd D adr cA μ ν)) (QV D adr cA (f_LK_join μ x1 x2 x3) ν) 0 0 (AA adr) :=
  met_of (own := "LakeRelief$Lakes") rfl rfl (Nat.le_of_ble_eq_true rfl) (fun p e s m below meth c C hG hP hS ls hl => w_LK_join x1 x2 x3 hx1 hx2 hx3 C hG rfl (fun pc ls H locs hd hP hS => ret_v C.1 C.2.1 C.2.2.2.2.2.1 C.2.2.2.2.2.2 hG hd hP hS) hP hS hl)
end X_LK_join
section X_LK_next
variable {p : Program} {l : Launch} {e : Env} {s : State} {m : MethodId} {args : Array Value} {below : List Frame} {meth : Method} {c : Code} {Q : State → Prop}
variable {D : va_G} {adr : Nat → Nat} {cA : Nat → ClassId} {μ ν : Mem}
theorem d_LK_next_0 : decode prog_3_method_21_code 0 = .ok (.aload_n 0, 1) := by decide +kernel
theorem d_LK_next_1 : decode prog_3_method_21_code 1 = .ok (.getfield 17, 3) := by decide +kernel
theorem d_LK_next_4 : decode prog_3_method_21_code 4 = .ok (.iload_n 1, 1) := by decide +kernel
theorem d_LK_next_5 : decode prog_3_method_21_code 5 = .ok (.aaload, 1) := by decide +kernel
theorem d_LK_next_6 : decode prog_3_method_21_code 6 = .ok (.getfield 120, 3) := by decide +kernel
theorem d_LK_next_9 : decode prog_3_method_21_code 9 = .ok (.istore_n 2, 1) := by decide +kernel
theorem d_LK_next_10 : decode prog_3_method_21_code 10 = .ok (.aload_n 0, 1) := by decide +kernel
theorem d_LK_next_11 : decode prog_3_method_21_code 11 = .ok (.iload_n 2, 1) := by decide +kernel
theorem d_LK_next_12 : decode prog_3_method_21_code 12 = .ok (.invokevirtual 36, 3) := by decide +kernel
theorem d_LK_next_15 : decode prog_3_method_21_code 15 = .ok (.ifCond .ne 6, 3) := by decide +kernel
theorem d_LK_next_18 : decode prog_3_method_21_code 18 = .ok (.bipush (-5), 2) := by decide +kernel
theorem d_LK_next_20 : decode prog_3_method_21_code 20 = .ok (.ireturn, 1) := by decide +kernel
theorem d_LK_next_21 : decode prog_3_method_21_code 21 = .ok (.aload_n 0, 1) := by decide +kernel
theorem d_LK_next_22 : decode prog_3_method_21_code 22 = .ok (.getfield 17, 3) := by decide +kernel
theorem d_LK_next_25 : decode prog_3_method_21_code 25 = .ok (.iload_n 2, 1) := by decide +kernel
theorem d_LK_next_26 : decode prog_3_method_21_code 26 = .ok (.aaload, 1) := by decide +kernel
theorem d_LK_next_27 : decode prog_3_method_21_code 27 = .ok (.getfield 170, 3) := by decide +kernel
theorem d_LK_next_30 : decode prog_3_method_21_code 30 = .ok (.iload_n 1, 1) := by decide +kernel
theorem d_LK_next_31 : decode prog_3_method_21_code 31 = .ok (.if_icmp .ne 15, 3) := by decide +kernel
theorem d_LK_next_34 : decode prog_3_method_21_code 34 = .ok (.aload_n 0, 1) := by decide +kernel
theorem d_LK_next_35 : decode prog_3_method_21_code 35 = .ok (.getfield 17, 3) := by decide +kernel
theorem d_LK_next_38 : decode prog_3_method_21_code 38 = .ok (.iload_n 2, 1) := by decide +kernel
theorem d_LK_next_39 : decode prog_3_method_21_code 39 = .ok (.aaload, 1) := by decide +kernel
theorem d_LK_next_40 : decode prog_3_method_21_code 40 = .ok (.getfield 173, 3) := by decide +kernel
theorem d_LK_next_43 : decode prog_3_method_21_code 43 = .ok (.goto 12, 3) := by decide +kernel
theorem d_LK_next_46 : decode prog_3_method_21_code 46 = .ok (.aload_n 0, 1) := by decide +kernel
theorem d_LK_next_47 : decode prog_3_method_21_code 47 = .ok (.getfield 17, 3) := by decide +kernel
theorem d_LK_next_50 : decode prog_3_method_21_code 50 = .ok (.iload_n 2, 1) := by decide +kernel
theorem d_LK_next_51 : decode prog_3_method_21_code 51 = .ok (.aaload, 1) := by decide +kernel
theorem d_LK_next_52 : decode prog_3_method_21_code 52 = .ok (.getfield 170, 3) := by decide +kernel
theorem d_LK_next_55 : decode prog_3_method_21_code 55 = .ok (.istore_n 3, 1) := by decide +kernel
theorem d_LK_next_56 : decode prog_3_method_21_code 56 = .ok (.aload_n 0, 1) := by decide +kernel
theorem d_LK_next_57 : decode prog_3_method_21_code 57 = .ok (.iload_n 3, 1) := by decide +kernel
theorem d_LK_next_58 : decode prog_3_method_21_code 58 = .ok (.invokevirtual 36, 3) := by decide +kernel
theorem d_LK_next_61 : decode prog_3_method_21_code 61 = .ok (.ifCond .ne 6, 3) := by decide +kernel
theorem d_LK_next_64 : decode prog_3_method_21_code 64 = .ok (.bipush (-5), 2) := by decide +kernel
theorem d_LK_next_66 : decode prog_3_method_21_code 66 = .ok (.ireturn, 1) := by decide +kernel
theorem d_LK_next_67 : decode prog_3_method_21_code 67 = .ok (.aload_n 0, 1) := by decide +kernel
theorem d_LK_next_68 : decode prog_3_method_21_code 68 = .ok (.getfield 17, 3) := by decide +kernel
theorem d_LK_next_71 : decode prog_3_method_21_code 71 = .ok (.iload_n 3, 1) := by decide +kernel
theorem d_LK_next_72 : decode prog_3_method_21_code 72 = .ok (.aaload, 1) := by decide +kernel
theorem d_LK_next_73 : decode prog_3_method_21_code 73 = .ok (.invokevirtual 176, 3) := by decide +kernel
theorem d_LK_next_76 : decode prog_3_method_21_code 76 = .ok (.ifCond .eq 27, 3) := by decide +kernel
theorem d_LK_next_79 : decode prog_3_method_21_code 79 = .ok (.aload_n 0, 1) := by decide +kernel
theorem d_LK_next_80 : decode prog_3_method_21_code 80 = .ok (.aload_n 0, 1) := by decide +kernel
theorem d_LK_next_81 : decode prog_3_method_21_code 81 = .ok (.getfield 17, 3) := by decide +kernel
theorem d_LK_next_84 : decode prog_3_method_21_code 84 = .ok (.iload_n 1, 1) := by decide +kernel
theorem d_LK_next_85 : decode prog_3_method_21_code 85 = .ok (.aaload, 1) := by decide +kernel
theorem d_LK_next_86 : decode prog_3_method_21_code 86 = .ok (.aload_n 0, 1) := by decide +kernel
theorem d_LK_next_87 : decode prog_3_method_21_code 87 = .ok (.getfield 17, 3) := by decide +kernel
theorem d_LK_next_90 : decode prog_3_method_21_code 90 = .ok (.iload_n 3, 1) := by decide +kernel
theorem d_LK_next_91 : decode prog_3_method_21_code 91 = .ok (.aaload, 1) := by decide +kernel
theorem d_LK_next_92 : decode prog_3_method_21_code 92 = .ok (.aload_n 0, 1) := by decide +kernel
theorem d_LK_next_93 : decode prog_3_method_21_code 93 = .ok (.getfield 17, 3) := by decide +kernel
theorem d_LK_next_96 : decode prog_3_method_21_code 96 = .ok (.iload_n 2, 1) := by decide +kernel
theorem d_LK_next_97 : decode prog_3_method_21_code 97 = .ok (.aaload, 1) := by decide +kernel
theorem d_LK_next_98 : decode prog_3_method_21_code 98 = .ok (.invokevirtual 179, 3) := by decide +kernel
theorem d_LK_next_101 : decode prog_3_method_21_code 101 = .ok (.iload_n 2, 1) := by decide +kernel
theorem d_LK_next_102 : decode prog_3_method_21_code 102 = .ok (.ireturn, 1) := by decide +kernel
theorem d_LK_next_103 : decode prog_3_method_21_code 103 = .ok (.aload_n 0, 1) := by decide +kernel
theorem d_LK_next_104 : decode prog_3_method_21_code 104 = .ok (.aload_n 0, 1) := by decide +kernel
theorem d_LK_next_105 : decode prog_3_method_21_code 105 = .ok (.getfield 9, 3) := by decide +kernel
theorem d_LK_next_108 : decode prog_3_method_21_code 108 = .ok (.aload_n 0, 1) := by decide +kernel
theorem d_LK_next_109 : decode prog_3_method_21_code 109 = .ok (.getfield 17, 3) := by decide +kernel
theorem d_LK_next_112 : decode prog_3_method_21_code 112 = .ok (.iload_n 1, 1) := by decide +kernel
theorem d_LK_next_113 : decode prog_3_method_21_code 113 = .ok (.aaload, 1) := by decide +kernel
theorem d_LK_next_114 : decode prog_3_method_21_code 114 = .ok (.getfield 40, 3) := by decide +kernel
theorem d_LK_next_117 : decode prog_3_method_21_code 117 = .ok (.aload_n 0, 1) := by decide +kernel
theorem d_LK_next_118 : decode prog_3_method_21_code 118 = .ok (.getfield 17, 3) := by decide +kernel
theorem d_LK_next_121 : decode prog_3_method_21_code 121 = .ok (.iload_n 3, 1) := by decide +kernel
theorem d_LK_next_122 : decode prog_3_method_21_code 122 = .ok (.aaload, 1) := by decide +kernel
theorem d_LK_next_123 : decode prog_3_method_21_code 123 = .ok (.getfield 67, 3) := by decide +kernel
theorem d_LK_next_126 : decode prog_3_method_21_code 126 = .ok (.invokevirtual 108, 3) := by decide +kernel
theorem d_LK_next_129 : decode prog_3_method_21_code 129 = .ok (.invokevirtual 146, 3) := by decide +kernel
theorem d_LK_next_132 : decode prog_3_method_21_code 132 = .ok (.ireturn, 1) := by decide +kernel
set_option maxHeartbeats 4000000 in
set_option maxRecDepth 100000 in
theorem w_LK_next (x1 : Int32)  (C : Cx prog_3_method_21_code 4 "LakeRelief$Lakes" (Option.some Jvm.ClassFile.FieldType.int) p s m args meth c) (hG : Geo D adr cA s) {res : Int32 × Mem} (hf : f_LK_next μ x1 = some res) (hq : ∀ (pc : Nat) (ls : Array Slot) (H : Heap) (locs : List Loc), decode prog_3_method_21_code pc = .ok (.ireturn, 1) → va_P D cls (wld adr cA res.2 ν) H → va_S (AA adr) s.heap H locs → W p l e rm_LK_next s m args below meth c H locs 0 0 Q (F0 m pc ls [.int res.1])) {H : Heap} {locs : List Loc} {ls : Array Slot} (hP : va_P D cls (wld adr cA μ ν) H) (hS : va_S (AA adr) s.heap H locs) (hl : lv_has ls 4 [(0, .ref (adr 26)), (1, .int x1)]) : W p l e rm_LK_next s m args below meth c H locs 0 0 Q (F0 m 0 ls []) := by
  obtain ⟨hx, hb, hml, hown, hts, hr, hlocks⟩ := id C
  unfold f_LK_next at hf
  refine lv_aload_n hx hb d_LK_next_0 rfl (lv_at hl 0 rfl) ?_
  refine g_LK_all hx hb hts hown hG hP (hts _ in_152) d_LK_next_1 ?_
  refine lv_iload_n hx hb d_LK_next_4 rfl (lv_at hl 1 rfl) ?_
  replace hf := G_some hf
  obtain ⟨hi1, hf⟩ := hf
  refine r_aLA hx hb hG hP hi1 d_LK_next_5 ?_
  refine g_LA_whole hx hb hts hown hG hP (vin_lt hi1) (hts _ in_118) d_LK_next_6 ?_
  refine lv_istore_n (lv' := [(2, .int (μ.1 (28 + x1.toNatClampNeg) 2)), (0, .ref (adr 26)), (1, .int x1)]) hx hb d_LK_next_9 rfl hl (by decide) rfl (fun ls hl => ?_)
  refine lv_aload_n hx hb d_LK_next_10 rfl (lv_at hl 1 rfl) ?_
  refine lv_iload_n hx hb d_LK_next_11 rfl (lv_at hl 0 rfl) ?_
  refine ki (kv (As := [.int (μ.1 (28 + x1.toNatClampNeg) 2)]) (rest := []) ⟨hx, hb, hml, hown, hts⟩ (cw_LK_36 hts ⟨Nat.le_of_ble_eq_true rfl, Nat.le_of_ble_eq_true rfl⟩) (c_LK_isLake l D adr cA μ ν (μ.1 (28 + x1.toNatClampNeg) 2)) hG hP (rc_o (q := 26) (ci := 1) hG hP (by decide) (wc_C (by decide) rfl) rfl) rfl hl.1 (Nat.le_of_ble_eq_true rfl) d_LK_next_12) hS (fun H locs hP hS => ?_)
  refine lv_if_ne (tgt := 21) hx hb d_LK_next_15 (by decide) (fun hc => ?_) (fun hc => ?_)
  · replace hf := if_n hc hf
    refine lv_aload_n hx hb d_LK_next_21 rfl (lv_at hl 1 rfl) ?_
    refine g_LK_all hx hb hts hown hG hP (hts _ in_152) d_LK_next_22 ?_
    refine lv_iload_n hx hb d_LK_next_25 rfl (lv_at hl 0 rfl) ?_
    replace hf := G_some hf
    obtain ⟨hi2, hf⟩ := hf
    refine r_aLA hx hb hG hP hi2 d_LK_next_26 ?_
    refine g_LA_lesserPart hx hb hts hown hG hP (vin_lt hi2) (hts _ in_122) d_LK_next_27 ?_
    refine lv_iload_n hx hb d_LK_next_30 rfl (lv_at hl 2 rfl) ?_
    replace hf := B_some hf
    obtain ⟨v3, hv3, hf⟩ := hf
    have hJ : ∀ (H : Heap) (locs : List Loc) (ls : Array Slot), va_P D cls (wld adr cA μ ν) H → va_S (AA adr) s.heap H locs → lv_has ls 4 [(0, .ref (adr 26)), (1, .int x1), (2, .int (μ.1 (28 + x1.toNatClampNeg) 2))] → W p l e rm_LK_next s m args below meth c H locs 0 0 Q (F0 m 55 ls [.int v3]) := by
      clear hv3
      intro H locs ls hP hS hl
      refine lv_istore_n (lv' := [(3, .int v3), (0, .ref (adr 26)), (1, .int x1), (2, .int (μ.1 (28 + x1.toNatClampNeg) 2))]) hx hb d_LK_next_55 rfl hl (by decide) rfl (fun ls hl => ?_)
      refine lv_aload_n hx hb d_LK_next_56 rfl (lv_at hl 1 rfl) ?_
      refine lv_iload_n hx hb d_LK_next_57 rfl (lv_at hl 0 rfl) ?_
      refine ki (kv (As := [.int v3]) (rest := []) ⟨hx, hb, hml, hown, hts⟩ (cw_LK_36 hts ⟨Nat.le_of_ble_eq_true rfl, Nat.le_of_ble_eq_true rfl⟩) (c_LK_isLake l D adr cA μ ν v3) hG hP (rc_o (q := 26) (ci := 1) hG hP (by decide) (wc_C (by decide) rfl) rfl) rfl hl.1 (Nat.le_of_ble_eq_true rfl) d_LK_next_58) hS (fun H locs hP hS => ?_)
      refine lv_if_ne (tgt := 67) hx hb d_LK_next_61 (by decide) (fun hc => ?_) (fun hc => ?_)
      · replace hf := if_n hc hf
        refine lv_aload_n hx hb d_LK_next_67 rfl (lv_at hl 1 rfl) ?_
        refine g_LK_all hx hb hts hown hG hP (hts _ in_152) d_LK_next_68 ?_
        refine lv_iload_n hx hb d_LK_next_71 rfl (lv_at hl 0 rfl) ?_
        replace hf := G_some hf
        obtain ⟨hi6, hf⟩ := hf
        refine r_aLA hx hb hG hP hi6 d_LK_next_72 ?_
        refine ki (kv (As := []) (rest := []) ⟨hx, hb, hml, hown, hts⟩ (cw_LK_176 hts ⟨Nat.le_of_ble_eq_true rfl, Nat.le_of_ble_eq_true rfl⟩) (c_LA_isFull l D adr cA μ ν v3.toNatClampNeg (vin_lt hi6)) hG hP (rc_o (q := (28 + v3.toNatClampNeg)) (ci := 0) hG hP (by have := (vin_lt hi6); omega) (wc_C (by have := (vin_lt hi6); omega) (sh_LA)) rfl) rfl hl.1 (Nat.le_of_ble_eq_true rfl) d_LK_next_73) hS (fun H locs hP hS => ?_)
        refine lv_if_eq (tgt := 103) hx hb d_LK_next_76 (by decide) (fun hc => ?_) (fun hc => ?_)
        · replace hf := if_p hc hf
          refine lv_aload_n hx hb d_LK_next_103 rfl (lv_at hl 1 rfl) ?_
          refine lv_aload_n hx hb d_LK_next_104 rfl (lv_at hl 1 rfl) ?_
          refine g_LK_relief hx hb hts hown hG hP (hts _ in_160) d_LK_next_105 ?_
          refine lv_aload_n hx hb d_LK_next_108 rfl (lv_at hl 1 rfl) ?_
          refine g_LK_all hx hb hts hown hG hP (hts _ in_152) d_LK_next_109 ?_
          refine lv_iload_n hx hb d_LK_next_112 rfl (lv_at hl 2 rfl) ?_
          replace hf := G_some hf
          obtain ⟨hi7, hf⟩ := hf
          refine r_aLA hx hb hG hP hi7 d_LK_next_113 ?_
          refine g_LA_rim hx hb hts hown hG hP (vin_lt hi7) (hts _ in_115) d_LK_next_114 ?_
          refine lv_aload_n hx hb d_LK_next_117 rfl (lv_at hl 1 rfl) ?_
          refine g_LK_all hx hb hts hown hG hP (hts _ in_152) d_LK_next_118 ?_
          refine lv_iload_n hx hb d_LK_next_121 rfl (lv_at hl 0 rfl) ?_
          replace hf := G_some hf
          obtain ⟨hi8, hf⟩ := hf
          refine r_aLA hx hb hG hP hi8 d_LK_next_122 ?_
          refine g_LA_fields hx hb hts hown hG hP (vin_lt hi8) (hts _ in_112) d_LK_next_123 ?_
          replace hf := B_some hf
          obtain ⟨v9, hv9, hf⟩ := hf
          refine ki (kv (As := [.int (μ.1 (28 + x1.toNatClampNeg) 1), .long (μ.2 (28 + v3.toNatClampNeg) 0)]) (rest := [.ref (adr 26)]) ⟨hx, hb, hml, hown, hts⟩ (cw_LK_108 hts ⟨Nat.le_of_ble_eq_true rfl, Nat.le_of_ble_eq_true rfl⟩) (c_RE_lowestBeside l D adr cA μ ν (μ.1 (28 + x1.toNatClampNeg) 1) (μ.2 (28 + v3.toNatClampNeg) 0) hv9) hG hP (rc_o (q := 18) (ci := 2) hG hP (by decide) (wc_C (by decide) rfl) rfl) rfl hl.1 (Nat.le_of_ble_eq_true rfl) d_LK_next_126) hS (fun H locs hP hS => ?_)
          replace hf := B_some hf
          obtain ⟨v10, hv10, hf⟩ := hf
          refine ki (kv (As := [.int v9]) (rest := []) ⟨hx, hb, hml, hown, hts⟩ (cw_LK_146 hts ⟨Nat.le_of_ble_eq_true rfl, Nat.le_of_ble_eq_true rfl⟩) (c_LK_lakeBelow l D adr cA μ ν v9 hv10) hG hP (rc_o (q := 26) (ci := 1) hG hP (by decide) (wc_C (by decide) rfl) rfl) rfl hl.1 (Nat.le_of_ble_eq_true rfl) d_LK_next_129) hS (fun H locs hP hS => ?_)
          obtain rfl := Option.some.inj hf
          exact hq _ _ _ _ d_LK_next_132 hP hS
        · replace hf := if_n hc hf
          refine lv_aload_n hx hb d_LK_next_79 rfl (lv_at hl 1 rfl) ?_
          refine lv_aload_n hx hb d_LK_next_80 rfl (lv_at hl 1 rfl) ?_
          refine g_LK_all hx hb hts hown hG hP (hts _ in_152) d_LK_next_81 ?_
          refine lv_iload_n hx hb d_LK_next_84 rfl (lv_at hl 2 rfl) ?_
          replace hf := G_some hf
          obtain ⟨hi11, hf⟩ := hf
          refine r_aLA hx hb hG hP hi11 d_LK_next_85 ?_
          refine lv_aload_n hx hb d_LK_next_86 rfl (lv_at hl 1 rfl) ?_
          refine g_LK_all hx hb hts hown hG hP (hts _ in_152) d_LK_next_87 ?_
          refine lv_iload_n hx hb d_LK_next_90 rfl (lv_at hl 0 rfl) ?_
          replace hf := G_some hf
          obtain ⟨hi12, hf⟩ := hf
          refine r_aLA hx hb hG hP hi12 d_LK_next_91 ?_
          refine lv_aload_n hx hb d_LK_next_92 rfl (lv_at hl 1 rfl) ?_
          refine g_LK_all hx hb hts hown hG hP (hts _ in_152) d_LK_next_93 ?_
          refine lv_iload_n hx hb d_LK_next_96 rfl (lv_at hl 3 rfl) ?_
          replace hf := G_some hf
          obtain ⟨hi13, hf⟩ := hf
          refine r_aLA hx hb hG hP hi13 d_LK_next_97 ?_
          refine kw (kv (As := [.ref (adr (28 + x1.toNatClampNeg)), .ref (adr (28 + v3.toNatClampNeg)), .ref (adr (28 + (μ.1 (28 + x1.toNatClampNeg) 2).toNatClampNeg))]) (rest := []) ⟨hx, hb, hml, hown, hts⟩ (cw_LK_179 hts ⟨Nat.le_of_ble_eq_true rfl, Nat.le_of_ble_eq_true rfl⟩) (c_LK_join l D adr cA μ ν x1.toNatClampNeg v3.toNatClampNeg ((μ.1 (28 + x1.toNatClampNeg) 2).toNatClampNeg) (vin_lt hi11) (vin_lt hi12) (vin_lt hi13)) hG hP (rc_o (q := 26) (ci := 1) hG hP (by decide) (wc_C (by decide) rfl) rfl) rfl hl.1 (Nat.le_of_ble_eq_true rfl) d_LK_next_98) hS (fun H locs hP hS => ?_)
          refine lv_iload_n hx hb d_LK_next_101 rfl (lv_at hl 3 rfl) ?_
          obtain rfl := Option.some.inj hf
          exact hq _ _ _ _ d_LK_next_102 hP hS
      · replace hf := if_p hc hf
        refine lv_bipush (v := (-5)) hx hb d_LK_next_64 (by decide) ?_
        obtain rfl := Option.some.inj hf
        exact hq _ _ _ _ d_LK_next_66 hP hS
    clear hf
    have hf := hv3
    clear hv3
    refine lv_icmp_ne (tgt := 46) hx hb d_LK_next_31 (by decide) (fun hc => ?_) (fun hc => ?_)
    · replace hf := if_n hc hf
      refine lv_aload_n hx hb d_LK_next_46 rfl (lv_at hl 1 rfl) ?_
      refine g_LK_all hx hb hts hown hG hP (hts _ in_152) d_LK_next_47 ?_
      refine lv_iload_n hx hb d_LK_next_50 rfl (lv_at hl 0 rfl) ?_
      replace hf := G_some hf
      obtain ⟨hi4, hf⟩ := hf
      refine r_aLA hx hb hG hP hi4 d_LK_next_51 ?_
      refine g_LA_lesserPart hx hb hts hown hG hP (vin_lt hi4) (hts _ in_122) d_LK_next_52 ?_
      obtain rfl := Option.some.inj hf
      exact hJ _ _ _ hP hS (lv_sub hl [1, 2, 0] rfl)
    · replace hf := if_p hc hf
      refine lv_aload_n hx hb d_LK_next_34 rfl (lv_at hl 1 rfl) ?_
      refine g_LK_all hx hb hts hown hG hP (hts _ in_152) d_LK_next_35 ?_
      refine lv_iload_n hx hb d_LK_next_38 rfl (lv_at hl 0 rfl) ?_
      replace hf := G_some hf
      obtain ⟨hi5, hf⟩ := hf
      refine r_aLA hx hb hG hP hi5 d_LK_next_39 ?_
      refine g_LA_greaterPart hx hb hts hown hG hP (vin_lt hi5) (hts _ in_125) d_LK_next_40 ?_
      refine lv_goto (tgt := 55) hx hb d_LK_next_43 (by decide) ?_
      obtain rfl := Option.some.inj hf
      exact hJ _ _ _ hP hS (lv_sub hl [1, 2, 0] rfl)
  · replace hf := if_p hc hf
    refine lv_bipush (v := (-5)) hx hb d_LK_next_18 (by decide) ?_
    obtain rfl := Option.some.inj hf
    exact hq _ _ _ _ d_LK_next_20 hP hS
theorem c_LK_next (l : Launch) (D : va_G) (adr : Nat → Nat) (cA : Nat → ClassId) (μ ν : Mem) (x1 : Int32)  {res : Int32 × Mem} (hf : f_LK_next μ x1 = some res) : Met l y_LK_next (Cond.code y_LK_next prog_3_method_21_code 4 (Option.some Jvm.ClassFile.FieldType.int) :: lw_ok) rm_LK_next (va_Pc [.ref (adr 26), .int x1] (Wd D adr cA μ ν)) (QI D adr cA res.1 res.2 ν) 0 0 (AA adr) :=
  met_of (own := "LakeRelief$Lakes") rfl rfl (Nat.le_of_ble_eq_true rfl) (fun p e s m below meth c C hG hP hS ls hl => w_LK_next x1  C hG hf (fun pc ls H locs hd hP hS => ret_i C.1 C.2.1 C.2.2.2.2.2.1 C.2.2.2.2.2.2 hG hd hP hS) hP hS hl)
end X_LK_next
section X_LK_runDown
variable {p : Program} {l : Launch} {e : Env} {s : State} {m : MethodId} {args : Array Value} {below : List Frame} {meth : Method} {c : Code} {Q : State → Prop}
variable {D : va_G} {adr : Nat → Nat} {cA : Nat → ClassId} {μ ν : Mem}
theorem d_LK_runDown_0 : decode prog_3_method_19_code 0 = .ok (.iload_n 2, 1) := by decide +kernel
theorem d_LK_runDown_1 : decode prog_3_method_19_code 1 = .ok (.istore_n 3, 1) := by decide +kernel
theorem d_LK_runDown_2 : decode prog_3_method_19_code 2 = .ok (.iload_n 1, 1) := by decide +kernel
theorem d_LK_runDown_3 : decode prog_3_method_19_code 3 = .ok (.istore 4, 2) := by decide +kernel
theorem d_LK_runDown_5 : decode prog_3_method_19_code 5 = .ok (.iconst 0, 1) := by decide +kernel
theorem d_LK_runDown_6 : decode prog_3_method_19_code 6 = .ok (.istore 5, 2) := by decide +kernel
theorem d_LK_runDown_8 : decode prog_3_method_19_code 8 = .ok (.iload 5, 2) := by decide +kernel
theorem d_LK_runDown_10 : decode prog_3_method_19_code 10 = .ok (.bipush 35, 2) := by decide +kernel
theorem d_LK_runDown_12 : decode prog_3_method_19_code 12 = .ok (.if_icmp .gt 49, 3) := by decide +kernel
theorem d_LK_runDown_15 : decode prog_3_method_19_code 15 = .ok (.iload_n 3, 1) := by decide +kernel
theorem d_LK_runDown_16 : decode prog_3_method_19_code 16 = .ok (.ifCond .le 45, 3) := by decide +kernel
theorem d_LK_runDown_19 : decode prog_3_method_19_code 19 = .ok (.aload_n 0, 1) := by decide +kernel
theorem d_LK_runDown_20 : decode prog_3_method_19_code 20 = .ok (.iload 4, 2) := by decide +kernel
theorem d_LK_runDown_22 : decode prog_3_method_19_code 22 = .ok (.invokevirtual 36, 3) := by decide +kernel
theorem d_LK_runDown_25 : decode prog_3_method_19_code 25 = .ok (.ifCond .eq 36, 3) := by decide +kernel
theorem d_LK_runDown_28 : decode prog_3_method_19_code 28 = .ok (.iload_n 3, 1) := by decide +kernel
theorem d_LK_runDown_29 : decode prog_3_method_19_code 29 = .ok (.aload_n 0, 1) := by decide +kernel
theorem d_LK_runDown_30 : decode prog_3_method_19_code 30 = .ok (.aload_n 0, 1) := by decide +kernel
theorem d_LK_runDown_31 : decode prog_3_method_19_code 31 = .ok (.getfield 17, 3) := by decide +kernel
theorem d_LK_runDown_34 : decode prog_3_method_19_code 34 = .ok (.iload 4, 2) := by decide +kernel
theorem d_LK_runDown_36 : decode prog_3_method_19_code 36 = .ok (.aaload, 1) := by decide +kernel
theorem d_LK_runDown_37 : decode prog_3_method_19_code 37 = .ok (.iload_n 3, 1) := by decide +kernel
theorem d_LK_runDown_38 : decode prog_3_method_19_code 38 = .ok (.invokevirtual 158, 3) := by decide +kernel
theorem d_LK_runDown_41 : decode prog_3_method_19_code 41 = .ok (.isub, 1) := by decide +kernel
theorem d_LK_runDown_42 : decode prog_3_method_19_code 42 = .ok (.istore_n 3, 1) := by decide +kernel
theorem d_LK_runDown_43 : decode prog_3_method_19_code 43 = .ok (.iload_n 3, 1) := by decide +kernel
theorem d_LK_runDown_44 : decode prog_3_method_19_code 44 = .ok (.ifCond .le 11, 3) := by decide +kernel
theorem d_LK_runDown_47 : decode prog_3_method_19_code 47 = .ok (.aload_n 0, 1) := by decide +kernel
theorem d_LK_runDown_48 : decode prog_3_method_19_code 48 = .ok (.iload 4, 2) := by decide +kernel
theorem d_LK_runDown_50 : decode prog_3_method_19_code 50 = .ok (.invokevirtual 162, 3) := by decide +kernel
theorem d_LK_runDown_53 : decode prog_3_method_19_code 53 = .ok (.istore 4, 2) := by decide +kernel
theorem d_LK_runDown_55 : decode prog_3_method_19_code 55 = .ok (.iinc 5 1, 3) := by decide +kernel
theorem d_LK_runDown_58 : decode prog_3_method_19_code 58 = .ok (.goto (-50), 3) := by decide +kernel
theorem d_LK_runDown_61 : decode prog_3_method_19_code 61 = .ok (.iload_n 3, 1) := by decide +kernel
theorem d_LK_runDown_62 : decode prog_3_method_19_code 62 = .ok (.ireturn, 1) := by decide +kernel
set_option maxHeartbeats 4000000 in
set_option maxRecDepth 100000 in
theorem w_LK_runDown_L8   (C : Cx prog_3_method_19_code 6 "LakeRelief$Lakes" (Option.some Jvm.ClassFile.FieldType.int) p s m args meth c) (hG : Geo D adr cA s) (v : Int32 × Mem) (hE : ∀ (H : Heap) (locs : List Loc) (ls : Array Slot), va_P D cls (wld adr cA v.2 ν) H → va_S (AA adr) s.heap H locs → lv_has ls 6 [(3, .int v.1)] → W p l e rm_LK_runDown s m args below meth c H locs 0 0 Q (F0 m 61 ls [])) : ∀ (n : Nat) (μ : Mem) (y3 : Int32) (y4 : Int32) (y5 : Int32), f_LK_runDown_L8 n μ y3 y4 y5 = some v → ∀ {H : Heap} {locs : List Loc} {ls : Array Slot}, va_P D cls (wld adr cA μ ν) H → va_S (AA adr) s.heap H locs → lv_has ls 6 [(0, .ref (adr 26)), (3, .int y3), (4, .int y4), (5, .int y5)] → W p l e rm_LK_runDown s m args below meth c H locs 0 0 Q (F0 m 8 ls []) := by
  obtain ⟨hx, hb, hml, hown, hts, hr, hlocks⟩ := id C
  intro n
  induction n with
  | zero => intro μ y3 y4 y5 hf; rw [f_LK_runDown_L8.eq_1] at hf; cases hf
  | succ n ih =>
    intro μ y3 y4 y5 hf H locs ls hP hS hl
    rw [f_LK_runDown_L8.eq_2] at hf
    refine lv_iload hx hb d_LK_runDown_8 (lv_at hl 3 rfl) ?_
    refine lv_bipush (v := 35) hx hb d_LK_runDown_10 (by decide) ?_
    refine lv_icmp_gt (tgt := 61) hx hb d_LK_runDown_12 (by decide) (fun hc => ?_) (fun hc => ?_)
    · replace hf := if_p hc hf
      obtain rfl := Option.some.inj hf
      exact hE _ _ _ hP hS (lv_sub hl [1] rfl)
    · replace hf := if_n hc hf
      refine lv_iload_n hx hb d_LK_runDown_15 rfl (lv_at hl 1 rfl) ?_
      refine lv_if_le (tgt := 61) hx hb d_LK_runDown_16 (by decide) (fun hc => ?_) (fun hc => ?_)
      · replace hf := if_p hc hf
        obtain rfl := Option.some.inj hf
        exact hE _ _ _ hP hS (lv_sub hl [1] rfl)
      · replace hf := if_n hc hf
        refine lv_aload_n hx hb d_LK_runDown_19 rfl (lv_at hl 0 rfl) ?_
        refine lv_iload hx hb d_LK_runDown_20 (lv_at hl 2 rfl) ?_
        refine ki (kv (As := [.int y4]) (rest := []) ⟨hx, hb, hml, hown, hts⟩ (cw_LK_36 hts ⟨Nat.le_of_ble_eq_true rfl, Nat.le_of_ble_eq_true rfl⟩) (c_LK_isLake l D adr cA μ ν y4) hG hP (rc_o (q := 26) (ci := 1) hG hP (by decide) (wc_C (by decide) rfl) rfl) rfl hl.1 (Nat.le_of_ble_eq_true rfl) d_LK_runDown_22) hS (fun H locs hP hS => ?_)
        refine lv_if_eq (tgt := 61) hx hb d_LK_runDown_25 (by decide) (fun hc => ?_) (fun hc => ?_)
        · replace hf := if_p hc hf
          obtain rfl := Option.some.inj hf
          exact hE _ _ _ hP hS (lv_sub hl [1] rfl)
        · replace hf := if_n hc hf
          refine lv_iload_n hx hb d_LK_runDown_28 rfl (lv_at hl 1 rfl) ?_
          refine lv_aload_n hx hb d_LK_runDown_29 rfl (lv_at hl 0 rfl) ?_
          refine lv_aload_n hx hb d_LK_runDown_30 rfl (lv_at hl 0 rfl) ?_
          refine g_LK_all hx hb hts hown hG hP (hts _ in_152) d_LK_runDown_31 ?_
          refine lv_iload hx hb d_LK_runDown_34 (lv_at hl 2 rfl) ?_
          replace hf := G_some hf
          obtain ⟨hi1, hf⟩ := hf
          refine r_aLA hx hb hG hP hi1 d_LK_runDown_36 ?_
          refine lv_iload_n hx hb d_LK_runDown_37 rfl (lv_at hl 1 rfl) ?_
          refine ki (kv (As := [.ref (adr (28 + y4.toNatClampNeg)), .int y3]) (rest := [.int y3]) ⟨hx, hb, hml, hown, hts⟩ (cw_LK_158 hts ⟨Nat.le_of_ble_eq_true rfl, Nat.le_of_ble_eq_true rfl⟩) (c_LK_fillUp l D adr cA μ ν y4.toNatClampNeg y3 (vin_lt hi1)) hG hP (rc_o (q := 26) (ci := 1) hG hP (by decide) (wc_C (by decide) rfl) rfl) rfl hl.1 (Nat.le_of_ble_eq_true rfl) d_LK_runDown_38) hS (fun H locs hP hS => ?_)
          refine lv_isub hx hb d_LK_runDown_41 ?_
          refine lv_istore_n (lv' := [(3, .int (y3 - (f_LK_fillUp μ y4.toNatClampNeg y3).1)), (0, .ref (adr 26)), (4, .int y4), (5, .int y5)]) hx hb d_LK_runDown_42 rfl hl (by decide) rfl (fun ls hl => ?_)
          refine lv_iload_n hx hb d_LK_runDown_43 rfl (lv_at hl 0 rfl) ?_
          replace hf := B_some hf
          obtain ⟨v2, hv2, hf⟩ := hf
          have hJ : ∀ (H : Heap) (locs : List Loc) (ls : Array Slot), va_P D cls (wld adr cA v2.2 ν) H → va_S (AA adr) s.heap H locs → lv_has ls 6 [(0, .ref (adr 26)), (3, .int (y3 - (f_LK_fillUp μ y4.toNatClampNeg y3).1)), (4, .int v2.1), (5, .int y5)] → W p l e rm_LK_runDown s m args below meth c H locs 0 0 Q (F0 m 55 ls []) := by
            clear hv2
            intro H locs ls hP hS hl
            refine lv_iinc (v := (y5 + 1)) (lv' := [(5, .int (y5 + 1)), (0, .ref (adr 26)), (3, .int (y3 - (f_LK_fillUp μ y4.toNatClampNeg y3).1)), (4, .int v2.1)]) hx hb d_LK_runDown_55 hl (k := 3) rfl rfl (by decide) rfl (fun ls hl => ?_)
            refine lv_goto (tgt := 8) hx hb d_LK_runDown_58 (by decide) ?_
            exact ih _ _ _ _ hf hP hS (lv_sub hl [1, 2, 3, 0] rfl)
          clear hf
          have hf := hv2
          clear hv2
          refine lv_if_le (tgt := 55) hx hb d_LK_runDown_44 (by decide) (fun hc => ?_) (fun hc => ?_)
          · replace hf := if_p hc hf
            obtain rfl := Option.some.inj hf
            exact hJ _ _ _ hP hS (lv_sub hl [1, 0, 2, 3] rfl)
          · replace hf := if_n hc hf
            refine lv_aload_n hx hb d_LK_runDown_47 rfl (lv_at hl 1 rfl) ?_
            refine lv_iload hx hb d_LK_runDown_48 (lv_at hl 2 rfl) ?_
            replace hf := B_some hf
            obtain ⟨v3, hv3, hf⟩ := hf
            refine ki (kv (As := [.int y4]) (rest := []) ⟨hx, hb, hml, hown, hts⟩ (cw_LK_162 hts ⟨Nat.le_of_ble_eq_true rfl, Nat.le_of_ble_eq_true rfl⟩) (c_LK_next l D adr cA ((f_LK_fillUp μ y4.toNatClampNeg y3).2) ν y4 hv3) hG hP (rc_o (q := 26) (ci := 1) hG hP (by decide) (wc_C (by decide) rfl) rfl) rfl hl.1 (Nat.le_of_ble_eq_true rfl) d_LK_runDown_50) hS (fun H locs hP hS => ?_)
            refine lv_istore (lv' := [(4, .int v3.1), (3, .int (y3 - (f_LK_fillUp μ y4.toNatClampNeg y3).1)), (0, .ref (adr 26)), (5, .int y5)]) hx hb d_LK_runDown_53 hl (by decide) rfl (fun ls hl => ?_)
            obtain rfl := Option.some.inj hf
            exact hJ _ _ _ hP hS (lv_sub hl [2, 1, 0, 3] rfl)
set_option maxHeartbeats 4000000 in
set_option maxRecDepth 100000 in
theorem w_LK_runDown (x1 : Int32) (x2 : Int32)  (C : Cx prog_3_method_19_code 6 "LakeRelief$Lakes" (Option.some Jvm.ClassFile.FieldType.int) p s m args meth c) (hG : Geo D adr cA s) {res : Int32 × Mem} (hf : f_LK_runDown μ x1 x2 = some res) (hq : ∀ (pc : Nat) (ls : Array Slot) (H : Heap) (locs : List Loc), decode prog_3_method_19_code pc = .ok (.ireturn, 1) → va_P D cls (wld adr cA res.2 ν) H → va_S (AA adr) s.heap H locs → W p l e rm_LK_runDown s m args below meth c H locs 0 0 Q (F0 m pc ls [.int res.1])) {H : Heap} {locs : List Loc} {ls : Array Slot} (hP : va_P D cls (wld adr cA μ ν) H) (hS : va_S (AA adr) s.heap H locs) (hl : lv_has ls 6 [(0, .ref (adr 26)), (1, .int x1), (2, .int x2)]) : W p l e rm_LK_runDown s m args below meth c H locs 0 0 Q (F0 m 0 ls []) := by
  obtain ⟨hx, hb, hml, hown, hts, hr, hlocks⟩ := id C
  unfold f_LK_runDown at hf
  refine lv_iload_n hx hb d_LK_runDown_0 rfl (lv_at hl 2 rfl) ?_
  refine lv_istore_n (lv' := [(3, .int x2), (0, .ref (adr 26)), (1, .int x1), (2, .int x2)]) hx hb d_LK_runDown_1 rfl hl (by decide) rfl (fun ls hl => ?_)
  refine lv_iload_n hx hb d_LK_runDown_2 rfl (lv_at hl 2 rfl) ?_
  refine lv_istore (lv' := [(4, .int x1), (3, .int x2), (0, .ref (adr 26)), (1, .int x1), (2, .int x2)]) hx hb d_LK_runDown_3 hl (by decide) rfl (fun ls hl => ?_)
  refine lv_iconst (v := 0) hx hb d_LK_runDown_5 (by decide) ?_
  refine lv_istore (lv' := [(5, .int 0), (4, .int x1), (3, .int x2), (0, .ref (adr 26)), (1, .int x1), (2, .int x2)]) hx hb d_LK_runDown_6 hl (by decide) rfl (fun ls hl => ?_)
  replace hf := B_some hf
  obtain ⟨v4, hv4, hf⟩ := hf
  refine w_LK_runDown_L8   C hG v4 ?_ FU _ _ _ _ hv4 hP hS (lv_sub hl [3, 2, 1, 0] rfl)
  clear hv4 hP hS hl
  intro H locs ls hP hS hl
  refine lv_iload_n hx hb d_LK_runDown_61 rfl (lv_at hl 0 rfl) ?_
  obtain rfl := Option.some.inj hf
  exact hq _ _ _ _ d_LK_runDown_62 hP hS
theorem c_LK_runDown (l : Launch) (D : va_G) (adr : Nat → Nat) (cA : Nat → ClassId) (μ ν : Mem) (x1 : Int32) (x2 : Int32)  {res : Int32 × Mem} (hf : f_LK_runDown μ x1 x2 = some res) : Met l y_LK_runDown (Cond.code y_LK_runDown prog_3_method_19_code 6 (Option.some Jvm.ClassFile.FieldType.int) :: lw_ok) rm_LK_runDown (va_Pc [.ref (adr 26), .int x1, .int x2] (Wd D adr cA μ ν)) (QI D adr cA res.1 res.2 ν) 0 0 (AA adr) :=
  met_of (own := "LakeRelief$Lakes") rfl rfl (Nat.le_of_ble_eq_true rfl) (fun p e s m below meth c C hG hP hS ls hl => w_LK_runDown x1 x2  C hG hf (fun pc ls H locs hd hP hS => ret_i C.1 C.2.1 C.2.2.2.2.2.1 C.2.2.2.2.2.2 hG hd hP hS) hP hS hl)
end X_LK_runDown
section X_LK_takeGrains
variable {p : Program} {l : Launch} {e : Env} {s : State} {m : MethodId} {args : Array Value} {below : List Frame} {meth : Method} {c : Code} {Q : State → Prop}
variable {D : va_G} {adr : Nat → Nat} {cA : Nat → ClassId} {μ ν : Mem}
theorem d_LK_takeGrains_0 : decode prog_3_method_17_code 0 = .ok (.aload_n 0, 1) := by decide +kernel
theorem d_LK_takeGrains_1 : decode prog_3_method_17_code 1 = .ok (.aload_n 0, 1) := by decide +kernel
theorem d_LK_takeGrains_2 : decode prog_3_method_17_code 2 = .ok (.iload_n 1, 1) := by decide +kernel
theorem d_LK_takeGrains_3 : decode prog_3_method_17_code 3 = .ok (.invokevirtual 146, 3) := by decide +kernel
theorem d_LK_takeGrains_6 : decode prog_3_method_17_code 6 = .ok (.iload_n 2, 1) := by decide +kernel
theorem d_LK_takeGrains_7 : decode prog_3_method_17_code 7 = .ok (.invokevirtual 149, 3) := by decide +kernel
theorem d_LK_takeGrains_10 : decode prog_3_method_17_code 10 = .ok (.istore_n 3, 1) := by decide +kernel
theorem d_LK_takeGrains_11 : decode prog_3_method_17_code 11 = .ok (.aload_n 0, 1) := by decide +kernel
theorem d_LK_takeGrains_12 : decode prog_3_method_17_code 12 = .ok (.dup, 1) := by decide +kernel
theorem d_LK_takeGrains_13 : decode prog_3_method_17_code 13 = .ok (.getfield 30, 3) := by decide +kernel
theorem d_LK_takeGrains_16 : decode prog_3_method_17_code 16 = .ok (.iload_n 2, 1) := by decide +kernel
theorem d_LK_takeGrains_17 : decode prog_3_method_17_code 17 = .ok (.i2l, 1) := by decide +kernel
theorem d_LK_takeGrains_18 : decode prog_3_method_17_code 18 = .ok (.ladd, 1) := by decide +kernel
theorem d_LK_takeGrains_19 : decode prog_3_method_17_code 19 = .ok (.putfield 30, 3) := by decide +kernel
theorem d_LK_takeGrains_22 : decode prog_3_method_17_code 22 = .ok (.aload_n 0, 1) := by decide +kernel
theorem d_LK_takeGrains_23 : decode prog_3_method_17_code 23 = .ok (.dup, 1) := by decide +kernel
theorem d_LK_takeGrains_24 : decode prog_3_method_17_code 24 = .ok (.getfield 26, 3) := by decide +kernel
theorem d_LK_takeGrains_27 : decode prog_3_method_17_code 27 = .ok (.iload_n 3, 1) := by decide +kernel
theorem d_LK_takeGrains_28 : decode prog_3_method_17_code 28 = .ok (.i2l, 1) := by decide +kernel
theorem d_LK_takeGrains_29 : decode prog_3_method_17_code 29 = .ok (.ladd, 1) := by decide +kernel
theorem d_LK_takeGrains_30 : decode prog_3_method_17_code 30 = .ok (.putfield 26, 3) := by decide +kernel
theorem d_LK_takeGrains_33 : decode prog_3_method_17_code 33 = .ok (.iload_n 3, 1) := by decide +kernel
theorem d_LK_takeGrains_34 : decode prog_3_method_17_code 34 = .ok (.ireturn, 1) := by decide +kernel
set_option maxHeartbeats 4000000 in
set_option maxRecDepth 100000 in
theorem w_LK_takeGrains (x1 : Int32) (x2 : Int32)  (C : Cx prog_3_method_17_code 4 "LakeRelief$Lakes" (Option.some Jvm.ClassFile.FieldType.int) p s m args meth c) (hG : Geo D adr cA s) {res : Int32 × Mem} (hf : f_LK_takeGrains μ x1 x2 = some res) (hq : ∀ (pc : Nat) (ls : Array Slot) (H : Heap) (locs : List Loc), decode prog_3_method_17_code pc = .ok (.ireturn, 1) → va_P D cls (wld adr cA res.2 ν) H → va_S (AA adr) s.heap H locs → W p l e rm_LK_takeGrains s m args below meth c H locs 0 0 Q (F0 m pc ls [.int res.1])) {H : Heap} {locs : List Loc} {ls : Array Slot} (hP : va_P D cls (wld adr cA μ ν) H) (hS : va_S (AA adr) s.heap H locs) (hl : lv_has ls 4 [(0, .ref (adr 26)), (1, .int x1), (2, .int x2)]) : W p l e rm_LK_takeGrains s m args below meth c H locs 0 0 Q (F0 m 0 ls []) := by
  obtain ⟨hx, hb, hml, hown, hts, hr, hlocks⟩ := id C
  unfold f_LK_takeGrains at hf
  refine lv_aload_n hx hb d_LK_takeGrains_0 rfl (lv_at hl 0 rfl) ?_
  refine lv_aload_n hx hb d_LK_takeGrains_1 rfl (lv_at hl 0 rfl) ?_
  refine lv_iload_n hx hb d_LK_takeGrains_2 rfl (lv_at hl 1 rfl) ?_
  replace hf := B_some hf
  obtain ⟨v1, hv1, hf⟩ := hf
  refine ki (kv (As := [.int x1]) (rest := [.ref (adr 26)]) ⟨hx, hb, hml, hown, hts⟩ (cw_LK_146 hts ⟨Nat.le_of_ble_eq_true rfl, Nat.le_of_ble_eq_true rfl⟩) (c_LK_lakeBelow l D adr cA μ ν x1 hv1) hG hP (rc_o (q := 26) (ci := 1) hG hP (by decide) (wc_C (by decide) rfl) rfl) rfl hl.1 (Nat.le_of_ble_eq_true rfl) d_LK_takeGrains_3) hS (fun H locs hP hS => ?_)
  refine lv_iload_n hx hb d_LK_takeGrains_6 rfl (lv_at hl 2 rfl) ?_
  replace hf := B_some hf
  obtain ⟨v2, hv2, hf⟩ := hf
  refine ki (kv (As := [.int v1, .int x2]) (rest := []) ⟨hx, hb, hml, hown, hts⟩ (cw_LK_149 hts ⟨Nat.le_of_ble_eq_true rfl, Nat.le_of_ble_eq_true rfl⟩) (c_LK_runDown l D adr cA μ ν v1 x2 hv2) hG hP (rc_o (q := 26) (ci := 1) hG hP (by decide) (wc_C (by decide) rfl) rfl) rfl hl.1 (Nat.le_of_ble_eq_true rfl) d_LK_takeGrains_7) hS (fun H locs hP hS => ?_)
  refine lv_istore_n (lv' := [(3, .int v2.1), (0, .ref (adr 26)), (1, .int x1), (2, .int x2)]) hx hb d_LK_takeGrains_10 rfl hl (by decide) rfl (fun ls hl => ?_)
  refine lv_aload_n hx hb d_LK_takeGrains_11 rfl (lv_at hl 1 rfl) ?_
  refine lv_dup hx hb d_LK_takeGrains_12 rfl ?_
  refine g_LK_poured hx hb hts hown hG hP (hts _ in_158) d_LK_takeGrains_13 ?_
  refine lv_iload_n hx hb d_LK_takeGrains_16 rfl (lv_at hl 3 rfl) ?_
  refine lv_i2l hx hb d_LK_takeGrains_17 rfl ?_
  refine lv_ladd hx hb d_LK_takeGrains_18 ?_
  refine p_LK_poured hx hb hts hown hG hP hS (hts _ in_158) d_LK_takeGrains_19 (fun H locs hP hS => ?_)
  refine lv_aload_n hx hb d_LK_takeGrains_22 rfl (lv_at hl 1 rfl) ?_
  refine lv_dup hx hb d_LK_takeGrains_23 rfl ?_
  refine g_LK_gone hx hb hts hown hG hP (hts _ in_156) d_LK_takeGrains_24 ?_
  refine lv_iload_n hx hb d_LK_takeGrains_27 rfl (lv_at hl 0 rfl) ?_
  refine lv_i2l hx hb d_LK_takeGrains_28 rfl ?_
  refine lv_ladd hx hb d_LK_takeGrains_29 ?_
  refine p_LK_gone hx hb hts hown hG hP hS (hts _ in_156) d_LK_takeGrains_30 (fun H locs hP hS => ?_)
  refine lv_iload_n hx hb d_LK_takeGrains_33 rfl (lv_at hl 0 rfl) ?_
  obtain rfl := Option.some.inj hf
  exact hq _ _ _ _ d_LK_takeGrains_34 hP hS
theorem c_LK_takeGrains (l : Launch) (D : va_G) (adr : Nat → Nat) (cA : Nat → ClassId) (μ ν : Mem) (x1 : Int32) (x2 : Int32)  {res : Int32 × Mem} (hf : f_LK_takeGrains μ x1 x2 = some res) : Met l y_LK_takeGrains (Cond.code y_LK_takeGrains prog_3_method_17_code 4 (Option.some Jvm.ClassFile.FieldType.int) :: lw_ok) rm_LK_takeGrains (va_Pc [.ref (adr 26), .int x1, .int x2] (Wd D adr cA μ ν)) (QI D adr cA res.1 res.2 ν) 0 0 (AA adr) :=
  met_of (own := "LakeRelief$Lakes") rfl rfl (Nat.le_of_ble_eq_true rfl) (fun p e s m below meth c C hG hP hS ls hl => w_LK_takeGrains x1 x2  C hG hf (fun pc ls H locs hd hP hS => ret_i C.1 C.2.1 C.2.2.2.2.2.1 C.2.2.2.2.2.2 hG hd hP hS) hP hS hl)
end X_LK_takeGrains
section X_RE_flood
variable {p : Program} {l : Launch} {e : Env} {s : State} {m : MethodId} {args : Array Value} {below : List Frame} {meth : Method} {c : Code} {Q : State → Prop}
variable {D : va_G} {adr : Nat → Nat} {cA : Nat → ClassId} {μ ν : Mem}
theorem d_RE_flood_0 : decode prog_4_method_2_code 0 = .ok (.aload_n 0, 1) := by decide +kernel
theorem d_RE_flood_1 : decode prog_4_method_2_code 1 = .ok (.iload_n 1, 1) := by decide +kernel
theorem d_RE_flood_2 : decode prog_4_method_2_code 2 = .ok (.putfield 33, 3) := by decide +kernel
theorem d_RE_flood_5 : decode prog_4_method_2_code 5 = .ok (.aload_n 0, 1) := by decide +kernel
theorem d_RE_flood_6 : decode prog_4_method_2_code 6 = .ok (.iload_n 1, 1) := by decide +kernel
theorem d_RE_flood_7 : decode prog_4_method_2_code 7 = .ok (.iload_n 2, 1) := by decide +kernel
theorem d_RE_flood_8 : decode prog_4_method_2_code 8 = .ok (.imul, 1) := by decide +kernel
theorem d_RE_flood_9 : decode prog_4_method_2_code 9 = .ok (.putfield 37, 3) := by decide +kernel
theorem d_RE_flood_12 : decode prog_4_method_2_code 12 = .ok (.aload_n 0, 1) := by decide +kernel
theorem d_RE_flood_13 : decode prog_4_method_2_code 13 = .ok (.iconst 0, 1) := by decide +kernel
theorem d_RE_flood_14 : decode prog_4_method_2_code 14 = .ok (.putfield 40, 3) := by decide +kernel
theorem d_RE_flood_17 : decode prog_4_method_2_code 17 = .ok (.aload_n 0, 1) := by decide +kernel
theorem d_RE_flood_18 : decode prog_4_method_2_code 18 = .ok (.lconst 0, 1) := by decide +kernel
theorem d_RE_flood_19 : decode prog_4_method_2_code 19 = .ok (.putfield 43, 3) := by decide +kernel
theorem d_RE_flood_22 : decode prog_4_method_2_code 22 = .ok (.iconst 0, 1) := by decide +kernel
theorem d_RE_flood_23 : decode prog_4_method_2_code 23 = .ok (.istore_n 3, 1) := by decide +kernel
theorem d_RE_flood_24 : decode prog_4_method_2_code 24 = .ok (.iload_n 3, 1) := by decide +kernel
theorem d_RE_flood_25 : decode prog_4_method_2_code 25 = .ok (.bipush 64, 2) := by decide +kernel
theorem d_RE_flood_27 : decode prog_4_method_2_code 27 = .ok (.if_icmp .ge 39, 3) := by decide +kernel
theorem d_RE_flood_30 : decode prog_4_method_2_code 30 = .ok (.aload_n 0, 1) := by decide +kernel
theorem d_RE_flood_31 : decode prog_4_method_2_code 31 = .ok (.getfield 9, 3) := by decide +kernel
theorem d_RE_flood_34 : decode prog_4_method_2_code 34 = .ok (.iload_n 3, 1) := by decide +kernel
theorem d_RE_flood_35 : decode prog_4_method_2_code 35 = .ok (.iconst 0, 1) := by decide +kernel
theorem d_RE_flood_36 : decode prog_4_method_2_code 36 = .ok (.iastore, 1) := by decide +kernel
theorem d_RE_flood_37 : decode prog_4_method_2_code 37 = .ok (.aload_n 0, 1) := by decide +kernel
theorem d_RE_flood_38 : decode prog_4_method_2_code 38 = .ok (.getfield 15, 3) := by decide +kernel
theorem d_RE_flood_41 : decode prog_4_method_2_code 41 = .ok (.iload_n 3, 1) := by decide +kernel
theorem d_RE_flood_42 : decode prog_4_method_2_code 42 = .ok (.bipush (-5), 2) := by decide +kernel
theorem d_RE_flood_44 : decode prog_4_method_2_code 44 = .ok (.iastore, 1) := by decide +kernel
theorem d_RE_flood_45 : decode prog_4_method_2_code 45 = .ok (.aload_n 0, 1) := by decide +kernel
theorem d_RE_flood_46 : decode prog_4_method_2_code 46 = .ok (.getfield 18, 3) := by decide +kernel
theorem d_RE_flood_49 : decode prog_4_method_2_code 49 = .ok (.iload_n 3, 1) := by decide +kernel
theorem d_RE_flood_50 : decode prog_4_method_2_code 50 = .ok (.bipush (-5), 2) := by decide +kernel
theorem d_RE_flood_52 : decode prog_4_method_2_code 52 = .ok (.iastore, 1) := by decide +kernel
theorem d_RE_flood_53 : decode prog_4_method_2_code 53 = .ok (.aload_n 0, 1) := by decide +kernel
theorem d_RE_flood_54 : decode prog_4_method_2_code 54 = .ok (.getfield 21, 3) := by decide +kernel
theorem d_RE_flood_57 : decode prog_4_method_2_code 57 = .ok (.iload_n 3, 1) := by decide +kernel
theorem d_RE_flood_58 : decode prog_4_method_2_code 58 = .ok (.iconst 0, 1) := by decide +kernel
theorem d_RE_flood_59 : decode prog_4_method_2_code 59 = .ok (.iastore, 1) := by decide +kernel
theorem d_RE_flood_60 : decode prog_4_method_2_code 60 = .ok (.iinc 3 1, 3) := by decide +kernel
theorem d_RE_flood_63 : decode prog_4_method_2_code 63 = .ok (.goto (-39), 3) := by decide +kernel
theorem d_RE_flood_66 : decode prog_4_method_2_code 66 = .ok (.return_, 1) := by decide +kernel
set_option maxHeartbeats 4000000 in
set_option maxRecDepth 100000 in
theorem w_RE_flood_L24   (C : Cx prog_4_method_2_code 4 "LakeRelief$Relief" (Option.none : Option Jvm.ClassFile.FieldType) p s m args meth c) (hG : Geo D adr cA s) (v : Mem) (hE : ∀ (H : Heap) (locs : List Loc) (ls : Array Slot), va_P D cls (wld adr cA v ν) H → va_S (AA adr) s.heap H locs → lv_has ls 4 [] → W p l e rm_RE_flood s m args below meth c H locs 0 0 Q (F0 m 66 ls [])) : ∀ (n : Nat) (μ : Mem) (y3 : Int32), f_RE_flood_L24 n μ y3 = some v → ∀ {H : Heap} {locs : List Loc} {ls : Array Slot}, va_P D cls (wld adr cA μ ν) H → va_S (AA adr) s.heap H locs → lv_has ls 4 [(0, .ref (adr 18)), (3, .int y3)] → W p l e rm_RE_flood s m args below meth c H locs 0 0 Q (F0 m 24 ls []) := by
  obtain ⟨hx, hb, hml, hown, hts, hr, hlocks⟩ := id C
  intro n
  induction n with
  | zero => intro μ y3 hf; rw [f_RE_flood_L24.eq_1] at hf; cases hf
  | succ n ih =>
    intro μ y3 hf H locs ls hP hS hl
    rw [f_RE_flood_L24.eq_2] at hf
    refine lv_iload_n hx hb d_RE_flood_24 rfl (lv_at hl 1 rfl) ?_
    refine lv_bipush (v := 64) hx hb d_RE_flood_25 (by decide) ?_
    refine lv_icmp_ge (tgt := 66) hx hb d_RE_flood_27 (by decide) (fun hc => ?_) (fun hc => ?_)
    · replace hf := if_p hc hf
      obtain rfl := Option.some.inj hf
      exact hE _ _ _ hP hS (lv_sub hl [] rfl)
    · replace hf := if_n hc hf
      refine lv_aload_n hx hb d_RE_flood_30 rfl (lv_at hl 0 rfl) ?_
      refine g_RE_height hx hb hts hown hG hP (hts _ in_44) d_RE_flood_31 ?_
      refine lv_iload_n hx hb d_RE_flood_34 rfl (lv_at hl 1 rfl) ?_
      refine lv_iconst (v := 0) hx hb d_RE_flood_35 (by decide) ?_
      replace hf := G_some hf
      obtain ⟨hi1, hf⟩ := hf
      refine rC_iast hx hb hG hP hS 19 64 (by decide) (fun _ _ => rfl) hi1 d_RE_flood_36 (fun H locs hP hS => ?_)
      refine lv_aload_n hx hb d_RE_flood_37 rfl (lv_at hl 0 rfl) ?_
      refine g_RE_down hx hb hts hown hG hP (hts _ in_47) d_RE_flood_38 ?_
      refine lv_iload_n hx hb d_RE_flood_41 rfl (lv_at hl 1 rfl) ?_
      refine lv_bipush (v := (-5)) hx hb d_RE_flood_42 (by decide) ?_
      replace hf := G_some hf
      obtain ⟨hi2, hf⟩ := hf
      refine rC_iast hx hb hG hP hS 20 64 (by decide) (fun _ _ => rfl) hi2 d_RE_flood_44 (fun H locs hP hS => ?_)
      refine lv_aload_n hx hb d_RE_flood_45 rfl (lv_at hl 0 rfl) ?_
      refine g_RE_wayEnd hx hb hts hown hG hP (hts _ in_49) d_RE_flood_46 ?_
      refine lv_iload_n hx hb d_RE_flood_49 rfl (lv_at hl 1 rfl) ?_
      refine lv_bipush (v := (-5)) hx hb d_RE_flood_50 (by decide) ?_
      replace hf := G_some hf
      obtain ⟨hi3, hf⟩ := hf
      refine rC_iast hx hb hG hP hS 21 64 (by decide) (fun _ _ => rfl) hi3 d_RE_flood_52 (fun H locs hP hS => ?_)
      refine lv_aload_n hx hb d_RE_flood_53 rfl (lv_at hl 0 rfl) ?_
      refine g_RE_fill hx hb hts hown hG hP (hts _ in_52) d_RE_flood_54 ?_
      refine lv_iload_n hx hb d_RE_flood_57 rfl (lv_at hl 1 rfl) ?_
      refine lv_iconst (v := 0) hx hb d_RE_flood_58 (by decide) ?_
      replace hf := G_some hf
      obtain ⟨hi4, hf⟩ := hf
      refine rC_iast hx hb hG hP hS 22 64 (by decide) (fun _ _ => rfl) hi4 d_RE_flood_59 (fun H locs hP hS => ?_)
      refine lv_iinc (v := (y3 + 1)) (lv' := [(3, .int (y3 + 1)), (0, .ref (adr 18))]) hx hb d_RE_flood_60 hl (k := 1) rfl rfl (by decide) rfl (fun ls hl => ?_)
      refine lv_goto (tgt := 24) hx hb d_RE_flood_63 (by decide) ?_
      exact ih _ _ hf hP hS (lv_sub hl [1, 0] rfl)
set_option maxHeartbeats 4000000 in
set_option maxRecDepth 100000 in
theorem w_RE_flood (x1 : Int32) (x2 : Int32)  (C : Cx prog_4_method_2_code 4 "LakeRelief$Relief" (Option.none : Option Jvm.ClassFile.FieldType) p s m args meth c) (hG : Geo D adr cA s) {res : Mem} (hf : f_RE_flood μ x1 x2 = some res) (hq : ∀ (pc : Nat) (ls : Array Slot) (H : Heap) (locs : List Loc), decode prog_4_method_2_code pc = .ok (.return_, 1) → va_P D cls (wld adr cA res ν) H → va_S (AA adr) s.heap H locs → W p l e rm_RE_flood s m args below meth c H locs 0 0 Q (F0 m pc ls [])) {H : Heap} {locs : List Loc} {ls : Array Slot} (hP : va_P D cls (wld adr cA μ ν) H) (hS : va_S (AA adr) s.heap H locs) (hl : lv_has ls 4 [(0, .ref (adr 18)), (1, .int x1), (2, .int x2)]) : W p l e rm_RE_flood s m args below meth c H locs 0 0 Q (F0 m 0 ls []) := by
  obtain ⟨hx, hb, hml, hown, hts, hr, hlocks⟩ := id C
  unfold f_RE_flood at hf
  refine lv_aload_n hx hb d_RE_flood_0 rfl (lv_at hl 0 rfl) ?_
  refine lv_iload_n hx hb d_RE_flood_1 rfl (lv_at hl 1 rfl) ?_
  refine p_RE_width hx hb hts hown hG hP hS (hts _ in_58) d_RE_flood_2 (fun H locs hP hS => ?_)
  refine lv_aload_n hx hb d_RE_flood_5 rfl (lv_at hl 0 rfl) ?_
  refine lv_iload_n hx hb d_RE_flood_6 rfl (lv_at hl 1 rfl) ?_
  refine lv_iload_n hx hb d_RE_flood_7 rfl (lv_at hl 2 rfl) ?_
  refine lv_imul hx hb d_RE_flood_8 ?_
  refine p_RE_size hx hb hts hown hG hP hS (hts _ in_59) d_RE_flood_9 (fun H locs hP hS => ?_)
  refine lv_aload_n hx hb d_RE_flood_12 rfl (lv_at hl 0 rfl) ?_
  refine lv_iconst (v := 0) hx hb d_RE_flood_13 (by decide) ?_
  refine p_RE_landCount hx hb hts hown hG hP hS (hts _ in_61) d_RE_flood_14 (fun H locs hP hS => ?_)
  refine lv_aload_n hx hb d_RE_flood_17 rfl (lv_at hl 0 rfl) ?_
  refine lv_lconst (v := 0) hx hb d_RE_flood_18 (by decide) ?_
  refine p_RE_land hx hb hts hown hG hP hS (hts _ in_64) d_RE_flood_19 (fun H locs hP hS => ?_)
  refine lv_iconst (v := 0) hx hb d_RE_flood_22 (by decide) ?_
  refine lv_istore_n (lv' := [(3, .int 0), (0, .ref (adr 18)), (1, .int x1), (2, .int x2)]) hx hb d_RE_flood_23 rfl hl (by decide) rfl (fun ls hl => ?_)
  replace hf := B_some hf
  obtain ⟨v5, hv5, hf⟩ := hf
  refine w_RE_flood_L24   C hG v5 ?_ FU _ _ hv5 hP hS (lv_sub hl [1, 0] rfl)
  clear hv5 hP hS hl
  intro H locs ls hP hS hl
  obtain rfl := Option.some.inj hf
  exact hq _ _ _ _ d_RE_flood_66 hP hS
theorem c_RE_flood (l : Launch) (D : va_G) (adr : Nat → Nat) (cA : Nat → ClassId) (μ ν : Mem) (x1 : Int32) (x2 : Int32)  {res : Mem} (hf : f_RE_flood μ x1 x2 = some res) : Met l y_RE_flood (Cond.code y_RE_flood prog_4_method_2_code 4 (Option.none : Option Jvm.ClassFile.FieldType) :: lw_ok) rm_RE_flood (va_Pc [.ref (adr 18), .int x1, .int x2] (Wd D adr cA μ ν)) (QV D adr cA res ν) 0 0 (AA adr) :=
  met_of (own := "LakeRelief$Relief") rfl rfl (Nat.le_of_ble_eq_true rfl) (fun p e s m below meth c C hG hP hS ls hl => w_RE_flood x1 x2  C hG hf (fun pc ls H locs hd hP hS => ret_v C.1 C.2.1 C.2.2.2.2.2.1 C.2.2.2.2.2.2 hG hd hP hS) hP hS hl)
end X_RE_flood
section X_RE_raiseLand
variable {p : Program} {l : Launch} {e : Env} {s : State} {m : MethodId} {args : Array Value} {below : List Frame} {meth : Method} {c : Code} {Q : State → Prop}
variable {D : va_G} {adr : Nat → Nat} {cA : Nat → ClassId} {μ ν : Mem}
theorem d_RE_raiseLand_0 : decode prog_4_method_3_code 0 = .ok (.aload_n 0, 1) := by decide +kernel
theorem d_RE_raiseLand_1 : decode prog_4_method_3_code 1 = .ok (.getfield 9, 3) := by decide +kernel
theorem d_RE_raiseLand_4 : decode prog_4_method_3_code 4 = .ok (.iload_n 1, 1) := by decide +kernel
theorem d_RE_raiseLand_5 : decode prog_4_method_3_code 5 = .ok (.iload_n 2, 1) := by decide +kernel
theorem d_RE_raiseLand_6 : decode prog_4_method_3_code 6 = .ok (.iastore, 1) := by decide +kernel
theorem d_RE_raiseLand_7 : decode prog_4_method_3_code 7 = .ok (.aload_n 0, 1) := by decide +kernel
theorem d_RE_raiseLand_8 : decode prog_4_method_3_code 8 = .ok (.dup, 1) := by decide +kernel
theorem d_RE_raiseLand_9 : decode prog_4_method_3_code 9 = .ok (.getfield 43, 3) := by decide +kernel
theorem d_RE_raiseLand_12 : decode prog_4_method_3_code 12 = .ok (.iload_n 1, 1) := by decide +kernel
theorem d_RE_raiseLand_13 : decode prog_4_method_3_code 13 = .ok (.invokestatic 47, 3) := by decide +kernel
theorem d_RE_raiseLand_16 : decode prog_4_method_3_code 16 = .ok (.lor, 1) := by decide +kernel
theorem d_RE_raiseLand_17 : decode prog_4_method_3_code 17 = .ok (.putfield 43, 3) := by decide +kernel
theorem d_RE_raiseLand_20 : decode prog_4_method_3_code 20 = .ok (.return_, 1) := by decide +kernel
set_option maxHeartbeats 4000000 in
set_option maxRecDepth 100000 in
theorem w_RE_raiseLand (x1 : Int32) (x2 : Int32)  (C : Cx prog_4_method_3_code 3 "LakeRelief$Relief" (Option.none : Option Jvm.ClassFile.FieldType) p s m args meth c) (hG : Geo D adr cA s) {res : Mem} (hf : f_RE_raiseLand μ x1 x2 = some res) (hq : ∀ (pc : Nat) (ls : Array Slot) (H : Heap) (locs : List Loc), decode prog_4_method_3_code pc = .ok (.return_, 1) → va_P D cls (wld adr cA res ν) H → va_S (AA adr) s.heap H locs → W p l e rm_RE_raiseLand s m args below meth c H locs 0 0 Q (F0 m pc ls [])) {H : Heap} {locs : List Loc} {ls : Array Slot} (hP : va_P D cls (wld adr cA μ ν) H) (hS : va_S (AA adr) s.heap H locs) (hl : lv_has ls 3 [(0, .ref (adr 18)), (1, .int x1), (2, .int x2)]) : W p l e rm_RE_raiseLand s m args below meth c H locs 0 0 Q (F0 m 0 ls []) := by
  obtain ⟨hx, hb, hml, hown, hts, hr, hlocks⟩ := id C
  unfold f_RE_raiseLand at hf
  refine lv_aload_n hx hb d_RE_raiseLand_0 rfl (lv_at hl 0 rfl) ?_
  refine g_RE_height hx hb hts hown hG hP (hts _ in_44) d_RE_raiseLand_1 ?_
  refine lv_iload_n hx hb d_RE_raiseLand_4 rfl (lv_at hl 1 rfl) ?_
  refine lv_iload_n hx hb d_RE_raiseLand_5 rfl (lv_at hl 2 rfl) ?_
  replace hf := G_some hf
  obtain ⟨hi1, hf⟩ := hf
  refine rC_iast hx hb hG hP hS 19 64 (by decide) (fun _ _ => rfl) hi1 d_RE_raiseLand_6 (fun H locs hP hS => ?_)
  refine lv_aload_n hx hb d_RE_raiseLand_7 rfl (lv_at hl 0 rfl) ?_
  refine lv_dup hx hb d_RE_raiseLand_8 rfl ?_
  refine g_RE_land hx hb hts hown hG hP (hts _ in_64) d_RE_raiseLand_9 ?_
  refine lv_iload_n hx hb d_RE_raiseLand_12 rfl (lv_at hl 1 rfl) ?_
  refine kl (kn (As := [.int x1]) (rest := [.long ((sI μ 19 x1.toNatClampNeg x2).2 18 10), .ref (adr 18)]) ⟨hx, hb, hml, hown, hts⟩ (cw_RE_47 hts hG ⟨Nat.le_of_ble_eq_true rfl, Nat.le_of_ble_eq_true rfl⟩) (c_LR_only l D adr cA (sI μ 19 x1.toNatClampNeg x2) ν x1) hG hP rfl hl.1 (Nat.le_of_ble_eq_true rfl) d_RE_raiseLand_13) hS (fun H locs hP hS => ?_)
  refine lv_lor hx hb d_RE_raiseLand_16 ?_
  refine p_RE_land hx hb hts hown hG hP hS (hts _ in_64) d_RE_raiseLand_17 (fun H locs hP hS => ?_)
  obtain rfl := Option.some.inj hf
  exact hq _ _ _ _ d_RE_raiseLand_20 hP hS
theorem c_RE_raiseLand (l : Launch) (D : va_G) (adr : Nat → Nat) (cA : Nat → ClassId) (μ ν : Mem) (x1 : Int32) (x2 : Int32)  {res : Mem} (hf : f_RE_raiseLand μ x1 x2 = some res) : Met l y_RE_raiseLand (Cond.code y_RE_raiseLand prog_4_method_3_code 3 (Option.none : Option Jvm.ClassFile.FieldType) :: lw_ok) rm_RE_raiseLand (va_Pc [.ref (adr 18), .int x1, .int x2] (Wd D adr cA μ ν)) (QV D adr cA res ν) 0 0 (AA adr) :=
  met_of (own := "LakeRelief$Relief") rfl rfl (Nat.le_of_ble_eq_true rfl) (fun p e s m below meth c C hG hP hS ls hl => w_RE_raiseLand x1 x2  C hG hf (fun pc ls H locs hd hP hS => ret_v C.1 C.2.1 C.2.2.2.2.2.1 C.2.2.2.2.2.2 hG hd hP hS) hP hS hl)
end X_RE_raiseLand
section X_RE_landOrSea
variable {p : Program} {l : Launch} {e : Env} {s : State} {m : MethodId} {args : Array Value} {below : List Frame} {meth : Method} {c : Code} {Q : State → Prop}
variable {D : va_G} {adr : Nat → Nat} {cA : Nat → ClassId} {μ ν : Mem}
theorem d_RE_landOrSea_0 : decode prog_4_method_9_code 0 = .ok (.aload_n 0, 1) := by decide +kernel
theorem d_RE_landOrSea_1 : decode prog_4_method_9_code 1 = .ok (.iload_n 1, 1) := by decide +kernel
theorem d_RE_landOrSea_2 : decode prog_4_method_9_code 2 = .ok (.invokevirtual 75, 3) := by decide +kernel
theorem d_RE_landOrSea_5 : decode prog_4_method_9_code 5 = .ok (.ifCond .eq 7, 3) := by decide +kernel
theorem d_RE_landOrSea_8 : decode prog_4_method_9_code 8 = .ok (.iload_n 1, 1) := by decide +kernel
theorem d_RE_landOrSea_9 : decode prog_4_method_9_code 9 = .ok (.goto 5, 3) := by decide +kernel
theorem d_RE_landOrSea_12 : decode prog_4_method_9_code 12 = .ok (.bipush (-5), 2) := by decide +kernel
theorem d_RE_landOrSea_14 : decode prog_4_method_9_code 14 = .ok (.ireturn, 1) := by decide +kernel
set_option maxHeartbeats 4000000 in
set_option maxRecDepth 100000 in
theorem w_RE_landOrSea (x1 : Int32)  (C : Cx prog_4_method_9_code 2 "LakeRelief$Relief" (Option.some Jvm.ClassFile.FieldType.int) p s m args meth c) (hG : Geo D adr cA s) {res : Int32} (hf : f_RE_landOrSea μ x1 = res) (hq : ∀ (pc : Nat) (ls : Array Slot) (H : Heap) (locs : List Loc), decode prog_4_method_9_code pc = .ok (.ireturn, 1) → va_P D cls (wld adr cA μ ν) H → va_S (AA adr) s.heap H locs → W p l e rm_RE_landOrSea s m args below meth c H locs 0 0 Q (F0 m pc ls [.int res])) {H : Heap} {locs : List Loc} {ls : Array Slot} (hP : va_P D cls (wld adr cA μ ν) H) (hS : va_S (AA adr) s.heap H locs) (hl : lv_has ls 2 [(0, .ref (adr 18)), (1, .int x1)]) : W p l e rm_RE_landOrSea s m args below meth c H locs 0 0 Q (F0 m 0 ls []) := by
  obtain ⟨hx, hb, hml, hown, hts, hr, hlocks⟩ := id C
  unfold f_RE_landOrSea at hf
  refine lv_aload_n hx hb d_RE_landOrSea_0 rfl (lv_at hl 0 rfl) ?_
  refine lv_iload_n hx hb d_RE_landOrSea_1 rfl (lv_at hl 1 rfl) ?_
  refine ki (kv (As := [.int x1]) (rest := []) ⟨hx, hb, hml, hown, hts⟩ (cw_RE_75 hts ⟨Nat.le_of_ble_eq_true rfl, Nat.le_of_ble_eq_true rfl⟩) (c_RE_isLand l D adr cA μ ν x1) hG hP (rc_o (q := 18) (ci := 2) hG hP (by decide) (wc_C (by decide) rfl) rfl) rfl hl.1 (Nat.le_of_ble_eq_true rfl) d_RE_landOrSea_2) hS (fun H locs hP hS => ?_)
  refine lv_if_eq (tgt := 12) hx hb d_RE_landOrSea_5 (by decide) (fun hc => ?_) (fun hc => ?_)
  · replace hf := if_p hc hf
    refine lv_bipush (v := (-5)) hx hb d_RE_landOrSea_12 (by decide) ?_
    subst hf
    exact hq _ _ _ _ d_RE_landOrSea_14 hP hS
  · replace hf := if_n hc hf
    refine lv_iload_n hx hb d_RE_landOrSea_8 rfl (lv_at hl 1 rfl) ?_
    refine lv_goto (tgt := 14) hx hb d_RE_landOrSea_9 (by decide) ?_
    subst hf
    exact hq _ _ _ _ d_RE_landOrSea_14 hP hS
theorem c_RE_landOrSea (l : Launch) (D : va_G) (adr : Nat → Nat) (cA : Nat → ClassId) (μ ν : Mem) (x1 : Int32)  : Met l y_RE_landOrSea (Cond.code y_RE_landOrSea prog_4_method_9_code 2 (Option.some Jvm.ClassFile.FieldType.int) :: lw_ok) rm_RE_landOrSea (va_Pc [.ref (adr 18), .int x1] (Wd D adr cA μ ν)) (QI D adr cA (f_RE_landOrSea μ x1) μ ν) 0 0 (AA adr) :=
  met_of (own := "LakeRelief$Relief") rfl rfl (Nat.le_of_ble_eq_true rfl) (fun p e s m below meth c C hG hP hS ls hl => w_RE_landOrSea x1  C hG rfl (fun pc ls H locs hd hP hS => ret_i C.1 C.2.1 C.2.2.2.2.2.1 C.2.2.2.2.2.2 hG hd hP hS) hP hS hl)
end X_RE_landOrSea
section X_RE_findNeighbours
variable {p : Program} {l : Launch} {e : Env} {s : State} {m : MethodId} {args : Array Value} {below : List Frame} {meth : Method} {c : Code} {Q : State → Prop}
variable {D : va_G} {adr : Nat → Nat} {cA : Nat → ClassId} {μ ν : Mem}
theorem d_RE_findNeighbours_0 : decode prog_4_method_8_code 0 = .ok (.iconst 0, 1) := by decide +kernel
theorem d_RE_findNeighbours_1 : decode prog_4_method_8_code 1 = .ok (.istore_n 1, 1) := by decide +kernel
theorem d_RE_findNeighbours_2 : decode prog_4_method_8_code 2 = .ok (.iload_n 1, 1) := by decide +kernel
theorem d_RE_findNeighbours_3 : decode prog_4_method_8_code 3 = .ok (.aload_n 0, 1) := by decide +kernel
theorem d_RE_findNeighbours_4 : decode prog_4_method_8_code 4 = .ok (.getfield 37, 3) := by decide +kernel
theorem d_RE_findNeighbours_7 : decode prog_4_method_8_code 7 = .ok (.if_icmp .ge 119, 3) := by decide +kernel
theorem d_RE_findNeighbours_10 : decode prog_4_method_8_code 10 = .ok (.aload_n 0, 1) := by decide +kernel
theorem d_RE_findNeighbours_11 : decode prog_4_method_8_code 11 = .ok (.getfield 33, 3) := by decide +kernel
theorem d_RE_findNeighbours_14 : decode prog_4_method_8_code 14 = .ok (.ifCond .le 12, 3) := by decide +kernel
theorem d_RE_findNeighbours_17 : decode prog_4_method_8_code 17 = .ok (.iload_n 1, 1) := by decide +kernel
theorem d_RE_findNeighbours_18 : decode prog_4_method_8_code 18 = .ok (.aload_n 0, 1) := by decide +kernel
theorem d_RE_findNeighbours_19 : decode prog_4_method_8_code 19 = .ok (.getfield 33, 3) := by decide +kernel
theorem d_RE_findNeighbours_22 : decode prog_4_method_8_code 22 = .ok (.irem, 1) := by decide +kernel
theorem d_RE_findNeighbours_23 : decode prog_4_method_8_code 23 = .ok (.goto 4, 3) := by decide +kernel
theorem d_RE_findNeighbours_26 : decode prog_4_method_8_code 26 = .ok (.iconst 0, 1) := by decide +kernel
theorem d_RE_findNeighbours_27 : decode prog_4_method_8_code 27 = .ok (.istore_n 2, 1) := by decide +kernel
theorem d_RE_findNeighbours_28 : decode prog_4_method_8_code 28 = .ok (.iconst 4, 1) := by decide +kernel
theorem d_RE_findNeighbours_29 : decode prog_4_method_8_code 29 = .ok (.iload_n 1, 1) := by decide +kernel
theorem d_RE_findNeighbours_30 : decode prog_4_method_8_code 30 = .ok (.imul, 1) := by decide +kernel
theorem d_RE_findNeighbours_31 : decode prog_4_method_8_code 31 = .ok (.istore_n 3, 1) := by decide +kernel
theorem d_RE_findNeighbours_32 : decode prog_4_method_8_code 32 = .ok (.aload_n 0, 1) := by decide +kernel
theorem d_RE_findNeighbours_33 : decode prog_4_method_8_code 33 = .ok (.getfield 27, 3) := by decide +kernel
theorem d_RE_findNeighbours_36 : decode prog_4_method_8_code 36 = .ok (.iload_n 3, 1) := by decide +kernel
theorem d_RE_findNeighbours_37 : decode prog_4_method_8_code 37 = .ok (.aload_n 0, 1) := by decide +kernel
theorem d_RE_findNeighbours_38 : decode prog_4_method_8_code 38 = .ok (.iload_n 1, 1) := by decide +kernel
theorem d_RE_findNeighbours_39 : decode prog_4_method_8_code 39 = .ok (.aload_n 0, 1) := by decide +kernel
theorem d_RE_findNeighbours_40 : decode prog_4_method_8_code 40 = .ok (.getfield 33, 3) := by decide +kernel
theorem d_RE_findNeighbours_43 : decode prog_4_method_8_code 43 = .ok (.isub, 1) := by decide +kernel
theorem d_RE_findNeighbours_44 : decode prog_4_method_8_code 44 = .ok (.invokevirtual 71, 3) := by decide +kernel
theorem d_RE_findNeighbours_47 : decode prog_4_method_8_code 47 = .ok (.iastore, 1) := by decide +kernel
theorem d_RE_findNeighbours_48 : decode prog_4_method_8_code 48 = .ok (.aload_n 0, 1) := by decide +kernel
theorem d_RE_findNeighbours_49 : decode prog_4_method_8_code 49 = .ok (.getfield 27, 3) := by decide +kernel
theorem d_RE_findNeighbours_52 : decode prog_4_method_8_code 52 = .ok (.iload_n 3, 1) := by decide +kernel
theorem d_RE_findNeighbours_53 : decode prog_4_method_8_code 53 = .ok (.iconst 1, 1) := by decide +kernel
theorem d_RE_findNeighbours_54 : decode prog_4_method_8_code 54 = .ok (.iadd, 1) := by decide +kernel
theorem d_RE_findNeighbours_55 : decode prog_4_method_8_code 55 = .ok (.iload_n 2, 1) := by decide +kernel
theorem d_RE_findNeighbours_56 : decode prog_4_method_8_code 56 = .ok (.ifCond .le 13, 3) := by decide +kernel
theorem d_RE_findNeighbours_59 : decode prog_4_method_8_code 59 = .ok (.aload_n 0, 1) := by decide +kernel
theorem d_RE_findNeighbours_60 : decode prog_4_method_8_code 60 = .ok (.iload_n 1, 1) := by decide +kernel
theorem d_RE_findNeighbours_61 : decode prog_4_method_8_code 61 = .ok (.iconst 1, 1) := by decide +kernel
theorem d_RE_findNeighbours_62 : decode prog_4_method_8_code 62 = .ok (.isub, 1) := by decide +kernel
theorem d_RE_findNeighbours_63 : decode prog_4_method_8_code 63 = .ok (.invokevirtual 71, 3) := by decide +kernel
theorem d_RE_findNeighbours_66 : decode prog_4_method_8_code 66 = .ok (.goto 5, 3) := by decide +kernel
theorem d_RE_findNeighbours_69 : decode prog_4_method_8_code 69 = .ok (.bipush (-5), 2) := by decide +kernel
theorem d_RE_findNeighbours_71 : decode prog_4_method_8_code 71 = .ok (.iastore, 1) := by decide +kernel
theorem d_RE_findNeighbours_72 : decode prog_4_method_8_code 72 = .ok (.aload_n 0, 1) := by decide +kernel
theorem d_RE_findNeighbours_73 : decode prog_4_method_8_code 73 = .ok (.getfield 27, 3) := by decide +kernel
theorem d_RE_findNeighbours_76 : decode prog_4_method_8_code 76 = .ok (.iload_n 3, 1) := by decide +kernel
theorem d_RE_findNeighbours_77 : decode prog_4_method_8_code 77 = .ok (.iconst 2, 1) := by decide +kernel
theorem d_RE_findNeighbours_78 : decode prog_4_method_8_code 78 = .ok (.iadd, 1) := by decide +kernel
theorem d_RE_findNeighbours_79 : decode prog_4_method_8_code 79 = .ok (.iload_n 2, 1) := by decide +kernel
theorem d_RE_findNeighbours_80 : decode prog_4_method_8_code 80 = .ok (.aload_n 0, 1) := by decide +kernel
theorem d_RE_findNeighbours_81 : decode prog_4_method_8_code 81 = .ok (.getfield 33, 3) := by decide +kernel
theorem d_RE_findNeighbours_84 : decode prog_4_method_8_code 84 = .ok (.iconst 1, 1) := by decide +kernel
theorem d_RE_findNeighbours_85 : decode prog_4_method_8_code 85 = .ok (.isub, 1) := by decide +kernel
theorem d_RE_findNeighbours_86 : decode prog_4_method_8_code 86 = .ok (.if_icmp .ge 13, 3) := by decide +kernel
theorem d_RE_findNeighbours_89 : decode prog_4_method_8_code 89 = .ok (.aload_n 0, 1) := by decide +kernel
theorem d_RE_findNeighbours_90 : decode prog_4_method_8_code 90 = .ok (.iload_n 1, 1) := by decide +kernel
theorem d_RE_findNeighbours_91 : decode prog_4_method_8_code 91 = .ok (.iconst 1, 1) := by decide +kernel
theorem d_RE_findNeighbours_92 : decode prog_4_method_8_code 92 = .ok (.iadd, 1) := by decide +kernel
theorem d_RE_findNeighbours_93 : decode prog_4_method_8_code 93 = .ok (.invokevirtual 71, 3) := by decide +kernel
theorem d_RE_findNeighbours_96 : decode prog_4_method_8_code 96 = .ok (.goto 5, 3) := by decide +kernel
theorem d_RE_findNeighbours_99 : decode prog_4_method_8_code 99 = .ok (.bipush (-5), 2) := by decide +kernel
theorem d_RE_findNeighbours_101 : decode prog_4_method_8_code 101 = .ok (.iastore, 1) := by decide +kernel
theorem d_RE_findNeighbours_102 : decode prog_4_method_8_code 102 = .ok (.aload_n 0, 1) := by decide +kernel
theorem d_RE_findNeighbours_103 : decode prog_4_method_8_code 103 = .ok (.getfield 27, 3) := by decide +kernel
theorem d_RE_findNeighbours_106 : decode prog_4_method_8_code 106 = .ok (.iload_n 3, 1) := by decide +kernel
theorem d_RE_findNeighbours_107 : decode prog_4_method_8_code 107 = .ok (.iconst 3, 1) := by decide +kernel
theorem d_RE_findNeighbours_108 : decode prog_4_method_8_code 108 = .ok (.iadd, 1) := by decide +kernel
theorem d_RE_findNeighbours_109 : decode prog_4_method_8_code 109 = .ok (.aload_n 0, 1) := by decide +kernel
theorem d_RE_findNeighbours_110 : decode prog_4_method_8_code 110 = .ok (.iload_n 1, 1) := by decide +kernel
theorem d_RE_findNeighbours_111 : decode prog_4_method_8_code 111 = .ok (.aload_n 0, 1) := by decide +kernel
theorem d_RE_findNeighbours_112 : decode prog_4_method_8_code 112 = .ok (.getfield 33, 3) := by decide +kernel
theorem d_RE_findNeighbours_115 : decode prog_4_method_8_code 115 = .ok (.iadd, 1) := by decide +kernel
theorem d_RE_findNeighbours_116 : decode prog_4_method_8_code 116 = .ok (.invokevirtual 71, 3) := by decide +kernel
theorem d_RE_findNeighbours_119 : decode prog_4_method_8_code 119 = .ok (.iastore, 1) := by decide +kernel
theorem d_RE_findNeighbours_120 : decode prog_4_method_8_code 120 = .ok (.iinc 1 1, 3) := by decide +kernel
theorem d_RE_findNeighbours_123 : decode prog_4_method_8_code 123 = .ok (.goto (-121), 3) := by decide +kernel
theorem d_RE_findNeighbours_126 : decode prog_4_method_8_code 126 = .ok (.return_, 1) := by decide +kernel
set_option maxHeartbeats 4000000 in
set_option maxRecDepth 100000 in
theorem w_RE_findNeighbours_L2   (C : Cx prog_4_method_8_code 4 "LakeRelief$Relief" (Option.none : Option Jvm.ClassFile.FieldType) p s m args meth c) (hG : Geo D adr cA s) (v : Mem) (hE : ∀ (H : Heap) (locs : List Loc) (ls : Array Slot), va_P D cls (wld adr cA v ν) H → va_S (AA adr) s.heap H locs → lv_has ls 4 [] → W p l e rm_RE_findNeighbours s m args below meth c H locs 0 0 Q (F0 m 126 ls [])) : ∀ (n : Nat) (μ : Mem) (y1 : Int32), f_RE_findNeighbours_L2 n μ y1 = some v → ∀ {H : Heap} {locs : List Loc} {ls : Array Slot}, va_P D cls (wld adr cA μ ν) H → va_S (AA adr) s.heap H locs → lv_has ls 4 [(0, .ref (adr 18)), (1, .int y1)] → W p l e rm_RE_findNeighbours s m args below meth c H locs 0 0 Q (F0 m 2 ls []) := by
  obtain ⟨hx, hb, hml, hown, hts, hr, hlocks⟩ := id C
  intro n
  induction n with
  | zero => intro μ y1 hf; rw [f_RE_findNeighbours_L2.eq_1] at hf; cases hf
  | succ n ih =>
    intro μ y1 hf H locs ls hP hS hl
    rw [f_RE_findNeighbours_L2.eq_2] at hf
    refine lv_iload_n hx hb d_RE_findNeighbours_2 rfl (lv_at hl 1 rfl) ?_
    refine lv_aload_n hx hb d_RE_findNeighbours_3 rfl (lv_at hl 0 rfl) ?_
    refine g_RE_size hx hb hts hown hG hP (hts _ in_59) d_RE_findNeighbours_4 ?_
    refine lv_icmp_ge (tgt := 126) hx hb d_RE_findNeighbours_7 (by decide) (fun hc => ?_) (fun hc => ?_)
    · replace hf := if_p hc hf
      obtain rfl := Option.some.inj hf
      exact hE _ _ _ hP hS (lv_sub hl [] rfl)
    · replace hf := if_n hc hf
      refine lv_aload_n hx hb d_RE_findNeighbours_10 rfl (lv_at hl 0 rfl) ?_
      refine g_RE_width hx hb hts hown hG hP (hts _ in_58) d_RE_findNeighbours_11 ?_
      replace hf := B_some hf
      obtain ⟨v1, hv1, hf⟩ := hf
      have hJ : ∀ (H : Heap) (locs : List Loc) (ls : Array Slot), va_P D cls (wld adr cA μ ν) H → va_S (AA adr) s.heap H locs → lv_has ls 4 [(0, .ref (adr 18)), (1, .int y1)] → W p l e rm_RE_findNeighbours s m args below meth c H locs 0 0 Q (F0 m 27 ls [.int v1]) := by
        clear hv1
        intro H locs ls hP hS hl
        refine lv_istore_n (lv' := [(2, .int v1), (0, .ref (adr 18)), (1, .int y1)]) hx hb d_RE_findNeighbours_27 rfl hl (by decide) rfl (fun ls hl => ?_)
        refine lv_iconst (v := 4) hx hb d_RE_findNeighbours_28 (by decide) ?_
        refine lv_iload_n hx hb d_RE_findNeighbours_29 rfl (lv_at hl 2 rfl) ?_
        refine lv_imul hx hb d_RE_findNeighbours_30 ?_
        refine lv_istore_n (lv' := [(3, .int (4 * y1)), (2, .int v1), (0, .ref (adr 18)), (1, .int y1)]) hx hb d_RE_findNeighbours_31 rfl hl (by decide) rfl (fun ls hl => ?_)
        refine lv_aload_n hx hb d_RE_findNeighbours_32 rfl (lv_at hl 2 rfl) ?_
        refine g_RE_neighbours hx hb hts hown hG hP (hts _ in_56) d_RE_findNeighbours_33 ?_
        refine lv_iload_n hx hb d_RE_findNeighbours_36 rfl (lv_at hl 0 rfl) ?_
        refine lv_aload_n hx hb d_RE_findNeighbours_37 rfl (lv_at hl 2 rfl) ?_
        refine lv_iload_n hx hb d_RE_findNeighbours_38 rfl (lv_at hl 3 rfl) ?_
        refine lv_aload_n hx hb d_RE_findNeighbours_39 rfl (lv_at hl 2 rfl) ?_
        refine g_RE_width hx hb hts hown hG hP (hts _ in_58) d_RE_findNeighbours_40 ?_
        refine lv_isub hx hb d_RE_findNeighbours_43 ?_
        refine ki (kv (As := [.int (y1 - (μ.1 18 7))]) (rest := [.int (4 * y1), .ref (adr 24)]) ⟨hx, hb, hml, hown, hts⟩ (cw_RE_71 hts ⟨Nat.le_of_ble_eq_true rfl, Nat.le_of_ble_eq_true rfl⟩) (c_RE_landOrSea l D adr cA μ ν (y1 - (μ.1 18 7))) hG hP (rc_o (q := 18) (ci := 2) hG hP (by decide) (wc_C (by decide) rfl) rfl) rfl hl.1 (Nat.le_of_ble_eq_true rfl) d_RE_findNeighbours_44) hS (fun H locs hP hS => ?_)
        replace hf := G_some hf
        obtain ⟨hi3, hf⟩ := hf
        refine rC_iast hx hb hG hP hS 24 256 (by decide) (fun _ _ => rfl) hi3 d_RE_findNeighbours_47 (fun H locs hP hS => ?_)
        refine lv_aload_n hx hb d_RE_findNeighbours_48 rfl (lv_at hl 2 rfl) ?_
        refine g_RE_neighbours hx hb hts hown hG hP (hts _ in_56) d_RE_findNeighbours_49 ?_
        refine lv_iload_n hx hb d_RE_findNeighbours_52 rfl (lv_at hl 0 rfl) ?_
        refine lv_iconst (v := 1) hx hb d_RE_findNeighbours_53 (by decide) ?_
        refine lv_iadd hx hb d_RE_findNeighbours_54 ?_
        refine lv_iload_n hx hb d_RE_findNeighbours_55 rfl (lv_at hl 1 rfl) ?_
        replace hf := B_some hf
        obtain ⟨v4, hv4, hf⟩ := hf
        have hJ : ∀ (H : Heap) (locs : List Loc) (ls : Array Slot), va_P D cls (wld adr cA (sI μ 24 (4 * y1).toNatClampNeg (f_RE_landOrSea μ (y1 - (μ.1 18 7)))) ν) H → va_S (AA adr) s.heap H locs → lv_has ls 4 [(0, .ref (adr 18)), (1, .int y1), (2, .int v1), (3, .int (4 * y1))] → W p l e rm_RE_findNeighbours s m args below meth c H locs 0 0 Q (F0 m 71 ls [.int v4, .int ((4 * y1) + 1), .ref (adr 24)]) := by
          clear hv4
          intro H locs ls hP hS hl
          replace hf := G_some hf
          obtain ⟨hi5, hf⟩ := hf
          refine rC_iast hx hb hG hP hS 24 256 (by decide) (fun _ _ => rfl) hi5 d_RE_findNeighbours_71 (fun H locs hP hS => ?_)
          refine lv_aload_n hx hb d_RE_findNeighbours_72 rfl (lv_at hl 0 rfl) ?_
          refine g_RE_neighbours hx hb hts hown hG hP (hts _ in_56) d_RE_findNeighbours_73 ?_
          refine lv_iload_n hx hb d_RE_findNeighbours_76 rfl (lv_at hl 3 rfl) ?_
          refine lv_iconst (v := 2) hx hb d_RE_findNeighbours_77 (by decide) ?_
          refine lv_iadd hx hb d_RE_findNeighbours_78 ?_
          refine lv_iload_n hx hb d_RE_findNeighbours_79 rfl (lv_at hl 2 rfl) ?_
          refine lv_aload_n hx hb d_RE_findNeighbours_80 rfl (lv_at hl 0 rfl) ?_
          refine g_RE_width hx hb hts hown hG hP (hts _ in_58) d_RE_findNeighbours_81 ?_
          refine lv_iconst (v := 1) hx hb d_RE_findNeighbours_84 (by decide) ?_
          refine lv_isub hx hb d_RE_findNeighbours_85 ?_
          replace hf := B_some hf
          obtain ⟨v6, hv6, hf⟩ := hf
          have hJ : ∀ (H : Heap) (locs : List Loc) (ls : Array Slot), va_P D cls (wld adr cA (sI (sI μ 24 (4 * y1).toNatClampNeg (f_RE_landOrSea μ (y1 - (μ.1 18 7)))) 24 ((4 * y1) + 1).toNatClampNeg v4) ν) H → va_S (AA adr) s.heap H locs → lv_has ls 4 [(0, .ref (adr 18)), (1, .int y1), (3, .int (4 * y1))] → W p l e rm_RE_findNeighbours s m args below meth c H locs 0 0 Q (F0 m 101 ls [.int v6, .int ((4 * y1) + 2), .ref (adr 24)]) := by
            clear hv6
            intro H locs ls hP hS hl
            replace hf := G_some hf
            obtain ⟨hi7, hf⟩ := hf
            refine rC_iast hx hb hG hP hS 24 256 (by decide) (fun _ _ => rfl) hi7 d_RE_findNeighbours_101 (fun H locs hP hS => ?_)
            refine lv_aload_n hx hb d_RE_findNeighbours_102 rfl (lv_at hl 0 rfl) ?_
            refine g_RE_neighbours hx hb hts hown hG hP (hts _ in_56) d_RE_findNeighbours_103 ?_
            refine lv_iload_n hx hb d_RE_findNeighbours_106 rfl (lv_at hl 2 rfl) ?_
            refine lv_iconst (v := 3) hx hb d_RE_findNeighbours_107 (by decide) ?_
            refine lv_iadd hx hb d_RE_findNeighbours_108 ?_
            refine lv_aload_n hx hb d_RE_findNeighbours_109 rfl (lv_at hl 0 rfl) ?_
            refine lv_iload_n hx hb d_RE_findNeighbours_110 rfl (lv_at hl 1 rfl) ?_
            refine lv_aload_n hx hb d_RE_findNeighbours_111 rfl (lv_at hl 0 rfl) ?_
            refine g_RE_width hx hb hts hown hG hP (hts _ in_58) d_RE_findNeighbours_112 ?_
            refine lv_iadd hx hb d_RE_findNeighbours_115 ?_
            refine ki (kv (As := [.int (y1 + ((sI (sI (sI μ 24 (4 * y1).toNatClampNeg (f_RE_landOrSea μ (y1 - (μ.1 18 7)))) 24 ((4 * y1) + 1).toNatClampNeg v4) 24 ((4 * y1) + 2).toNatClampNeg v6).1 18 7))]) (rest := [.int ((4 * y1) + 3), .ref (adr 24)]) ⟨hx, hb, hml, hown, hts⟩ (cw_RE_71 hts ⟨Nat.le_of_ble_eq_true rfl, Nat.le_of_ble_eq_true rfl⟩) (c_RE_landOrSea l D adr cA (sI (sI (sI μ 24 (4 * y1).toNatClampNeg (f_RE_landOrSea μ (y1 - (μ.1 18 7)))) 24 ((4 * y1) + 1).toNatClampNeg v4) 24 ((4 * y1) + 2).toNatClampNeg v6) ν (y1 + ((sI (sI (sI μ 24 (4 * y1).toNatClampNeg (f_RE_landOrSea μ (y1 - (μ.1 18 7)))) 24 ((4 * y1) + 1).toNatClampNeg v4) 24 ((4 * y1) + 2).toNatClampNeg v6).1 18 7))) hG hP (rc_o (q := 18) (ci := 2) hG hP (by decide) (wc_C (by decide) rfl) rfl) rfl hl.1 (Nat.le_of_ble_eq_true rfl) d_RE_findNeighbours_116) hS (fun H locs hP hS => ?_)
            replace hf := G_some hf
            obtain ⟨hi8, hf⟩ := hf
            refine rC_iast hx hb hG hP hS 24 256 (by decide) (fun _ _ => rfl) hi8 d_RE_findNeighbours_119 (fun H locs hP hS => ?_)
            refine lv_iinc (v := (y1 + 1)) (lv' := [(1, .int (y1 + 1)), (0, .ref (adr 18)), (3, .int (4 * y1))]) hx hb d_RE_findNeighbours_120 hl (k := 1) rfl rfl (by decide) rfl (fun ls hl => ?_)
            refine lv_goto (tgt := 2) hx hb d_RE_findNeighbours_123 (by decide) ?_
            exact ih _ _ hf hP hS (lv_sub hl [1, 0] rfl)
          clear hf
          have hf := hv6
          clear hv6
          refine lv_icmp_ge (tgt := 99) hx hb d_RE_findNeighbours_86 (by decide) (fun hc => ?_) (fun hc => ?_)
          · replace hf := if_p hc hf
            refine lv_bipush (v := (-5)) hx hb d_RE_findNeighbours_99 (by decide) ?_
            obtain rfl := Option.some.inj hf
            exact hJ _ _ _ hP hS (lv_sub hl [0, 1, 3] rfl)
          · replace hf := if_n hc hf
            refine lv_aload_n hx hb d_RE_findNeighbours_89 rfl (lv_at hl 0 rfl) ?_
            refine lv_iload_n hx hb d_RE_findNeighbours_90 rfl (lv_at hl 1 rfl) ?_
            refine lv_iconst (v := 1) hx hb d_RE_findNeighbours_91 (by decide) ?_
            refine lv_iadd hx hb d_RE_findNeighbours_92 ?_
            refine ki (kv (As := [.int (y1 + 1)]) (rest := [.int ((4 * y1) + 2), .ref (adr 24)]) ⟨hx, hb, hml, hown, hts⟩ (cw_RE_71 hts ⟨Nat.le_of_ble_eq_true rfl, Nat.le_of_ble_eq_true rfl⟩) (c_RE_landOrSea l D adr cA (sI (sI μ 24 (4 * y1).toNatClampNeg (f_RE_landOrSea μ (y1 - (μ.1 18 7)))) 24 ((4 * y1) + 1).toNatClampNeg v4) ν (y1 + 1)) hG hP (rc_o (q := 18) (ci := 2) hG hP (by decide) (wc_C (by decide) rfl) rfl) rfl hl.1 (Nat.le_of_ble_eq_true rfl) d_RE_findNeighbours_93) hS (fun H locs hP hS => ?_)
            refine lv_goto (tgt := 101) hx hb d_RE_findNeighbours_96 (by decide) ?_
            obtain rfl := Option.some.inj hf
            exact hJ _ _ _ hP hS (lv_sub hl [0, 1, 3] rfl)
        clear hf
        have hf := hv4
        clear hv4
        refine lv_if_le (tgt := 69) hx hb d_RE_findNeighbours_56 (by decide) (fun hc => ?_) (fun hc => ?_)
        · replace hf := if_p hc hf
          refine lv_bipush (v := (-5)) hx hb d_RE_findNeighbours_69 (by decide) ?_
          obtain rfl := Option.some.inj hf
          exact hJ _ _ _ hP hS (lv_sub hl [2, 3, 1, 0] rfl)
        · replace hf := if_n hc hf
          refine lv_aload_n hx hb d_RE_findNeighbours_59 rfl (lv_at hl 2 rfl) ?_
          refine lv_iload_n hx hb d_RE_findNeighbours_60 rfl (lv_at hl 3 rfl) ?_
          refine lv_iconst (v := 1) hx hb d_RE_findNeighbours_61 (by decide) ?_
          refine lv_isub hx hb d_RE_findNeighbours_62 ?_
          refine ki (kv (As := [.int (y1 - 1)]) (rest := [.int ((4 * y1) + 1), .ref (adr 24)]) ⟨hx, hb, hml, hown, hts⟩ (cw_RE_71 hts ⟨Nat.le_of_ble_eq_true rfl, Nat.le_of_ble_eq_true rfl⟩) (c_RE_landOrSea l D adr cA (sI μ 24 (4 * y1).toNatClampNeg (f_RE_landOrSea μ (y1 - (μ.1 18 7)))) ν (y1 - 1)) hG hP (rc_o (q := 18) (ci := 2) hG hP (by decide) (wc_C (by decide) rfl) rfl) rfl hl.1 (Nat.le_of_ble_eq_true rfl) d_RE_findNeighbours_63) hS (fun H locs hP hS => ?_)
          refine lv_goto (tgt := 71) hx hb d_RE_findNeighbours_66 (by decide) ?_
          obtain rfl := Option.some.inj hf
          exact hJ _ _ _ hP hS (lv_sub hl [2, 3, 1, 0] rfl)
      clear hf
      have hf := hv1
      clear hv1
      refine lv_if_le (tgt := 26) hx hb d_RE_findNeighbours_14 (by decide) (fun hc => ?_) (fun hc => ?_)
      · replace hf := if_p hc hf
        refine lv_iconst (v := 0) hx hb d_RE_findNeighbours_26 (by decide) ?_
        obtain rfl := Option.some.inj hf
        exact hJ _ _ _ hP hS (lv_sub hl [0, 1] rfl)
      · replace hf := if_n hc hf
        refine lv_iload_n hx hb d_RE_findNeighbours_17 rfl (lv_at hl 1 rfl) ?_
        refine lv_aload_n hx hb d_RE_findNeighbours_18 rfl (lv_at hl 0 rfl) ?_
        refine g_RE_width hx hb hts hown hG hP (hts _ in_58) d_RE_findNeighbours_19 ?_
        replace hf := Zg_some hf
        obtain ⟨hz2, hf⟩ := hf
        refine lv_irem hx hb d_RE_findNeighbours_22 hz2 ?_
        refine lv_goto (tgt := 27) hx hb d_RE_findNeighbours_23 (by decide) ?_
        obtain rfl := Option.some.inj hf
        exact hJ _ _ _ hP hS (lv_sub hl [0, 1] rfl)
set_option maxHeartbeats 4000000 in
set_option maxRecDepth 100000 in
theorem w_RE_findNeighbours   (C : Cx prog_4_method_8_code 4 "LakeRelief$Relief" (Option.none : Option Jvm.ClassFile.FieldType) p s m args meth c) (hG : Geo D adr cA s) {res : Mem} (hf : f_RE_findNeighbours μ  = some res) (hq : ∀ (pc : Nat) (ls : Array Slot) (H : Heap) (locs : List Loc), decode prog_4_method_8_code pc = .ok (.return_, 1) → va_P D cls (wld adr cA res ν) H → va_S (AA adr) s.heap H locs → W p l e rm_RE_findNeighbours s m args below meth c H locs 0 0 Q (F0 m pc ls [])) {H : Heap} {locs : List Loc} {ls : Array Slot} (hP : va_P D cls (wld adr cA μ ν) H) (hS : va_S (AA adr) s.heap H locs) (hl : lv_has ls 4 [(0, .ref (adr 18))]) : W p l e rm_RE_findNeighbours s m args below meth c H locs 0 0 Q (F0 m 0 ls []) := by
  obtain ⟨hx, hb, hml, hown, hts, hr, hlocks⟩ := id C
  unfold f_RE_findNeighbours at hf
  refine lv_iconst (v := 0) hx hb d_RE_findNeighbours_0 (by decide) ?_
  refine lv_istore_n (lv' := [(1, .int 0), (0, .ref (adr 18))]) hx hb d_RE_findNeighbours_1 rfl hl (by decide) rfl (fun ls hl => ?_)
  replace hf := B_some hf
  obtain ⟨v9, hv9, hf⟩ := hf
  refine w_RE_findNeighbours_L2   C hG v9 ?_ FU _ _ hv9 hP hS (lv_sub hl [1, 0] rfl)
  clear hv9 hP hS hl
  intro H locs ls hP hS hl
  obtain rfl := Option.some.inj hf
  exact hq _ _ _ _ d_RE_findNeighbours_126 hP hS
theorem c_RE_findNeighbours (l : Launch) (D : va_G) (adr : Nat → Nat) (cA : Nat → ClassId) (μ ν : Mem)   {res : Mem} (hf : f_RE_findNeighbours μ  = some res) : Met l y_RE_findNeighbours (Cond.code y_RE_findNeighbours prog_4_method_8_code 4 (Option.none : Option Jvm.ClassFile.FieldType) :: lw_ok) rm_RE_findNeighbours (va_Pc [.ref (adr 18)] (Wd D adr cA μ ν)) (QV D adr cA res ν) 0 0 (AA adr) :=
  met_of (own := "LakeRelief$Relief") rfl rfl (Nat.le_of_ble_eq_true rfl) (fun p e s m below meth c C hG hP hS ls hl => w_RE_findNeighbours   C hG hf (fun pc ls H locs hd hP hS => ret_v C.1 C.2.1 C.2.2.2.2.2.1 C.2.2.2.2.2.2 hG hd hP hS) hP hS hl)
end X_RE_findNeighbours
