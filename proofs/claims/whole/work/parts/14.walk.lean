section X_RE_countBelow
variable {p : Program} {l : Launch} {e : Env} {s : State} {m : MethodId} {args : Array Value} {below : List Frame} {meth : Method} {c : Code} {Q : State → Prop}
variable {D : va_G} {adr : Nat → Nat} {cA : Nat → ClassId} {μ ν : Mem}
theorem d_RE_countBelow_0 : decode prog_4_method_25_code 0 = .ok (.iconst 0, 1) := by decide +kernel
theorem d_RE_countBelow_1 : decode prog_4_method_25_code 1 = .ok (.istore 4, 2) := by decide +kernel
theorem d_RE_countBelow_3 : decode prog_4_method_25_code 3 = .ok (.iconst 0, 1) := by decide +kernel
theorem d_RE_countBelow_4 : decode prog_4_method_25_code 4 = .ok (.istore 5, 2) := by decide +kernel
theorem d_RE_countBelow_6 : decode prog_4_method_25_code 6 = .ok (.iload 5, 2) := by decide +kernel
theorem d_RE_countBelow_8 : decode prog_4_method_25_code 8 = .ok (.aload_n 0, 1) := by decide +kernel
theorem d_RE_countBelow_9 : decode prog_4_method_25_code 9 = .ok (.getfield 37, 3) := by decide +kernel
theorem d_RE_countBelow_12 : decode prog_4_method_25_code 12 = .ok (.if_icmp .ge 32, 3) := by decide +kernel
theorem d_RE_countBelow_15 : decode prog_4_method_25_code 15 = .ok (.lload_n 1, 1) := by decide +kernel
theorem d_RE_countBelow_16 : decode prog_4_method_25_code 16 = .ok (.iload 5, 2) := by decide +kernel
theorem d_RE_countBelow_18 : decode prog_4_method_25_code 18 = .ok (.invokestatic 67, 3) := by decide +kernel
theorem d_RE_countBelow_21 : decode prog_4_method_25_code 21 = .ok (.ifCond .eq 17, 3) := by decide +kernel
theorem d_RE_countBelow_24 : decode prog_4_method_25_code 24 = .ok (.aload_n 0, 1) := by decide +kernel
theorem d_RE_countBelow_25 : decode prog_4_method_25_code 25 = .ok (.getfield 9, 3) := by decide +kernel
theorem d_RE_countBelow_28 : decode prog_4_method_25_code 28 = .ok (.iload 5, 2) := by decide +kernel
theorem d_RE_countBelow_30 : decode prog_4_method_25_code 30 = .ok (.iaload, 1) := by decide +kernel
theorem d_RE_countBelow_31 : decode prog_4_method_25_code 31 = .ok (.iload_n 3, 1) := by decide +kernel
theorem d_RE_countBelow_32 : decode prog_4_method_25_code 32 = .ok (.if_icmp .ge 6, 3) := by decide +kernel
theorem d_RE_countBelow_35 : decode prog_4_method_25_code 35 = .ok (.iinc 4 1, 3) := by decide +kernel
theorem d_RE_countBelow_38 : decode prog_4_method_25_code 38 = .ok (.iinc 5 1, 3) := by decide +kernel
theorem d_RE_countBelow_41 : decode prog_4_method_25_code 41 = .ok (.goto (-35), 3) := by decide +kernel
theorem d_RE_countBelow_44 : decode prog_4_method_25_code 44 = .ok (.iload 4, 2) := by decide +kernel
theorem d_RE_countBelow_46 : decode prog_4_method_25_code 46 = .ok (.ireturn, 1) := by decide +kernel
set_option maxHeartbeats 4000000 in
set_option maxRecDepth 100000 in
theorem w_RE_countBelow_L6 (y1 : Int64) (y3 : Int32)  (C : Cx prog_4_method_25_code 6 "LakeRelief$Relief" (Option.some Jvm.ClassFile.FieldType.int) p s m args meth c) (hG : Geo D adr cA s) (v : Int32) (hE : ∀ (H : Heap) (locs : List Loc) (ls : Array Slot), va_P D cls (wld adr cA μ ν) H → va_S (AA adr) s.heap H locs → lv_has ls 6 [(4, .int v)] → W p l e rm_RE_countBelow s m args below meth c H locs 0 0 Q (F0 m 44 ls [])) : ∀ (n : Nat) (y4 : Int32) (y5 : Int32), f_RE_countBelow_L6 μ y1 y3 n y4 y5 = some v → ∀ {H : Heap} {locs : List Loc} {ls : Array Slot}, va_P D cls (wld adr cA μ ν) H → va_S (AA adr) s.heap H locs → lv_has ls 6 [(0, .ref (adr 18)), (1, .long y1), (3, .int y3), (4, .int y4), (5, .int y5)] → W p l e rm_RE_countBelow s m args below meth c H locs 0 0 Q (F0 m 6 ls []) := by
  obtain ⟨hx, hb, hml, hown, hts, hr, hlocks⟩ := id C
  intro n
  induction n with
  | zero => intro y4 y5 hf; rw [f_RE_countBelow_L6.eq_1] at hf; cases hf
  | succ n ih =>
    intro y4 y5 hf H locs ls hP hS hl
    rw [f_RE_countBelow_L6.eq_2] at hf
    refine lv_iload hx hb d_RE_countBelow_6 (lv_at hl 4 rfl) ?_
    refine lv_aload_n hx hb d_RE_countBelow_8 rfl (lv_at hl 0 rfl) ?_
    refine g_RE_size hx hb hts hown hG hP (hts _ in_59) d_RE_countBelow_9 ?_
    refine lv_icmp_ge (tgt := 44) hx hb d_RE_countBelow_12 (by decide) (fun hc => ?_) (fun hc => ?_)
    · replace hf := if_p hc hf
      obtain rfl := Option.some.inj hf
      exact hE _ _ _ hP hS (lv_sub hl [3] rfl)
    · replace hf := if_n hc hf
      refine lv_lload_n hx hb d_RE_countBelow_15 rfl (lv_at hl 1 rfl) ?_
      refine lv_iload hx hb d_RE_countBelow_16 (lv_at hl 4 rfl) ?_
      refine ki (kn (As := [.long y1, .int y5]) (rest := []) ⟨hx, hb, hml, hown, hts⟩ (cw_RE_67 hts hG ⟨Nat.le_of_ble_eq_true rfl, Nat.le_of_ble_eq_true rfl⟩) (c_LR_isIn l D adr cA μ ν y1 y5) hG hP rfl hl.1 (Nat.le_of_ble_eq_true rfl) d_RE_countBelow_18) hS (fun H locs hP hS => ?_)
      replace hf := B_some hf
      obtain ⟨v1, hv1, hf⟩ := hf
      have hJ : ∀ (H : Heap) (locs : List Loc) (ls : Array Slot), va_P D cls (wld adr cA μ ν) H → va_S (AA adr) s.heap H locs → lv_has ls 6 [(0, .ref (adr 18)), (1, .long y1), (3, .int y3), (4, .int v1), (5, .int y5)] → W p l e rm_RE_countBelow s m args below meth c H locs 0 0 Q (F0 m 38 ls []) := by
        clear hv1
        intro H locs ls hP hS hl
        refine lv_iinc (v := (y5 + 1)) (lv' := [(5, .int (y5 + 1)), (0, .ref (adr 18)), (1, .long y1), (3, .int y3), (4, .int v1)]) hx hb d_RE_countBelow_38 hl (k := 4) rfl rfl (by decide) rfl (fun ls hl => ?_)
        refine lv_goto (tgt := 6) hx hb d_RE_countBelow_41 (by decide) ?_
        exact ih _ _ hf hP hS (lv_sub hl [1, 2, 3, 4, 0] rfl)
      clear hf
      have hf := hv1
      clear hv1
      refine lv_if_eq (tgt := 38) hx hb d_RE_countBelow_21 (by decide) (fun hc => ?_) (fun hc => ?_)
      · replace hf := if_p hc hf
        obtain rfl := Option.some.inj hf
        exact hJ _ _ _ hP hS (lv_sub hl [0, 1, 2, 3, 4] rfl)
      · replace hf := if_n hc hf
        refine lv_aload_n hx hb d_RE_countBelow_24 rfl (lv_at hl 0 rfl) ?_
        refine g_RE_height hx hb hts hown hG hP (hts _ in_44) d_RE_countBelow_25 ?_
        refine lv_iload hx hb d_RE_countBelow_28 (lv_at hl 4 rfl) ?_
        replace hf := G_some hf
        obtain ⟨hi2, hf⟩ := hf
        refine r_iald hx hb hG hP 19 64 (f := μ.1 19) (by decide) (wc_C (by decide) rfl) hi2 d_RE_countBelow_30 ?_
        refine lv_iload_n hx hb d_RE_countBelow_31 rfl (lv_at hl 2 rfl) ?_
        refine lv_icmp_ge (tgt := 38) hx hb d_RE_countBelow_32 (by decide) (fun hc => ?_) (fun hc => ?_)
        · replace hf := if_p hc hf
          obtain rfl := Option.some.inj hf
          exact hJ _ _ _ hP hS (lv_sub hl [0, 1, 2, 3, 4] rfl)
        · replace hf := if_n hc hf
          refine lv_iinc (v := (y4 + 1)) (lv' := [(4, .int (y4 + 1)), (0, .ref (adr 18)), (1, .long y1), (3, .int y3), (5, .int y5)]) hx hb d_RE_countBelow_35 hl (k := 3) rfl rfl (by decide) rfl (fun ls hl => ?_)
          obtain rfl := Option.some.inj hf
          exact hJ _ _ _ hP hS (lv_sub hl [1, 2, 3, 0, 4] rfl)
set_option maxHeartbeats 4000000 in
set_option maxRecDepth 100000 in
theorem w_RE_countBelow (x1 : Int64) (x3 : Int32)  (C : Cx prog_4_method_25_code 6 "LakeRelief$Relief" (Option.some Jvm.ClassFile.FieldType.int) p s m args meth c) (hG : Geo D adr cA s) {res : Int32} (hf : f_RE_countBelow μ x1 x3 = some res) (hq : ∀ (pc : Nat) (ls : Array Slot) (H : Heap) (locs : List Loc), decode prog_4_method_25_code pc = .ok (.ireturn, 1) → va_P D cls (wld adr cA μ ν) H → va_S (AA adr) s.heap H locs → W p l e rm_RE_countBelow s m args below meth c H locs 0 0 Q (F0 m pc ls [.int res])) {H : Heap} {locs : List Loc} {ls : Array Slot} (hP : va_P D cls (wld adr cA μ ν) H) (hS : va_S (AA adr) s.heap H locs) (hl : lv_has ls 6 [(0, .ref (adr 18)), (1, .long x1), (3, .int x3)]) : W p l e rm_RE_countBelow s m args below meth c H locs 0 0 Q (F0 m 0 ls []) := by
  obtain ⟨hx, hb, hml, hown, hts, hr, hlocks⟩ := id C
  unfold f_RE_countBelow at hf
  refine lv_iconst (v := 0) hx hb d_RE_countBelow_0 (by decide) ?_
  refine lv_istore (lv' := [(4, .int 0), (0, .ref (adr 18)), (1, .long x1), (3, .int x3)]) hx hb d_RE_countBelow_1 hl (by decide) rfl (fun ls hl => ?_)
  refine lv_iconst (v := 0) hx hb d_RE_countBelow_3 (by decide) ?_
  refine lv_istore (lv' := [(5, .int 0), (4, .int 0), (0, .ref (adr 18)), (1, .long x1), (3, .int x3)]) hx hb d_RE_countBelow_4 hl (by decide) rfl (fun ls hl => ?_)
  replace hf := B_some hf
  obtain ⟨v3, hv3, hf⟩ := hf
  refine w_RE_countBelow_L6 x1 x3  C hG v3 ?_ FU _ _ hv3 hP hS (lv_sub hl [2, 3, 4, 1, 0] rfl)
  clear hv3 hP hS hl
  intro H locs ls hP hS hl
  refine lv_iload hx hb d_RE_countBelow_44 (lv_at hl 0 rfl) ?_
  obtain rfl := Option.some.inj hf
  exact hq _ _ _ _ d_RE_countBelow_46 hP hS
theorem c_RE_countBelow (l : Launch) (D : va_G) (adr : Nat → Nat) (cA : Nat → ClassId) (μ ν : Mem) (x1 : Int64) (x3 : Int32)  {res : Int32} (hf : f_RE_countBelow μ x1 x3 = some res) : Met l y_RE_countBelow (Cond.code y_RE_countBelow prog_4_method_25_code 6 (Option.some Jvm.ClassFile.FieldType.int) :: lw_ok) rm_RE_countBelow (va_Pc [.ref (adr 18), .long x1, .int x3] (Wd D adr cA μ ν)) (QI D adr cA res μ ν) 0 0 (AA adr) :=
  met_of (own := "LakeRelief$Relief") rfl rfl (Nat.le_of_ble_eq_true rfl) (fun p e s m below meth c C hG hP hS ls hl => w_RE_countBelow x1 x3  C hG hf (fun pc ls H locs hd hP hS => ret_i C.1 C.2.1 C.2.2.2.2.2.1 C.2.2.2.2.2.2 hG hd hP hS) hP hS hl)
end X_RE_countBelow
section X_RE_greatestDivisor
variable {p : Program} {l : Launch} {e : Env} {s : State} {m : MethodId} {args : Array Value} {below : List Frame} {meth : Method} {c : Code} {Q : State → Prop}
variable {D : va_G} {adr : Nat → Nat} {cA : Nat → ClassId} {μ ν : Mem}
theorem d_RE_greatestDivisor_0 : decode prog_4_method_27_code 0 = .ok (.iload_n 0, 1) := by decide +kernel
theorem d_RE_greatestDivisor_1 : decode prog_4_method_27_code 1 = .ok (.istore_n 2, 1) := by decide +kernel
theorem d_RE_greatestDivisor_2 : decode prog_4_method_27_code 2 = .ok (.iload_n 1, 1) := by decide +kernel
theorem d_RE_greatestDivisor_3 : decode prog_4_method_27_code 3 = .ok (.istore_n 3, 1) := by decide +kernel
theorem d_RE_greatestDivisor_4 : decode prog_4_method_27_code 4 = .ok (.iconst 0, 1) := by decide +kernel
theorem d_RE_greatestDivisor_5 : decode prog_4_method_27_code 5 = .ok (.istore 4, 2) := by decide +kernel
theorem d_RE_greatestDivisor_7 : decode prog_4_method_27_code 7 = .ok (.iload 4, 2) := by decide +kernel
theorem d_RE_greatestDivisor_9 : decode prog_4_method_27_code 9 = .ok (.bipush 64, 2) := by decide +kernel
theorem d_RE_greatestDivisor_11 : decode prog_4_method_27_code 11 = .ok (.if_icmp .ge 23, 3) := by decide +kernel
theorem d_RE_greatestDivisor_14 : decode prog_4_method_27_code 14 = .ok (.iload_n 3, 1) := by decide +kernel
theorem d_RE_greatestDivisor_15 : decode prog_4_method_27_code 15 = .ok (.ifCond .eq 19, 3) := by decide +kernel
theorem d_RE_greatestDivisor_18 : decode prog_4_method_27_code 18 = .ok (.iload_n 2, 1) := by decide +kernel
theorem d_RE_greatestDivisor_19 : decode prog_4_method_27_code 19 = .ok (.iload_n 3, 1) := by decide +kernel
theorem d_RE_greatestDivisor_20 : decode prog_4_method_27_code 20 = .ok (.irem, 1) := by decide +kernel
theorem d_RE_greatestDivisor_21 : decode prog_4_method_27_code 21 = .ok (.istore 5, 2) := by decide +kernel
theorem d_RE_greatestDivisor_23 : decode prog_4_method_27_code 23 = .ok (.iload_n 3, 1) := by decide +kernel
theorem d_RE_greatestDivisor_24 : decode prog_4_method_27_code 24 = .ok (.istore_n 2, 1) := by decide +kernel
theorem d_RE_greatestDivisor_25 : decode prog_4_method_27_code 25 = .ok (.iload 5, 2) := by decide +kernel
theorem d_RE_greatestDivisor_27 : decode prog_4_method_27_code 27 = .ok (.istore_n 3, 1) := by decide +kernel
theorem d_RE_greatestDivisor_28 : decode prog_4_method_27_code 28 = .ok (.iinc 4 1, 3) := by decide +kernel
theorem d_RE_greatestDivisor_31 : decode prog_4_method_27_code 31 = .ok (.goto (-24), 3) := by decide +kernel
theorem d_RE_greatestDivisor_34 : decode prog_4_method_27_code 34 = .ok (.iload_n 2, 1) := by decide +kernel
theorem d_RE_greatestDivisor_35 : decode prog_4_method_27_code 35 = .ok (.ireturn, 1) := by decide +kernel
set_option maxHeartbeats 4000000 in
set_option maxRecDepth 100000 in
theorem w_RE_greatestDivisor_L7   (C : Cx prog_4_method_27_code 6 "LakeRelief$Relief" (Option.some Jvm.ClassFile.FieldType.int) p s m args meth c) (hG : Geo D adr cA s) (v : Int32) (hE : ∀ (H : Heap) (locs : List Loc) (ls : Array Slot), va_P D cls (wld adr cA μ ν) H → va_S (AA adr) s.heap H locs → lv_has ls 6 [(2, .int v)] → W p l e rm_RE_greatestDivisor s m args below meth c H locs 0 0 Q (F0 m 34 ls [])) : ∀ (n : Nat) (y2 : Int32) (y3 : Int32) (y4 : Int32), f_RE_greatestDivisor_L7 n y2 y3 y4 = some v → ∀ {H : Heap} {locs : List Loc} {ls : Array Slot}, va_P D cls (wld adr cA μ ν) H → va_S (AA adr) s.heap H locs → lv_has ls 6 [(2, .int y2), (3, .int y3), (4, .int y4)] → W p l e rm_RE_greatestDivisor s m args below meth c H locs 0 0 Q (F0 m 7 ls []) := by
  obtain ⟨hx, hb, hml, hown, hts, hr, hlocks⟩ := id C
  intro n
  induction n with
  | zero => intro y2 y3 y4 hf; rw [f_RE_greatestDivisor_L7.eq_1] at hf; cases hf
  | succ n ih =>
    intro y2 y3 y4 hf H locs ls hP hS hl
    rw [f_RE_greatestDivisor_L7.eq_2] at hf
    refine lv_iload hx hb d_RE_greatestDivisor_7 (lv_at hl 2 rfl) ?_
    refine lv_bipush (v := 64) hx hb d_RE_greatestDivisor_9 (by decide) ?_
    refine lv_icmp_ge (tgt := 34) hx hb d_RE_greatestDivisor_11 (by decide) (fun hc => ?_) (fun hc => ?_)
    · replace hf := if_p hc hf
      obtain rfl := Option.some.inj hf
      exact hE _ _ _ hP hS (lv_sub hl [0] rfl)
    · replace hf := if_n hc hf
      refine lv_iload_n hx hb d_RE_greatestDivisor_14 rfl (lv_at hl 1 rfl) ?_
      refine lv_if_eq (tgt := 34) hx hb d_RE_greatestDivisor_15 (by decide) (fun hc => ?_) (fun hc => ?_)
      · replace hf := if_p hc hf
        obtain rfl := Option.some.inj hf
        exact hE _ _ _ hP hS (lv_sub hl [0] rfl)
      · replace hf := if_n hc hf
        refine lv_iload_n hx hb d_RE_greatestDivisor_18 rfl (lv_at hl 0 rfl) ?_
        refine lv_iload_n hx hb d_RE_greatestDivisor_19 rfl (lv_at hl 1 rfl) ?_
        replace hf := Zg_some hf
        obtain ⟨hz1, hf⟩ := hf
        refine lv_irem hx hb d_RE_greatestDivisor_20 hz1 ?_
        refine lv_istore (lv' := [(5, .int (y2 - y2 / y3 * y3)), (2, .int y2), (3, .int y3), (4, .int y4)]) hx hb d_RE_greatestDivisor_21 hl (by decide) rfl (fun ls hl => ?_)
        refine lv_iload_n hx hb d_RE_greatestDivisor_23 rfl (lv_at hl 2 rfl) ?_
        refine lv_istore_n (lv' := [(2, .int y3), (5, .int (y2 - y2 / y3 * y3)), (3, .int y3), (4, .int y4)]) hx hb d_RE_greatestDivisor_24 rfl hl (by decide) rfl (fun ls hl => ?_)
        refine lv_iload hx hb d_RE_greatestDivisor_25 (lv_at hl 1 rfl) ?_
        refine lv_istore_n (lv' := [(3, .int (y2 - y2 / y3 * y3)), (2, .int y3), (5, .int (y2 - y2 / y3 * y3)), (4, .int y4)]) hx hb d_RE_greatestDivisor_27 rfl hl (by decide) rfl (fun ls hl => ?_)
        refine lv_iinc (v := (y4 + 1)) (lv' := [(4, .int (y4 + 1)), (3, .int (y2 - y2 / y3 * y3)), (2, .int y3), (5, .int (y2 - y2 / y3 * y3))]) hx hb d_RE_greatestDivisor_28 hl (k := 3) rfl rfl (by decide) rfl (fun ls hl => ?_)
        refine lv_goto (tgt := 7) hx hb d_RE_greatestDivisor_31 (by decide) ?_
        exact ih _ _ _ hf hP hS (lv_sub hl [2, 1, 0] rfl)
set_option maxHeartbeats 4000000 in
set_option maxRecDepth 100000 in
theorem w_RE_greatestDivisor (x0 : Int32) (x1 : Int32)  (C : Cx prog_4_method_27_code 6 "LakeRelief$Relief" (Option.some Jvm.ClassFile.FieldType.int) p s m args meth c) (hG : Geo D adr cA s) {res : Int32} (hf : f_RE_greatestDivisor x0 x1 = some res) (hq : ∀ (pc : Nat) (ls : Array Slot) (H : Heap) (locs : List Loc), decode prog_4_method_27_code pc = .ok (.ireturn, 1) → va_P D cls (wld adr cA μ ν) H → va_S (AA adr) s.heap H locs → W p l e rm_RE_greatestDivisor s m args below meth c H locs 0 0 Q (F0 m pc ls [.int res])) {H : Heap} {locs : List Loc} {ls : Array Slot} (hP : va_P D cls (wld adr cA μ ν) H) (hS : va_S (AA adr) s.heap H locs) (hl : lv_has ls 6 [(0, .int x0), (1, .int x1)]) : W p l e rm_RE_greatestDivisor s m args below meth c H locs 0 0 Q (F0 m 0 ls []) := by
  obtain ⟨hx, hb, hml, hown, hts, hr, hlocks⟩ := id C
  unfold f_RE_greatestDivisor at hf
  refine lv_iload_n hx hb d_RE_greatestDivisor_0 rfl (lv_at hl 0 rfl) ?_
  refine lv_istore_n (lv' := [(2, .int x0), (0, .int x0), (1, .int x1)]) hx hb d_RE_greatestDivisor_1 rfl hl (by decide) rfl (fun ls hl => ?_)
  refine lv_iload_n hx hb d_RE_greatestDivisor_2 rfl (lv_at hl 2 rfl) ?_
  refine lv_istore_n (lv' := [(3, .int x1), (2, .int x0), (0, .int x0), (1, .int x1)]) hx hb d_RE_greatestDivisor_3 rfl hl (by decide) rfl (fun ls hl => ?_)
  refine lv_iconst (v := 0) hx hb d_RE_greatestDivisor_4 (by decide) ?_
  refine lv_istore (lv' := [(4, .int 0), (3, .int x1), (2, .int x0), (0, .int x0), (1, .int x1)]) hx hb d_RE_greatestDivisor_5 hl (by decide) rfl (fun ls hl => ?_)
  replace hf := B_some hf
  obtain ⟨v2, hv2, hf⟩ := hf
  refine w_RE_greatestDivisor_L7   C hG v2 ?_ FU _ _ _ hv2 hP hS (lv_sub hl [2, 1, 0] rfl)
  clear hv2 hP hS hl
  intro H locs ls hP hS hl
  refine lv_iload_n hx hb d_RE_greatestDivisor_34 rfl (lv_at hl 0 rfl) ?_
  obtain rfl := Option.some.inj hf
  exact hq _ _ _ _ d_RE_greatestDivisor_35 hP hS
theorem c_RE_greatestDivisor (l : Launch) (D : va_G) (adr : Nat → Nat) (cA : Nat → ClassId) (μ ν : Mem) (x0 : Int32) (x1 : Int32)  {res : Int32} (hf : f_RE_greatestDivisor x0 x1 = some res) : Met l y_RE_greatestDivisor (Cond.code y_RE_greatestDivisor prog_4_method_27_code 6 (Option.some Jvm.ClassFile.FieldType.int) :: lw_ok) rm_RE_greatestDivisor (va_Pc [.int x0, .int x1] (Wd D adr cA μ ν)) (QI D adr cA res μ ν) 0 0 (AA adr) :=
  met_of (own := "LakeRelief$Relief") rfl rfl (Nat.le_of_ble_eq_true rfl) (fun p e s m below meth c C hG hP hS ls hl => w_RE_greatestDivisor x0 x1  C hG hf (fun pc ls H locs hd hP hS => ret_i C.1 C.2.1 C.2.2.2.2.2.1 C.2.2.2.2.2.2 hG hd hP hS) hP hS hl)
end X_RE_greatestDivisor
section X_RE_surface
variable {p : Program} {l : Launch} {e : Env} {s : State} {m : MethodId} {args : Array Value} {below : List Frame} {meth : Method} {c : Code} {Q : State → Prop}
variable {D : va_G} {adr : Nat → Nat} {cA : Nat → ClassId} {μ ν : Mem}
theorem d_RE_surface_0 : decode prog_4_method_26_code 0 = .ok (.iload_n 3, 1) := by decide +kernel
theorem d_RE_surface_1 : decode prog_4_method_26_code 1 = .ok (.istore 5, 2) := by decide +kernel
theorem d_RE_surface_3 : decode prog_4_method_26_code 3 = .ok (.iconst 0, 1) := by decide +kernel
theorem d_RE_surface_4 : decode prog_4_method_26_code 4 = .ok (.istore 6, 2) := by decide +kernel
theorem d_RE_surface_6 : decode prog_4_method_26_code 6 = .ok (.iconst 0, 1) := by decide +kernel
theorem d_RE_surface_7 : decode prog_4_method_26_code 7 = .ok (.istore 7, 2) := by decide +kernel
theorem d_RE_surface_9 : decode prog_4_method_26_code 9 = .ok (.iload 7, 2) := by decide +kernel
theorem d_RE_surface_11 : decode prog_4_method_26_code 11 = .ok (.aload_n 0, 1) := by decide +kernel
theorem d_RE_surface_12 : decode prog_4_method_26_code 12 = .ok (.getfield 40, 3) := by decide +kernel
theorem d_RE_surface_15 : decode prog_4_method_26_code 15 = .ok (.if_icmp .ge 66, 3) := by decide +kernel
theorem d_RE_surface_18 : decode prog_4_method_26_code 18 = .ok (.aload_n 0, 1) := by decide +kernel
theorem d_RE_surface_19 : decode prog_4_method_26_code 19 = .ok (.getfield 24, 3) := by decide +kernel
theorem d_RE_surface_22 : decode prog_4_method_26_code 22 = .ok (.iload 7, 2) := by decide +kernel
theorem d_RE_surface_24 : decode prog_4_method_26_code 24 = .ok (.iaload, 1) := by decide +kernel
theorem d_RE_surface_25 : decode prog_4_method_26_code 25 = .ok (.istore 8, 2) := by decide +kernel
theorem d_RE_surface_27 : decode prog_4_method_26_code 27 = .ok (.lload_n 1, 1) := by decide +kernel
theorem d_RE_surface_28 : decode prog_4_method_26_code 28 = .ok (.iload 8, 2) := by decide +kernel
theorem d_RE_surface_30 : decode prog_4_method_26_code 30 = .ok (.invokestatic 67, 3) := by decide +kernel
theorem d_RE_surface_33 : decode prog_4_method_26_code 33 = .ok (.ifCond .eq 42, 3) := by decide +kernel
theorem d_RE_surface_36 : decode prog_4_method_26_code 36 = .ok (.iload 6, 2) := by decide +kernel
theorem d_RE_surface_38 : decode prog_4_method_26_code 38 = .ok (.ifCond .eq 22, 3) := by decide +kernel
theorem d_RE_surface_41 : decode prog_4_method_26_code 41 = .ok (.iload 5, 2) := by decide +kernel
theorem d_RE_surface_43 : decode prog_4_method_26_code 43 = .ok (.i2l, 1) := by decide +kernel
theorem d_RE_surface_44 : decode prog_4_method_26_code 44 = .ok (.aload_n 0, 1) := by decide +kernel
theorem d_RE_surface_45 : decode prog_4_method_26_code 45 = .ok (.getfield 9, 3) := by decide +kernel
theorem d_RE_surface_48 : decode prog_4_method_26_code 48 = .ok (.iload 8, 2) := by decide +kernel
theorem d_RE_surface_50 : decode prog_4_method_26_code 50 = .ok (.iaload, 1) := by decide +kernel
theorem d_RE_surface_51 : decode prog_4_method_26_code 51 = .ok (.i2l, 1) := by decide +kernel
theorem d_RE_surface_52 : decode prog_4_method_26_code 52 = .ok (.iload 6, 2) := by decide +kernel
theorem d_RE_surface_54 : decode prog_4_method_26_code 54 = .ok (.i2l, 1) := by decide +kernel
theorem d_RE_surface_55 : decode prog_4_method_26_code 55 = .ok (.lmul, 1) := by decide +kernel
theorem d_RE_surface_56 : decode prog_4_method_26_code 56 = .ok (.lcmp, 1) := by decide +kernel
theorem d_RE_surface_57 : decode prog_4_method_26_code 57 = .ok (.ifCond .le 18, 3) := by decide +kernel
theorem d_RE_surface_60 : decode prog_4_method_26_code 60 = .ok (.iload 5, 2) := by decide +kernel
theorem d_RE_surface_62 : decode prog_4_method_26_code 62 = .ok (.aload_n 0, 1) := by decide +kernel
theorem d_RE_surface_63 : decode prog_4_method_26_code 63 = .ok (.getfield 9, 3) := by decide +kernel
theorem d_RE_surface_66 : decode prog_4_method_26_code 66 = .ok (.iload 8, 2) := by decide +kernel
theorem d_RE_surface_68 : decode prog_4_method_26_code 68 = .ok (.iaload, 1) := by decide +kernel
theorem d_RE_surface_69 : decode prog_4_method_26_code 69 = .ok (.iadd, 1) := by decide +kernel
theorem d_RE_surface_70 : decode prog_4_method_26_code 70 = .ok (.istore 5, 2) := by decide +kernel
theorem d_RE_surface_72 : decode prog_4_method_26_code 72 = .ok (.iinc 6 1, 3) := by decide +kernel
theorem d_RE_surface_75 : decode prog_4_method_26_code 75 = .ok (.iinc 7 1, 3) := by decide +kernel
theorem d_RE_surface_78 : decode prog_4_method_26_code 78 = .ok (.goto (-69), 3) := by decide +kernel
theorem d_RE_surface_81 : decode prog_4_method_26_code 81 = .ok (.iload 5, 2) := by decide +kernel
theorem d_RE_surface_83 : decode prog_4_method_26_code 83 = .ok (.invokestatic 120, 3) := by decide +kernel
theorem d_RE_surface_86 : decode prog_4_method_26_code 86 = .ok (.iload 6, 2) := by decide +kernel
theorem d_RE_surface_88 : decode prog_4_method_26_code 88 = .ok (.invokestatic 123, 3) := by decide +kernel
theorem d_RE_surface_91 : decode prog_4_method_26_code 91 = .ok (.istore 7, 2) := by decide +kernel
theorem d_RE_surface_93 : decode prog_4_method_26_code 93 = .ok (.iload 7, 2) := by decide +kernel
theorem d_RE_surface_95 : decode prog_4_method_26_code 95 = .ok (.ifCond .ne 14, 3) := by decide +kernel
theorem d_RE_surface_98 : decode prog_4_method_26_code 98 = .ok (.iload 4, 2) := by decide +kernel
theorem d_RE_surface_100 : decode prog_4_method_26_code 100 = .ok (.ifCond .eq 7, 3) := by decide +kernel
theorem d_RE_surface_103 : decode prog_4_method_26_code 103 = .ok (.iconst 0, 1) := by decide +kernel
theorem d_RE_surface_104 : decode prog_4_method_26_code 104 = .ok (.goto 4, 3) := by decide +kernel
theorem d_RE_surface_107 : decode prog_4_method_26_code 107 = .ok (.iconst 1, 1) := by decide +kernel
theorem d_RE_surface_108 : decode prog_4_method_26_code 108 = .ok (.ireturn, 1) := by decide +kernel
theorem d_RE_surface_109 : decode prog_4_method_26_code 109 = .ok (.iload 4, 2) := by decide +kernel
theorem d_RE_surface_111 : decode prog_4_method_26_code 111 = .ok (.ifCond .eq 8, 3) := by decide +kernel
theorem d_RE_surface_114 : decode prog_4_method_26_code 114 = .ok (.iload 5, 2) := by decide +kernel
theorem d_RE_surface_116 : decode prog_4_method_26_code 116 = .ok (.goto 5, 3) := by decide +kernel
theorem d_RE_surface_119 : decode prog_4_method_26_code 119 = .ok (.iload 6, 2) := by decide +kernel
theorem d_RE_surface_121 : decode prog_4_method_26_code 121 = .ok (.iload 7, 2) := by decide +kernel
theorem d_RE_surface_123 : decode prog_4_method_26_code 123 = .ok (.idiv, 1) := by decide +kernel
theorem d_RE_surface_124 : decode prog_4_method_26_code 124 = .ok (.ireturn, 1) := by decide +kernel
set_option maxHeartbeats 4000000 in
set_option maxRecDepth 100000 in
theorem w_RE_surface_L9 (y1 : Int64) (y4 : Int32)  (C : Cx prog_4_method_26_code 9 "LakeRelief$Relief" (Option.some Jvm.ClassFile.FieldType.int) p s m args meth c) (hG : Geo D adr cA s) (v : Int32 × Int32) (hE : ∀ (H : Heap) (locs : List Loc) (ls : Array Slot), va_P D cls (wld adr cA μ ν) H → va_S (AA adr) s.heap H locs → lv_has ls 9 [(4, .int y4), (5, .int v.1), (6, .int v.2)] → W p l e rm_RE_surface s m args below meth c H locs 0 0 Q (F0 m 81 ls [])) : ∀ (n : Nat) (y5 : Int32) (y6 : Int32) (y7 : Int32), f_RE_surface_L9 μ y1 y4 n y5 y6 y7 = some v → ∀ {H : Heap} {locs : List Loc} {ls : Array Slot}, va_P D cls (wld adr cA μ ν) H → va_S (AA adr) s.heap H locs → lv_has ls 9 [(0, .ref (adr 18)), (1, .long y1), (4, .int y4), (5, .int y5), (6, .int y6), (7, .int y7)] → W p l e rm_RE_surface s m args below meth c H locs 0 0 Q (F0 m 9 ls []) := by
  obtain ⟨hx, hb, hml, hown, hts, hr, hlocks⟩ := id C
  intro n
  induction n with
  | zero => intro y5 y6 y7 hf; rw [f_RE_surface_L9.eq_1] at hf; cases hf
  | succ n ih =>
    intro y5 y6 y7 hf H locs ls hP hS hl
    rw [f_RE_surface_L9.eq_2] at hf
    refine lv_iload hx hb d_RE_surface_9 (lv_at hl 5 rfl) ?_
    refine lv_aload_n hx hb d_RE_surface_11 rfl (lv_at hl 0 rfl) ?_
    refine g_RE_landCount hx hb hts hown hG hP (hts _ in_61) d_RE_surface_12 ?_
    refine lv_icmp_ge (tgt := 81) hx hb d_RE_surface_15 (by decide) (fun hc => ?_) (fun hc => ?_)
    · replace hf := if_p hc hf
      obtain rfl := Option.some.inj hf
      exact hE _ _ _ hP hS (lv_sub hl [2, 3, 4] rfl)
    · replace hf := if_n hc hf
      refine lv_aload_n hx hb d_RE_surface_18 rfl (lv_at hl 0 rfl) ?_
      refine g_RE_order hx hb hts hown hG hP (hts _ in_54) d_RE_surface_19 ?_
      refine lv_iload hx hb d_RE_surface_22 (lv_at hl 5 rfl) ?_
      replace hf := G_some hf
      obtain ⟨hi1, hf⟩ := hf
      refine r_iald hx hb hG hP 23 64 (f := μ.1 23) (by decide) (wc_C (by decide) rfl) hi1 d_RE_surface_24 ?_
      refine lv_istore (lv' := [(8, .int (μ.1 23 y7.toNatClampNeg)), (0, .ref (adr 18)), (1, .long y1), (4, .int y4), (5, .int y5), (6, .int y6), (7, .int y7)]) hx hb d_RE_surface_25 hl (by decide) rfl (fun ls hl => ?_)
      refine lv_lload_n hx hb d_RE_surface_27 rfl (lv_at hl 2 rfl) ?_
      refine lv_iload hx hb d_RE_surface_28 (lv_at hl 0 rfl) ?_
      refine ki (kn (As := [.long y1, .int (μ.1 23 y7.toNatClampNeg)]) (rest := []) ⟨hx, hb, hml, hown, hts⟩ (cw_RE_67 hts hG ⟨Nat.le_of_ble_eq_true rfl, Nat.le_of_ble_eq_true rfl⟩) (c_LR_isIn l D adr cA μ ν y1 (μ.1 23 y7.toNatClampNeg)) hG hP rfl hl.1 (Nat.le_of_ble_eq_true rfl) d_RE_surface_30) hS (fun H locs hP hS => ?_)
      replace hf := B_some hf
      obtain ⟨v2, hv2, hf⟩ := hf
      have hJ : ∀ (H : Heap) (locs : List Loc) (ls : Array Slot), va_P D cls (wld adr cA μ ν) H → va_S (AA adr) s.heap H locs → lv_has ls 9 [(0, .ref (adr 18)), (1, .long y1), (4, .int y4), (5, .int v2.1), (6, .int v2.2), (7, .int y7)] → W p l e rm_RE_surface s m args below meth c H locs 0 0 Q (F0 m 75 ls []) := by
        clear hv2
        intro H locs ls hP hS hl
        refine lv_iinc (v := (y7 + 1)) (lv' := [(7, .int (y7 + 1)), (0, .ref (adr 18)), (1, .long y1), (4, .int y4), (5, .int v2.1), (6, .int v2.2)]) hx hb d_RE_surface_75 hl (k := 5) rfl rfl (by decide) rfl (fun ls hl => ?_)
        refine lv_goto (tgt := 9) hx hb d_RE_surface_78 (by decide) ?_
        exact ih _ _ _ hf hP hS (lv_sub hl [1, 2, 3, 4, 5, 0] rfl)
      clear hf
      have hf := hv2
      clear hv2
      refine lv_if_eq (tgt := 75) hx hb d_RE_surface_33 (by decide) (fun hc => ?_) (fun hc => ?_)
      · replace hf := if_p hc hf
        obtain rfl := Option.some.inj hf
        exact hJ _ _ _ hP hS (lv_sub hl [1, 2, 3, 4, 5, 6] rfl)
      · replace hf := if_n hc hf
        refine lv_iload hx hb d_RE_surface_36 (lv_at hl 5 rfl) ?_
        refine lv_if_eq (tgt := 60) hx hb d_RE_surface_38 (by decide) (fun hc => ?_) (fun hc => ?_)
        · replace hf := if_p hc hf
          refine lv_iload hx hb d_RE_surface_60 (lv_at hl 4 rfl) ?_
          refine lv_aload_n hx hb d_RE_surface_62 rfl (lv_at hl 1 rfl) ?_
          refine g_RE_height hx hb hts hown hG hP (hts _ in_44) d_RE_surface_63 ?_
          refine lv_iload hx hb d_RE_surface_66 (lv_at hl 0 rfl) ?_
          replace hf := G_some hf
          obtain ⟨hi3, hf⟩ := hf
          refine r_iald hx hb hG hP 19 64 (f := μ.1 19) (by decide) (wc_C (by decide) rfl) hi3 d_RE_surface_68 ?_
          refine lv_iadd hx hb d_RE_surface_69 ?_
          refine lv_istore (lv' := [(5, .int (y5 + (μ.1 19 (μ.1 23 y7.toNatClampNeg).toNatClampNeg))), (8, .int (μ.1 23 y7.toNatClampNeg)), (0, .ref (adr 18)), (1, .long y1), (4, .int y4), (6, .int y6), (7, .int y7)]) hx hb d_RE_surface_70 hl (by decide) rfl (fun ls hl => ?_)
          refine lv_iinc (v := (y6 + 1)) (lv' := [(6, .int (y6 + 1)), (5, .int (y5 + (μ.1 19 (μ.1 23 y7.toNatClampNeg).toNatClampNeg))), (8, .int (μ.1 23 y7.toNatClampNeg)), (0, .ref (adr 18)), (1, .long y1), (4, .int y4), (7, .int y7)]) hx hb d_RE_surface_72 hl (k := 5) rfl rfl (by decide) rfl (fun ls hl => ?_)
          obtain rfl := Option.some.inj hf
          exact hJ _ _ _ hP hS (lv_sub hl [3, 4, 5, 1, 0, 6] rfl)
        · replace hf := if_n hc hf
          refine lv_iload hx hb d_RE_surface_41 (lv_at hl 4 rfl) ?_
          refine lv_i2l hx hb d_RE_surface_43 rfl ?_
          refine lv_aload_n hx hb d_RE_surface_44 rfl (lv_at hl 1 rfl) ?_
          refine g_RE_height hx hb hts hown hG hP (hts _ in_44) d_RE_surface_45 ?_
          refine lv_iload hx hb d_RE_surface_48 (lv_at hl 0 rfl) ?_
          replace hf := G_some hf
          obtain ⟨hi4, hf⟩ := hf
          refine r_iald hx hb hG hP 19 64 (f := μ.1 19) (by decide) (wc_C (by decide) rfl) hi4 d_RE_surface_50 ?_
          refine lv_i2l hx hb d_RE_surface_51 rfl ?_
          refine lv_iload hx hb d_RE_surface_52 (lv_at hl 5 rfl) ?_
          refine lv_i2l hx hb d_RE_surface_54 rfl ?_
          refine lv_lmul hx hb d_RE_surface_55 ?_
          refine W.lcmp hx hb d_RE_surface_56 ?_
          refine lv_if_le (tgt := 75) hx hb d_RE_surface_57 (by decide) (fun hc => ?_) (fun hc => ?_)
          · replace hf := if_p hc hf
            obtain rfl := Option.some.inj hf
            exact hJ _ _ _ hP hS (lv_sub hl [1, 2, 3, 4, 5, 6] rfl)
          · replace hf := if_n hc hf
            refine lv_iload hx hb d_RE_surface_60 (lv_at hl 4 rfl) ?_
            refine lv_aload_n hx hb d_RE_surface_62 rfl (lv_at hl 1 rfl) ?_
            refine g_RE_height hx hb hts hown hG hP (hts _ in_44) d_RE_surface_63 ?_
            refine lv_iload hx hb d_RE_surface_66 (lv_at hl 0 rfl) ?_
            replace hf := G_some hf
            obtain ⟨hi5, hf⟩ := hf
            refine r_iald hx hb hG hP 19 64 (f := μ.1 19) (by decide) (wc_C (by decide) rfl) hi5 d_RE_surface_68 ?_
            refine lv_iadd hx hb d_RE_surface_69 ?_
            refine lv_istore (lv' := [(5, .int (y5 + (μ.1 19 (μ.1 23 y7.toNatClampNeg).toNatClampNeg))), (8, .int (μ.1 23 y7.toNatClampNeg)), (0, .ref (adr 18)), (1, .long y1), (4, .int y4), (6, .int y6), (7, .int y7)]) hx hb d_RE_surface_70 hl (by decide) rfl (fun ls hl => ?_)
            refine lv_iinc (v := (y6 + 1)) (lv' := [(6, .int (y6 + 1)), (5, .int (y5 + (μ.1 19 (μ.1 23 y7.toNatClampNeg).toNatClampNeg))), (8, .int (μ.1 23 y7.toNatClampNeg)), (0, .ref (adr 18)), (1, .long y1), (4, .int y4), (7, .int y7)]) hx hb d_RE_surface_72 hl (k := 5) rfl rfl (by decide) rfl (fun ls hl => ?_)
            obtain rfl := Option.some.inj hf
            exact hJ _ _ _ hP hS (lv_sub hl [3, 4, 5, 1, 0, 6] rfl)
set_option maxHeartbeats 4000000 in
set_option maxRecDepth 100000 in
theorem w_RE_surface (x1 : Int64) (x3 : Int32) (x4 : Int32)  (C : Cx prog_4_method_26_code 9 "LakeRelief$Relief" (Option.some Jvm.ClassFile.FieldType.int) p s m args meth c) (hG : Geo D adr cA s) {res : Int32} (hf : f_RE_surface μ x1 x3 x4 = some res) (hq : ∀ (pc : Nat) (ls : Array Slot) (H : Heap) (locs : List Loc), decode prog_4_method_26_code pc = .ok (.ireturn, 1) → va_P D cls (wld adr cA μ ν) H → va_S (AA adr) s.heap H locs → W p l e rm_RE_surface s m args below meth c H locs 0 0 Q (F0 m pc ls [.int res])) {H : Heap} {locs : List Loc} {ls : Array Slot} (hP : va_P D cls (wld adr cA μ ν) H) (hS : va_S (AA adr) s.heap H locs) (hl : lv_has ls 9 [(0, .ref (adr 18)), (1, .long x1), (3, .int x3), (4, .int x4)]) : W p l e rm_RE_surface s m args below meth c H locs 0 0 Q (F0 m 0 ls []) := by
  obtain ⟨hx, hb, hml, hown, hts, hr, hlocks⟩ := id C
  unfold f_RE_surface at hf
  refine lv_iload_n hx hb d_RE_surface_0 rfl (lv_at hl 2 rfl) ?_
  refine lv_istore (lv' := [(5, .int x3), (0, .ref (adr 18)), (1, .long x1), (3, .int x3), (4, .int x4)]) hx hb d_RE_surface_1 hl (by decide) rfl (fun ls hl => ?_)
  refine lv_iconst (v := 0) hx hb d_RE_surface_3 (by decide) ?_
  refine lv_istore (lv' := [(6, .int 0), (5, .int x3), (0, .ref (adr 18)), (1, .long x1), (3, .int x3), (4, .int x4)]) hx hb d_RE_surface_4 hl (by decide) rfl (fun ls hl => ?_)
  refine lv_iconst (v := 0) hx hb d_RE_surface_6 (by decide) ?_
  refine lv_istore (lv' := [(7, .int 0), (6, .int 0), (5, .int x3), (0, .ref (adr 18)), (1, .long x1), (3, .int x3), (4, .int x4)]) hx hb d_RE_surface_7 hl (by decide) rfl (fun ls hl => ?_)
  replace hf := B_some hf
  obtain ⟨v6, hv6, hf⟩ := hf
  refine w_RE_surface_L9 x1 x4  C hG v6 ?_ FU _ _ _ hv6 hP hS (lv_sub hl [3, 4, 6, 2, 1, 0] rfl)
  clear hv6 hP hS hl
  intro H locs ls hP hS hl
  refine lv_iload hx hb d_RE_surface_81 (lv_at hl 1 rfl) ?_
  refine va_mabs hx hb (hml.trans hl.1.symm) hown (hts _ in_506) (hts _ in_507) (hts _ in_6) (hts _ in_508) (Nat.le_of_ble_eq_true rfl) (Nat.le_of_ble_eq_true rfl) (Nat.zero_le _) (Nat.zero_le _) d_RE_surface_83 ?_
  refine lv_iload hx hb d_RE_surface_86 (lv_at hl 2 rfl) ?_
  replace hf := B_some hf
  obtain ⟨v7, hv7, hf⟩ := hf
  refine ki (ks (As := [.int (if 0 ≤ v6.1 then v6.1 else 0 - v6.1), .int v6.2]) (rest := []) ⟨hx, hb, hml, hown, hts⟩ (cw_RE_123 hts ⟨Nat.le_of_ble_eq_true rfl, Nat.le_of_ble_eq_true rfl⟩) (c_RE_greatestDivisor l D adr cA μ ν (if 0 ≤ v6.1 then v6.1 else 0 - v6.1) v6.2 hv7) hG hP rfl hl.1 (Nat.le_of_ble_eq_true rfl) d_RE_surface_88) hS (fun H locs hP hS => ?_)
  refine lv_istore (lv' := [(7, .int v7), (4, .int x4), (5, .int v6.1), (6, .int v6.2)]) hx hb d_RE_surface_91 hl (by decide) rfl (fun ls hl => ?_)
  refine lv_iload hx hb d_RE_surface_93 (lv_at hl 0 rfl) ?_
  refine lv_if_ne (tgt := 109) hx hb d_RE_surface_95 (by decide) (fun hc => ?_) (fun hc => ?_)
  · replace hf := if_n hc hf
    refine lv_iload hx hb d_RE_surface_109 (lv_at hl 1 rfl) ?_
    replace hf := B_some hf
    obtain ⟨v8, hv8, hf⟩ := hf
    have hJ : ∀ (H : Heap) (locs : List Loc) (ls : Array Slot), va_P D cls (wld adr cA μ ν) H → va_S (AA adr) s.heap H locs → lv_has ls 9 [(7, .int v7)] → W p l e rm_RE_surface s m args below meth c H locs 0 0 Q (F0 m 121 ls [.int v8]) := by
      clear hv8
      intro H locs ls hP hS hl
      refine lv_iload hx hb d_RE_surface_121 (lv_at hl 0 rfl) ?_
      replace hf := Zg_some hf
      obtain ⟨hz9, hf⟩ := hf
      refine lv_idiv hx hb d_RE_surface_123 hz9 ?_
      obtain rfl := Option.some.inj hf
      exact hq _ _ _ _ d_RE_surface_124 hP hS
    clear hf
    have hf := hv8
    clear hv8
    refine lv_if_eq (tgt := 119) hx hb d_RE_surface_111 (by decide) (fun hc => ?_) (fun hc => ?_)
    · replace hf := if_p hc hf
      refine lv_iload hx hb d_RE_surface_119 (lv_at hl 3 rfl) ?_
      obtain rfl := Option.some.inj hf
      exact hJ _ _ _ hP hS (lv_sub hl [0] rfl)
    · replace hf := if_n hc hf
      refine lv_iload hx hb d_RE_surface_114 (lv_at hl 2 rfl) ?_
      refine lv_goto (tgt := 121) hx hb d_RE_surface_116 (by decide) ?_
      obtain rfl := Option.some.inj hf
      exact hJ _ _ _ hP hS (lv_sub hl [0] rfl)
  · replace hf := if_p hc hf
    refine lv_iload hx hb d_RE_surface_98 (lv_at hl 1 rfl) ?_
    refine lv_if_eq (tgt := 107) hx hb d_RE_surface_100 (by decide) (fun hc => ?_) (fun hc => ?_)
    · replace hf := if_p hc hf
      refine lv_iconst (v := 1) hx hb d_RE_surface_107 (by decide) ?_
      obtain rfl := Option.some.inj hf
      exact hq _ _ _ _ d_RE_surface_108 hP hS
    · replace hf := if_n hc hf
      refine lv_iconst (v := 0) hx hb d_RE_surface_103 (by decide) ?_
      refine lv_goto (tgt := 108) hx hb d_RE_surface_104 (by decide) ?_
      obtain rfl := Option.some.inj hf
      exact hq _ _ _ _ d_RE_surface_108 hP hS
theorem c_RE_surface (l : Launch) (D : va_G) (adr : Nat → Nat) (cA : Nat → ClassId) (μ ν : Mem) (x1 : Int64) (x3 : Int32) (x4 : Int32)  {res : Int32} (hf : f_RE_surface μ x1 x3 x4 = some res) : Met l y_RE_surface (Cond.code y_RE_surface prog_4_method_26_code 9 (Option.some Jvm.ClassFile.FieldType.int) :: lw_ok) rm_RE_surface (va_Pc [.ref (adr 18), .long x1, .int x3, .int x4] (Wd D adr cA μ ν)) (QI D adr cA res μ ν) 0 0 (AA adr) :=
  met_of (own := "LakeRelief$Relief") rfl rfl (Nat.le_of_ble_eq_true rfl) (fun p e s m below meth c C hG hP hS ls hl => w_RE_surface x1 x3 x4  C hG hf (fun pc ls H locs hd hP hS => ret_i C.1 C.2.1 C.2.2.2.2.2.1 C.2.2.2.2.2.2 hG hd hP hS) hP hS hl)
end X_RE_surface
section X_RE_landLeftAt
variable {p : Program} {l : Launch} {e : Env} {s : State} {m : MethodId} {args : Array Value} {below : List Frame} {meth : Method} {c : Code} {Q : State → Prop}
variable {D : va_G} {adr : Nat → Nat} {cA : Nat → ClassId} {μ ν : Mem}
theorem d_RE_landLeftAt_0 : decode prog_4_method_28_code 0 = .ok (.lconst 0, 1) := by decide +kernel
theorem d_RE_landLeftAt_1 : decode prog_4_method_28_code 1 = .ok (.lstore_n 2, 1) := by decide +kernel
theorem d_RE_landLeftAt_2 : decode prog_4_method_28_code 2 = .ok (.iconst 0, 1) := by decide +kernel
theorem d_RE_landLeftAt_3 : decode prog_4_method_28_code 3 = .ok (.istore 4, 2) := by decide +kernel
theorem d_RE_landLeftAt_5 : decode prog_4_method_28_code 5 = .ok (.iload 4, 2) := by decide +kernel
theorem d_RE_landLeftAt_7 : decode prog_4_method_28_code 7 = .ok (.aload_n 0, 1) := by decide +kernel
theorem d_RE_landLeftAt_8 : decode prog_4_method_28_code 8 = .ok (.getfield 40, 3) := by decide +kernel
theorem d_RE_landLeftAt_11 : decode prog_4_method_28_code 11 = .ok (.if_icmp .ge 37, 3) := by decide +kernel
theorem d_RE_landLeftAt_14 : decode prog_4_method_28_code 14 = .ok (.aload_n 0, 1) := by decide +kernel
theorem d_RE_landLeftAt_15 : decode prog_4_method_28_code 15 = .ok (.getfield 24, 3) := by decide +kernel
theorem d_RE_landLeftAt_18 : decode prog_4_method_28_code 18 = .ok (.iload 4, 2) := by decide +kernel
theorem d_RE_landLeftAt_20 : decode prog_4_method_28_code 20 = .ok (.iaload, 1) := by decide +kernel
theorem d_RE_landLeftAt_21 : decode prog_4_method_28_code 21 = .ok (.istore 5, 2) := by decide +kernel
theorem d_RE_landLeftAt_23 : decode prog_4_method_28_code 23 = .ok (.aload_n 0, 1) := by decide +kernel
theorem d_RE_landLeftAt_24 : decode prog_4_method_28_code 24 = .ok (.getfield 21, 3) := by decide +kernel
theorem d_RE_landLeftAt_27 : decode prog_4_method_28_code 27 = .ok (.iload 5, 2) := by decide +kernel
theorem d_RE_landLeftAt_29 : decode prog_4_method_28_code 29 = .ok (.iaload, 1) := by decide +kernel
theorem d_RE_landLeftAt_30 : decode prog_4_method_28_code 30 = .ok (.iload_n 1, 1) := by decide +kernel
theorem d_RE_landLeftAt_31 : decode prog_4_method_28_code 31 = .ok (.if_icmp .lt 11, 3) := by decide +kernel
theorem d_RE_landLeftAt_34 : decode prog_4_method_28_code 34 = .ok (.lload_n 2, 1) := by decide +kernel
theorem d_RE_landLeftAt_35 : decode prog_4_method_28_code 35 = .ok (.iload 5, 2) := by decide +kernel
theorem d_RE_landLeftAt_37 : decode prog_4_method_28_code 37 = .ok (.invokestatic 47, 3) := by decide +kernel
theorem d_RE_landLeftAt_40 : decode prog_4_method_28_code 40 = .ok (.lor, 1) := by decide +kernel
theorem d_RE_landLeftAt_41 : decode prog_4_method_28_code 41 = .ok (.lstore_n 2, 1) := by decide +kernel
theorem d_RE_landLeftAt_42 : decode prog_4_method_28_code 42 = .ok (.iinc 4 1, 3) := by decide +kernel
theorem d_RE_landLeftAt_45 : decode prog_4_method_28_code 45 = .ok (.goto (-40), 3) := by decide +kernel
theorem d_RE_landLeftAt_48 : decode prog_4_method_28_code 48 = .ok (.lload_n 2, 1) := by decide +kernel
theorem d_RE_landLeftAt_49 : decode prog_4_method_28_code 49 = .ok (.lreturn, 1) := by decide +kernel
set_option maxHeartbeats 4000000 in
set_option maxRecDepth 100000 in
theorem w_RE_landLeftAt_L5 (y1 : Int32)  (C : Cx prog_4_method_28_code 6 "LakeRelief$Relief" (Option.some Jvm.ClassFile.FieldType.long) p s m args meth c) (hG : Geo D adr cA s) (v : Int64) (hE : ∀ (H : Heap) (locs : List Loc) (ls : Array Slot), va_P D cls (wld adr cA μ ν) H → va_S (AA adr) s.heap H locs → lv_has ls 6 [(2, .long v)] → W p l e rm_RE_landLeftAt s m args below meth c H locs 0 0 Q (F0 m 48 ls [])) : ∀ (n : Nat) (y2 : Int64) (y4 : Int32), f_RE_landLeftAt_L5 μ y1 n y2 y4 = some v → ∀ {H : Heap} {locs : List Loc} {ls : Array Slot}, va_P D cls (wld adr cA μ ν) H → va_S (AA adr) s.heap H locs → lv_has ls 6 [(0, .ref (adr 18)), (1, .int y1), (2, .long y2), (4, .int y4)] → W p l e rm_RE_landLeftAt s m args below meth c H locs 0 0 Q (F0 m 5 ls []) := by
  obtain ⟨hx, hb, hml, hown, hts, hr, hlocks⟩ := id C
  intro n
  induction n with
  | zero => intro y2 y4 hf; rw [f_RE_landLeftAt_L5.eq_1] at hf; cases hf
  | succ n ih =>
    intro y2 y4 hf H locs ls hP hS hl
    rw [f_RE_landLeftAt_L5.eq_2] at hf
    refine lv_iload hx hb d_RE_landLeftAt_5 (lv_at hl 3 rfl) ?_
    refine lv_aload_n hx hb d_RE_landLeftAt_7 rfl (lv_at hl 0 rfl) ?_
    refine g_RE_landCount hx hb hts hown hG hP (hts _ in_61) d_RE_landLeftAt_8 ?_
    refine lv_icmp_ge (tgt := 48) hx hb d_RE_landLeftAt_11 (by decide) (fun hc => ?_) (fun hc => ?_)
    · replace hf := if_p hc hf
      obtain rfl := Option.some.inj hf
      exact hE _ _ _ hP hS (lv_sub hl [2] rfl)
    · replace hf := if_n hc hf
      refine lv_aload_n hx hb d_RE_landLeftAt_14 rfl (lv_at hl 0 rfl) ?_
      refine g_RE_order hx hb hts hown hG hP (hts _ in_54) d_RE_landLeftAt_15 ?_
      refine lv_iload hx hb d_RE_landLeftAt_18 (lv_at hl 3 rfl) ?_
      replace hf := G_some hf
      obtain ⟨hi1, hf⟩ := hf
      refine r_iald hx hb hG hP 23 64 (f := μ.1 23) (by decide) (wc_C (by decide) rfl) hi1 d_RE_landLeftAt_20 ?_
      refine lv_istore (lv' := [(5, .int (μ.1 23 y4.toNatClampNeg)), (0, .ref (adr 18)), (1, .int y1), (2, .long y2), (4, .int y4)]) hx hb d_RE_landLeftAt_21 hl (by decide) rfl (fun ls hl => ?_)
      refine lv_aload_n hx hb d_RE_landLeftAt_23 rfl (lv_at hl 1 rfl) ?_
      refine g_RE_fill hx hb hts hown hG hP (hts _ in_52) d_RE_landLeftAt_24 ?_
      refine lv_iload hx hb d_RE_landLeftAt_27 (lv_at hl 0 rfl) ?_
      replace hf := G_some hf
      obtain ⟨hi2, hf⟩ := hf
      refine r_iald hx hb hG hP 22 64 (f := μ.1 22) (by decide) (wc_C (by decide) rfl) hi2 d_RE_landLeftAt_29 ?_
      refine lv_iload_n hx hb d_RE_landLeftAt_30 rfl (lv_at hl 2 rfl) ?_
      replace hf := B_some hf
      obtain ⟨v3, hv3, hf⟩ := hf
      have hJ : ∀ (H : Heap) (locs : List Loc) (ls : Array Slot), va_P D cls (wld adr cA μ ν) H → va_S (AA adr) s.heap H locs → lv_has ls 6 [(0, .ref (adr 18)), (1, .int y1), (2, .long v3), (4, .int y4)] → W p l e rm_RE_landLeftAt s m args below meth c H locs 0 0 Q (F0 m 42 ls []) := by
        clear hv3
        intro H locs ls hP hS hl
        refine lv_iinc (v := (y4 + 1)) (lv' := [(4, .int (y4 + 1)), (0, .ref (adr 18)), (1, .int y1), (2, .long v3)]) hx hb d_RE_landLeftAt_42 hl (k := 3) rfl rfl (by decide) rfl (fun ls hl => ?_)
        refine lv_goto (tgt := 5) hx hb d_RE_landLeftAt_45 (by decide) ?_
        exact ih _ _ hf hP hS (lv_sub hl [1, 2, 3, 0] rfl)
      clear hf
      have hf := hv3
      clear hv3
      refine lv_icmp_lt (tgt := 42) hx hb d_RE_landLeftAt_31 (by decide) (fun hc => ?_) (fun hc => ?_)
      · replace hf := if_p hc hf
        obtain rfl := Option.some.inj hf
        exact hJ _ _ _ hP hS (lv_sub hl [1, 2, 3, 4] rfl)
      · replace hf := if_n hc hf
        refine lv_lload_n hx hb d_RE_landLeftAt_34 rfl (lv_at hl 3 rfl) ?_
        refine lv_iload hx hb d_RE_landLeftAt_35 (lv_at hl 0 rfl) ?_
        refine kl (kn (As := [.int (μ.1 23 y4.toNatClampNeg)]) (rest := [.long y2]) ⟨hx, hb, hml, hown, hts⟩ (cw_RE_47 hts hG ⟨Nat.le_of_ble_eq_true rfl, Nat.le_of_ble_eq_true rfl⟩) (c_LR_only l D adr cA μ ν (μ.1 23 y4.toNatClampNeg)) hG hP rfl hl.1 (Nat.le_of_ble_eq_true rfl) d_RE_landLeftAt_37) hS (fun H locs hP hS => ?_)
        refine lv_lor hx hb d_RE_landLeftAt_40 ?_
        refine lv_lstore_n (lv' := [(2, .long (y2 ||| (f_LR_only (μ.1 23 y4.toNatClampNeg)))), (5, .int (μ.1 23 y4.toNatClampNeg)), (0, .ref (adr 18)), (1, .int y1), (4, .int y4)]) hx hb d_RE_landLeftAt_41 rfl hl (by decide) rfl (fun ls hl => ?_)
        obtain rfl := Option.some.inj hf
        exact hJ _ _ _ hP hS (lv_sub hl [2, 3, 0, 4] rfl)
set_option maxHeartbeats 4000000 in
set_option maxRecDepth 100000 in
theorem w_RE_landLeftAt (x1 : Int32)  (C : Cx prog_4_method_28_code 6 "LakeRelief$Relief" (Option.some Jvm.ClassFile.FieldType.long) p s m args meth c) (hG : Geo D adr cA s) {res : Int64} (hf : f_RE_landLeftAt μ x1 = some res) (hq : ∀ (pc : Nat) (ls : Array Slot) (H : Heap) (locs : List Loc), decode prog_4_method_28_code pc = .ok (.lreturn, 1) → va_P D cls (wld adr cA μ ν) H → va_S (AA adr) s.heap H locs → W p l e rm_RE_landLeftAt s m args below meth c H locs 0 0 Q (F0 m pc ls [.long res])) {H : Heap} {locs : List Loc} {ls : Array Slot} (hP : va_P D cls (wld adr cA μ ν) H) (hS : va_S (AA adr) s.heap H locs) (hl : lv_has ls 6 [(0, .ref (adr 18)), (1, .int x1)]) : W p l e rm_RE_landLeftAt s m args below meth c H locs 0 0 Q (F0 m 0 ls []) := by
  obtain ⟨hx, hb, hml, hown, hts, hr, hlocks⟩ := id C
  unfold f_RE_landLeftAt at hf
  refine lv_lconst (v := 0) hx hb d_RE_landLeftAt_0 (by decide) ?_
  refine lv_lstore_n (lv' := [(2, .long 0), (0, .ref (adr 18)), (1, .int x1)]) hx hb d_RE_landLeftAt_1 rfl hl (by decide) rfl (fun ls hl => ?_)
  refine lv_iconst (v := 0) hx hb d_RE_landLeftAt_2 (by decide) ?_
  refine lv_istore (lv' := [(4, .int 0), (2, .long 0), (0, .ref (adr 18)), (1, .int x1)]) hx hb d_RE_landLeftAt_3 hl (by decide) rfl (fun ls hl => ?_)
  replace hf := B_some hf
  obtain ⟨v4, hv4, hf⟩ := hf
  refine w_RE_landLeftAt_L5 x1  C hG v4 ?_ FU _ _ hv4 hP hS (lv_sub hl [2, 3, 1, 0] rfl)
  clear hv4 hP hS hl
  intro H locs ls hP hS hl
  refine lv_lload_n hx hb d_RE_landLeftAt_48 rfl (lv_at hl 0 rfl) ?_
  obtain rfl := Option.some.inj hf
  exact hq _ _ _ _ d_RE_landLeftAt_49 hP hS
theorem c_RE_landLeftAt (l : Launch) (D : va_G) (adr : Nat → Nat) (cA : Nat → ClassId) (μ ν : Mem) (x1 : Int32)  {res : Int64} (hf : f_RE_landLeftAt μ x1 = some res) : Met l y_RE_landLeftAt (Cond.code y_RE_landLeftAt prog_4_method_28_code 6 (Option.some Jvm.ClassFile.FieldType.long) :: lw_ok) rm_RE_landLeftAt (va_Pc [.ref (adr 18), .int x1] (Wd D adr cA μ ν)) (QL D adr cA res μ ν) 0 0 (AA adr) :=
  met_of (own := "LakeRelief$Relief") rfl rfl (Nat.le_of_ble_eq_true rfl) (fun p e s m below meth c C hG hP hS ls hl => w_RE_landLeftAt x1  C hG hf (fun pc ls H locs hd hP hS => ret_l C.1 C.2.1 C.2.2.2.2.2.1 C.2.2.2.2.2.2 hG hd hP hS) hP hS hl)
end X_RE_landLeftAt
section X_RE_withoutPieceAt
variable {p : Program} {l : Launch} {e : Env} {s : State} {m : MethodId} {args : Array Value} {below : List Frame} {meth : Method} {c : Code} {Q : State → Prop}
variable {D : va_G} {adr : Nat → Nat} {cA : Nat → ClassId} {μ ν : Mem}
theorem d_RE_withoutPieceAt_0 : decode prog_4_method_30_code 0 = .ok (.lload_n 2, 1) := by decide +kernel
theorem d_RE_withoutPieceAt_1 : decode prog_4_method_30_code 1 = .ok (.iload_n 1, 1) := by decide +kernel
theorem d_RE_withoutPieceAt_2 : decode prog_4_method_30_code 2 = .ok (.invokestatic 47, 3) := by decide +kernel
theorem d_RE_withoutPieceAt_5 : decode prog_4_method_30_code 5 = .ok (.ldc2_w 130, 3) := by decide +kernel
theorem d_RE_withoutPieceAt_8 : decode prog_4_method_30_code 8 = .ok (.lxor, 1) := by decide +kernel
theorem d_RE_withoutPieceAt_9 : decode prog_4_method_30_code 9 = .ok (.land, 1) := by decide +kernel
theorem d_RE_withoutPieceAt_10 : decode prog_4_method_30_code 10 = .ok (.lstore 4, 2) := by decide +kernel
theorem d_RE_withoutPieceAt_12 : decode prog_4_method_30_code 12 = .ok (.aload_n 0, 1) := by decide +kernel
theorem d_RE_withoutPieceAt_13 : decode prog_4_method_30_code 13 = .ok (.getfield 30, 3) := by decide +kernel
theorem d_RE_withoutPieceAt_16 : decode prog_4_method_30_code 16 = .ok (.iconst 0, 1) := by decide +kernel
theorem d_RE_withoutPieceAt_17 : decode prog_4_method_30_code 17 = .ok (.iload_n 1, 1) := by decide +kernel
theorem d_RE_withoutPieceAt_18 : decode prog_4_method_30_code 18 = .ok (.iastore, 1) := by decide +kernel
theorem d_RE_withoutPieceAt_19 : decode prog_4_method_30_code 19 = .ok (.iconst 1, 1) := by decide +kernel
theorem d_RE_withoutPieceAt_20 : decode prog_4_method_30_code 20 = .ok (.istore 6, 2) := by decide +kernel
theorem d_RE_withoutPieceAt_22 : decode prog_4_method_30_code 22 = .ok (.iconst 0, 1) := by decide +kernel
theorem d_RE_withoutPieceAt_23 : decode prog_4_method_30_code 23 = .ok (.istore 7, 2) := by decide +kernel
theorem d_RE_withoutPieceAt_25 : decode prog_4_method_30_code 25 = .ok (.iload 7, 2) := by decide +kernel
theorem d_RE_withoutPieceAt_27 : decode prog_4_method_30_code 27 = .ok (.iload 6, 2) := by decide +kernel
theorem d_RE_withoutPieceAt_29 : decode prog_4_method_30_code 29 = .ok (.if_icmp .ge 96, 3) := by decide +kernel
theorem d_RE_withoutPieceAt_32 : decode prog_4_method_30_code 32 = .ok (.iload 7, 2) := by decide +kernel
theorem d_RE_withoutPieceAt_34 : decode prog_4_method_30_code 34 = .ok (.bipush 64, 2) := by decide +kernel
theorem d_RE_withoutPieceAt_36 : decode prog_4_method_30_code 36 = .ok (.if_icmp .ge 89, 3) := by decide +kernel
theorem d_RE_withoutPieceAt_39 : decode prog_4_method_30_code 39 = .ok (.iconst 0, 1) := by decide +kernel
theorem d_RE_withoutPieceAt_40 : decode prog_4_method_30_code 40 = .ok (.istore 8, 2) := by decide +kernel
theorem d_RE_withoutPieceAt_42 : decode prog_4_method_30_code 42 = .ok (.iload 8, 2) := by decide +kernel
theorem d_RE_withoutPieceAt_44 : decode prog_4_method_30_code 44 = .ok (.iconst 4, 1) := by decide +kernel
theorem d_RE_withoutPieceAt_45 : decode prog_4_method_30_code 45 = .ok (.if_icmp .ge 74, 3) := by decide +kernel
theorem d_RE_withoutPieceAt_48 : decode prog_4_method_30_code 48 = .ok (.aload_n 0, 1) := by decide +kernel
theorem d_RE_withoutPieceAt_49 : decode prog_4_method_30_code 49 = .ok (.aload_n 0, 1) := by decide +kernel
theorem d_RE_withoutPieceAt_50 : decode prog_4_method_30_code 50 = .ok (.getfield 30, 3) := by decide +kernel
theorem d_RE_withoutPieceAt_53 : decode prog_4_method_30_code 53 = .ok (.iload 7, 2) := by decide +kernel
theorem d_RE_withoutPieceAt_55 : decode prog_4_method_30_code 55 = .ok (.iaload, 1) := by decide +kernel
theorem d_RE_withoutPieceAt_56 : decode prog_4_method_30_code 56 = .ok (.iload 8, 2) := by decide +kernel
theorem d_RE_withoutPieceAt_58 : decode prog_4_method_30_code 58 = .ok (.invokevirtual 86, 3) := by decide +kernel
theorem d_RE_withoutPieceAt_61 : decode prog_4_method_30_code 61 = .ok (.istore 9, 2) := by decide +kernel
theorem d_RE_withoutPieceAt_63 : decode prog_4_method_30_code 63 = .ok (.iload 9, 2) := by decide +kernel
theorem d_RE_withoutPieceAt_65 : decode prog_4_method_30_code 65 = .ok (.bipush (-5), 2) := by decide +kernel
theorem d_RE_withoutPieceAt_67 : decode prog_4_method_30_code 67 = .ok (.if_icmp .eq 46, 3) := by decide +kernel
theorem d_RE_withoutPieceAt_70 : decode prog_4_method_30_code 70 = .ok (.lload 4, 2) := by decide +kernel
theorem d_RE_withoutPieceAt_72 : decode prog_4_method_30_code 72 = .ok (.iload 9, 2) := by decide +kernel
theorem d_RE_withoutPieceAt_74 : decode prog_4_method_30_code 74 = .ok (.invokestatic 67, 3) := by decide +kernel
theorem d_RE_withoutPieceAt_77 : decode prog_4_method_30_code 77 = .ok (.ifCond .eq 36, 3) := by decide +kernel
theorem d_RE_withoutPieceAt_80 : decode prog_4_method_30_code 80 = .ok (.iload 6, 2) := by decide +kernel
theorem d_RE_withoutPieceAt_82 : decode prog_4_method_30_code 82 = .ok (.bipush 64, 2) := by decide +kernel
theorem d_RE_withoutPieceAt_84 : decode prog_4_method_30_code 84 = .ok (.if_icmp .ge 29, 3) := by decide +kernel
theorem d_RE_withoutPieceAt_87 : decode prog_4_method_30_code 87 = .ok (.lload 4, 2) := by decide +kernel
theorem d_RE_withoutPieceAt_89 : decode prog_4_method_30_code 89 = .ok (.iload 9, 2) := by decide +kernel
theorem d_RE_withoutPieceAt_91 : decode prog_4_method_30_code 91 = .ok (.invokestatic 47, 3) := by decide +kernel
theorem d_RE_withoutPieceAt_94 : decode prog_4_method_30_code 94 = .ok (.ldc2_w 130, 3) := by decide +kernel
theorem d_RE_withoutPieceAt_97 : decode prog_4_method_30_code 97 = .ok (.lxor, 1) := by decide +kernel
theorem d_RE_withoutPieceAt_98 : decode prog_4_method_30_code 98 = .ok (.land, 1) := by decide +kernel
theorem d_RE_withoutPieceAt_99 : decode prog_4_method_30_code 99 = .ok (.lstore 4, 2) := by decide +kernel
theorem d_RE_withoutPieceAt_101 : decode prog_4_method_30_code 101 = .ok (.aload_n 0, 1) := by decide +kernel
theorem d_RE_withoutPieceAt_102 : decode prog_4_method_30_code 102 = .ok (.getfield 30, 3) := by decide +kernel
theorem d_RE_withoutPieceAt_105 : decode prog_4_method_30_code 105 = .ok (.iload 6, 2) := by decide +kernel
theorem d_RE_withoutPieceAt_107 : decode prog_4_method_30_code 107 = .ok (.iload 9, 2) := by decide +kernel
theorem d_RE_withoutPieceAt_109 : decode prog_4_method_30_code 109 = .ok (.iastore, 1) := by decide +kernel
theorem d_RE_withoutPieceAt_110 : decode prog_4_method_30_code 110 = .ok (.iinc 6 1, 3) := by decide +kernel
theorem d_RE_withoutPieceAt_113 : decode prog_4_method_30_code 113 = .ok (.iinc 8 1, 3) := by decide +kernel
theorem d_RE_withoutPieceAt_116 : decode prog_4_method_30_code 116 = .ok (.goto (-74), 3) := by decide +kernel
theorem d_RE_withoutPieceAt_119 : decode prog_4_method_30_code 119 = .ok (.iinc 7 1, 3) := by decide +kernel
theorem d_RE_withoutPieceAt_122 : decode prog_4_method_30_code 122 = .ok (.goto (-97), 3) := by decide +kernel
theorem d_RE_withoutPieceAt_125 : decode prog_4_method_30_code 125 = .ok (.lload 4, 2) := by decide +kernel
theorem d_RE_withoutPieceAt_127 : decode prog_4_method_30_code 127 = .ok (.lreturn, 1) := by decide +kernel
set_option maxHeartbeats 4000000 in
set_option maxRecDepth 100000 in
theorem w_RE_withoutPieceAt_L42 (y7 : Int32)  (C : Cx prog_4_method_30_code 10 "LakeRelief$Relief" (Option.some Jvm.ClassFile.FieldType.long) p s m args meth c) (hG : Geo D adr cA s) (v : Int64 × Int32 × Mem) (hE : ∀ (H : Heap) (locs : List Loc) (ls : Array Slot), va_P D cls (wld adr cA v.2.2 ν) H → va_S (AA adr) s.heap H locs → lv_has ls 10 [(0, .ref (adr 18)), (4, .long v.1), (6, .int v.2.1), (7, .int y7)] → W p l e rm_RE_withoutPieceAt s m args below meth c H locs 0 0 Q (F0 m 119 ls [])) : ∀ (n : Nat) (μ : Mem) (y4 : Int64) (y6 : Int32) (y8 : Int32), f_RE_withoutPieceAt_L42 y7 n μ y4 y6 y8 = some v → ∀ {H : Heap} {locs : List Loc} {ls : Array Slot}, va_P D cls (wld adr cA μ ν) H → va_S (AA adr) s.heap H locs → lv_has ls 10 [(0, .ref (adr 18)), (4, .long y4), (6, .int y6), (7, .int y7), (8, .int y8)] → W p l e rm_RE_withoutPieceAt s m args below meth c H locs 0 0 Q (F0 m 42 ls []) := by
  obtain ⟨hx, hb, hml, hown, hts, hr, hlocks⟩ := id C
  intro n
  induction n with
  | zero => intro μ y4 y6 y8 hf; rw [f_RE_withoutPieceAt_L42.eq_1] at hf; cases hf
  | succ n ih =>
    intro μ y4 y6 y8 hf H locs ls hP hS hl
    rw [f_RE_withoutPieceAt_L42.eq_2] at hf
    refine lv_iload hx hb d_RE_withoutPieceAt_42 (lv_at hl 4 rfl) ?_
    refine lv_iconst (v := 4) hx hb d_RE_withoutPieceAt_44 (by decide) ?_
    refine lv_icmp_ge (tgt := 119) hx hb d_RE_withoutPieceAt_45 (by decide) (fun hc => ?_) (fun hc => ?_)
    · replace hf := if_p hc hf
      obtain rfl := Option.some.inj hf
      exact hE _ _ _ hP hS (lv_sub hl [0, 1, 2, 3] rfl)
    · replace hf := if_n hc hf
      refine lv_aload_n hx hb d_RE_withoutPieceAt_48 rfl (lv_at hl 0 rfl) ?_
      refine lv_aload_n hx hb d_RE_withoutPieceAt_49 rfl (lv_at hl 0 rfl) ?_
      refine g_RE_waiting hx hb hts hown hG hP (hts _ in_57) d_RE_withoutPieceAt_50 ?_
      refine lv_iload hx hb d_RE_withoutPieceAt_53 (lv_at hl 3 rfl) ?_
      replace hf := G_some hf
      obtain ⟨hi2, hf⟩ := hf
      refine r_iald hx hb hG hP 25 64 (f := μ.1 25) (by decide) (wc_C (by decide) rfl) hi2 d_RE_withoutPieceAt_55 ?_
      refine lv_iload hx hb d_RE_withoutPieceAt_56 (lv_at hl 4 rfl) ?_
      replace hf := B_some hf
      obtain ⟨v3, hv3, hf⟩ := hf
      refine ki (kv (As := [.int (μ.1 25 y7.toNatClampNeg), .int y8]) (rest := []) ⟨hx, hb, hml, hown, hts⟩ (cw_RE_86 hts ⟨Nat.le_of_ble_eq_true rfl, Nat.le_of_ble_eq_true rfl⟩) (c_RE_beside l D adr cA μ ν (μ.1 25 y7.toNatClampNeg) y8 hv3) hG hP (rc_o (q := 18) (ci := 2) hG hP (by decide) (wc_C (by decide) rfl) rfl) rfl hl.1 (Nat.le_of_ble_eq_true rfl) d_RE_withoutPieceAt_58) hS (fun H locs hP hS => ?_)
      refine lv_istore (lv' := [(9, .int v3), (0, .ref (adr 18)), (4, .long y4), (6, .int y6), (7, .int y7), (8, .int y8)]) hx hb d_RE_withoutPieceAt_61 hl (by decide) rfl (fun ls hl => ?_)
      refine lv_iload hx hb d_RE_withoutPieceAt_63 (lv_at hl 0 rfl) ?_
      refine lv_bipush (v := (-5)) hx hb d_RE_withoutPieceAt_65 (by decide) ?_
      replace hf := B_some hf
      obtain ⟨v4, hv4, hf⟩ := hf
      have hJ : ∀ (H : Heap) (locs : List Loc) (ls : Array Slot), va_P D cls (wld adr cA v4.2.2 ν) H → va_S (AA adr) s.heap H locs → lv_has ls 10 [(0, .ref (adr 18)), (4, .long v4.1), (6, .int v4.2.1), (7, .int y7), (8, .int y8)] → W p l e rm_RE_withoutPieceAt s m args below meth c H locs 0 0 Q (F0 m 113 ls []) := by
        clear hv4
        intro H locs ls hP hS hl
        refine lv_iinc (v := (y8 + 1)) (lv' := [(8, .int (y8 + 1)), (0, .ref (adr 18)), (4, .long v4.1), (6, .int v4.2.1), (7, .int y7)]) hx hb d_RE_withoutPieceAt_113 hl (k := 4) rfl rfl (by decide) rfl (fun ls hl => ?_)
        refine lv_goto (tgt := 42) hx hb d_RE_withoutPieceAt_116 (by decide) ?_
        exact ih _ _ _ _ hf hP hS (lv_sub hl [1, 2, 3, 4, 0] rfl)
      clear hf
      have hf := hv4
      clear hv4
      refine lv_icmp_eq (tgt := 113) hx hb d_RE_withoutPieceAt_67 (by decide) (fun hc => ?_) (fun hc => ?_)
      · replace hf := if_p hc hf
        obtain rfl := Option.some.inj hf
        exact hJ _ _ _ hP hS (lv_sub hl [1, 2, 3, 4, 5] rfl)
      · replace hf := if_n hc hf
        refine lv_lload hx hb d_RE_withoutPieceAt_70 (lv_at hl 2 rfl) ?_
        refine lv_iload hx hb d_RE_withoutPieceAt_72 (lv_at hl 0 rfl) ?_
        refine ki (kn (As := [.long y4, .int v3]) (rest := []) ⟨hx, hb, hml, hown, hts⟩ (cw_RE_67 hts hG ⟨Nat.le_of_ble_eq_true rfl, Nat.le_of_ble_eq_true rfl⟩) (c_LR_isIn l D adr cA μ ν y4 v3) hG hP rfl hl.1 (Nat.le_of_ble_eq_true rfl) d_RE_withoutPieceAt_74) hS (fun H locs hP hS => ?_)
        refine lv_if_eq (tgt := 113) hx hb d_RE_withoutPieceAt_77 (by decide) (fun hc => ?_) (fun hc => ?_)
        · replace hf := if_p hc hf
          obtain rfl := Option.some.inj hf
          exact hJ _ _ _ hP hS (lv_sub hl [1, 2, 3, 4, 5] rfl)
        · replace hf := if_n hc hf
          refine lv_iload hx hb d_RE_withoutPieceAt_80 (lv_at hl 3 rfl) ?_
          refine lv_bipush (v := 64) hx hb d_RE_withoutPieceAt_82 (by decide) ?_
          refine lv_icmp_ge (tgt := 113) hx hb d_RE_withoutPieceAt_84 (by decide) (fun hc => ?_) (fun hc => ?_)
          · replace hf := if_p hc hf
            obtain rfl := Option.some.inj hf
            exact hJ _ _ _ hP hS (lv_sub hl [1, 2, 3, 4, 5] rfl)
          · replace hf := if_n hc hf
            refine lv_lload hx hb d_RE_withoutPieceAt_87 (lv_at hl 2 rfl) ?_
            refine lv_iload hx hb d_RE_withoutPieceAt_89 (lv_at hl 0 rfl) ?_
            refine kl (kn (As := [.int v3]) (rest := [.long y4]) ⟨hx, hb, hml, hown, hts⟩ (cw_RE_47 hts hG ⟨Nat.le_of_ble_eq_true rfl, Nat.le_of_ble_eq_true rfl⟩) (c_LR_only l D adr cA μ ν v3) hG hP rfl hl.1 (Nat.le_of_ble_eq_true rfl) d_RE_withoutPieceAt_91) hS (fun H locs hP hS => ?_)
            refine lv_ldc2 (v := (-1)) hx hb hown (hts _ in_536) d_RE_withoutPieceAt_94 ?_
            refine lv_lxor hx hb d_RE_withoutPieceAt_97 ?_
            refine lv_land hx hb d_RE_withoutPieceAt_98 ?_
            refine lv_lstore (lv' := [(4, .long (y4 &&& ((f_LR_only v3) ^^^ (-1)))), (9, .int v3), (0, .ref (adr 18)), (6, .int y6), (7, .int y7), (8, .int y8)]) hx hb d_RE_withoutPieceAt_99 hl (by decide) rfl (fun ls hl => ?_)
            refine lv_aload_n hx hb d_RE_withoutPieceAt_101 rfl (lv_at hl 2 rfl) ?_
            refine g_RE_waiting hx hb hts hown hG hP (hts _ in_57) d_RE_withoutPieceAt_102 ?_
            refine lv_iload hx hb d_RE_withoutPieceAt_105 (lv_at hl 3 rfl) ?_
            refine lv_iload hx hb d_RE_withoutPieceAt_107 (lv_at hl 1 rfl) ?_
            replace hf := G_some hf
            obtain ⟨hi5, hf⟩ := hf
            refine rC_iast hx hb hG hP hS 25 64 (by decide) (fun _ _ => rfl) hi5 d_RE_withoutPieceAt_109 (fun H locs hP hS => ?_)
            refine lv_iinc (v := (y6 + 1)) (lv' := [(6, .int (y6 + 1)), (4, .long (y4 &&& ((f_LR_only v3) ^^^ (-1)))), (9, .int v3), (0, .ref (adr 18)), (7, .int y7), (8, .int y8)]) hx hb d_RE_withoutPieceAt_110 hl (k := 3) rfl rfl (by decide) rfl (fun ls hl => ?_)
            obtain rfl := Option.some.inj hf
            exact hJ _ _ _ hP hS (lv_sub hl [3, 1, 0, 4, 5] rfl)
set_option maxHeartbeats 4000000 in
set_option maxRecDepth 100000 in
theorem w_RE_withoutPieceAt_L25   (C : Cx prog_4_method_30_code 10 "LakeRelief$Relief" (Option.some Jvm.ClassFile.FieldType.long) p s m args meth c) (hG : Geo D adr cA s) (v : Int64 × Mem) (hE : ∀ (H : Heap) (locs : List Loc) (ls : Array Slot), va_P D cls (wld adr cA v.2 ν) H → va_S (AA adr) s.heap H locs → lv_has ls 10 [(4, .long v.1)] → W p l e rm_RE_withoutPieceAt s m args below meth c H locs 0 0 Q (F0 m 125 ls [])) : ∀ (n : Nat) (μ : Mem) (y4 : Int64) (y6 : Int32) (y7 : Int32), f_RE_withoutPieceAt_L25 n μ y4 y6 y7 = some v → ∀ {H : Heap} {locs : List Loc} {ls : Array Slot}, va_P D cls (wld adr cA μ ν) H → va_S (AA adr) s.heap H locs → lv_has ls 10 [(0, .ref (adr 18)), (4, .long y4), (6, .int y6), (7, .int y7)] → W p l e rm_RE_withoutPieceAt s m args below meth c H locs 0 0 Q (F0 m 25 ls []) := by
  obtain ⟨hx, hb, hml, hown, hts, hr, hlocks⟩ := id C
  intro n
  induction n with
  | zero => intro μ y4 y6 y7 hf; rw [f_RE_withoutPieceAt_L25.eq_1] at hf; cases hf
  | succ n ih =>
    intro μ y4 y6 y7 hf H locs ls hP hS hl
    rw [f_RE_withoutPieceAt_L25.eq_2] at hf
    refine lv_iload hx hb d_RE_withoutPieceAt_25 (lv_at hl 3 rfl) ?_
    refine lv_iload hx hb d_RE_withoutPieceAt_27 (lv_at hl 2 rfl) ?_
    refine lv_icmp_ge (tgt := 125) hx hb d_RE_withoutPieceAt_29 (by decide) (fun hc => ?_) (fun hc => ?_)
    · replace hf := if_p hc hf
      obtain rfl := Option.some.inj hf
      exact hE _ _ _ hP hS (lv_sub hl [1] rfl)
    · replace hf := if_n hc hf
      refine lv_iload hx hb d_RE_withoutPieceAt_32 (lv_at hl 3 rfl) ?_
      refine lv_bipush (v := 64) hx hb d_RE_withoutPieceAt_34 (by decide) ?_
      refine lv_icmp_ge (tgt := 125) hx hb d_RE_withoutPieceAt_36 (by decide) (fun hc => ?_) (fun hc => ?_)
      · replace hf := if_p hc hf
        obtain rfl := Option.some.inj hf
        exact hE _ _ _ hP hS (lv_sub hl [1] rfl)
      · replace hf := if_n hc hf
        refine lv_iconst (v := 0) hx hb d_RE_withoutPieceAt_39 (by decide) ?_
        refine lv_istore (lv' := [(8, .int 0), (0, .ref (adr 18)), (4, .long y4), (6, .int y6), (7, .int y7)]) hx hb d_RE_withoutPieceAt_40 hl (by decide) rfl (fun ls hl => ?_)
        replace hf := B_some hf
        obtain ⟨v6, hv6, hf⟩ := hf
        refine w_RE_withoutPieceAt_L42 y7  C hG v6 ?_ FU _ _ _ _ hv6 hP hS (lv_sub hl [1, 2, 3, 4, 0] rfl)
        clear hv6 hP hS hl
        intro H locs ls hP hS hl
        refine lv_iinc (v := (y7 + 1)) (lv' := [(7, .int (y7 + 1)), (0, .ref (adr 18)), (4, .long v6.1), (6, .int v6.2.1)]) hx hb d_RE_withoutPieceAt_119 hl (k := 3) rfl rfl (by decide) rfl (fun ls hl => ?_)
        refine lv_goto (tgt := 25) hx hb d_RE_withoutPieceAt_122 (by decide) ?_
        exact ih _ _ _ _ hf hP hS (lv_sub hl [1, 2, 3, 0] rfl)
set_option maxHeartbeats 4000000 in
set_option maxRecDepth 100000 in
theorem w_RE_withoutPieceAt (x1 : Int32) (x2 : Int64)  (C : Cx prog_4_method_30_code 10 "LakeRelief$Relief" (Option.some Jvm.ClassFile.FieldType.long) p s m args meth c) (hG : Geo D adr cA s) {res : Int64 × Mem} (hf : f_RE_withoutPieceAt μ x1 x2 = some res) (hq : ∀ (pc : Nat) (ls : Array Slot) (H : Heap) (locs : List Loc), decode prog_4_method_30_code pc = .ok (.lreturn, 1) → va_P D cls (wld adr cA res.2 ν) H → va_S (AA adr) s.heap H locs → W p l e rm_RE_withoutPieceAt s m args below meth c H locs 0 0 Q (F0 m pc ls [.long res.1])) {H : Heap} {locs : List Loc} {ls : Array Slot} (hP : va_P D cls (wld adr cA μ ν) H) (hS : va_S (AA adr) s.heap H locs) (hl : lv_has ls 10 [(0, .ref (adr 18)), (1, .int x1), (2, .long x2)]) : W p l e rm_RE_withoutPieceAt s m args below meth c H locs 0 0 Q (F0 m 0 ls []) := by
  obtain ⟨hx, hb, hml, hown, hts, hr, hlocks⟩ := id C
  unfold f_RE_withoutPieceAt at hf
  refine lv_lload_n hx hb d_RE_withoutPieceAt_0 rfl (lv_at hl 2 rfl) ?_
  refine lv_iload_n hx hb d_RE_withoutPieceAt_1 rfl (lv_at hl 1 rfl) ?_
  refine kl (kn (As := [.int x1]) (rest := [.long x2]) ⟨hx, hb, hml, hown, hts⟩ (cw_RE_47 hts hG ⟨Nat.le_of_ble_eq_true rfl, Nat.le_of_ble_eq_true rfl⟩) (c_LR_only l D adr cA μ ν x1) hG hP rfl hl.1 (Nat.le_of_ble_eq_true rfl) d_RE_withoutPieceAt_2) hS (fun H locs hP hS => ?_)
  refine lv_ldc2 (v := (-1)) hx hb hown (hts _ in_536) d_RE_withoutPieceAt_5 ?_
  refine lv_lxor hx hb d_RE_withoutPieceAt_8 ?_
  refine lv_land hx hb d_RE_withoutPieceAt_9 ?_
  refine lv_lstore (lv' := [(4, .long (x2 &&& ((f_LR_only x1) ^^^ (-1)))), (0, .ref (adr 18)), (1, .int x1), (2, .long x2)]) hx hb d_RE_withoutPieceAt_10 hl (by decide) rfl (fun ls hl => ?_)
  refine lv_aload_n hx hb d_RE_withoutPieceAt_12 rfl (lv_at hl 1 rfl) ?_
  refine g_RE_waiting hx hb hts hown hG hP (hts _ in_57) d_RE_withoutPieceAt_13 ?_
  refine lv_iconst (v := 0) hx hb d_RE_withoutPieceAt_16 (by decide) ?_
  refine lv_iload_n hx hb d_RE_withoutPieceAt_17 rfl (lv_at hl 2 rfl) ?_
  replace hf := G_some hf
  obtain ⟨hi1, hf⟩ := hf
  refine rC_iast hx hb hG hP hS 25 64 (by decide) (fun _ _ => rfl) hi1 d_RE_withoutPieceAt_18 (fun H locs hP hS => ?_)
  refine lv_iconst (v := 1) hx hb d_RE_withoutPieceAt_19 (by decide) ?_
  refine lv_istore (lv' := [(6, .int 1), (4, .long (x2 &&& ((f_LR_only x1) ^^^ (-1)))), (0, .ref (adr 18)), (1, .int x1), (2, .long x2)]) hx hb d_RE_withoutPieceAt_20 hl (by decide) rfl (fun ls hl => ?_)
  refine lv_iconst (v := 0) hx hb d_RE_withoutPieceAt_22 (by decide) ?_
  refine lv_istore (lv' := [(7, .int 0), (6, .int 1), (4, .long (x2 &&& ((f_LR_only x1) ^^^ (-1)))), (0, .ref (adr 18)), (1, .int x1), (2, .long x2)]) hx hb d_RE_withoutPieceAt_23 hl (by decide) rfl (fun ls hl => ?_)
  replace hf := B_some hf
  obtain ⟨v7, hv7, hf⟩ := hf
  refine w_RE_withoutPieceAt_L25   C hG v7 ?_ FU _ _ _ _ hv7 hP hS (lv_sub hl [3, 2, 1, 0] rfl)
  clear hv7 hP hS hl
  intro H locs ls hP hS hl
  refine lv_lload hx hb d_RE_withoutPieceAt_125 (lv_at hl 0 rfl) ?_
  obtain rfl := Option.some.inj hf
  exact hq _ _ _ _ d_RE_withoutPieceAt_127 hP hS
theorem c_RE_withoutPieceAt (l : Launch) (D : va_G) (adr : Nat → Nat) (cA : Nat → ClassId) (μ ν : Mem) (x1 : Int32) (x2 : Int64)  {res : Int64 × Mem} (hf : f_RE_withoutPieceAt μ x1 x2 = some res) : Met l y_RE_withoutPieceAt (Cond.code y_RE_withoutPieceAt prog_4_method_30_code 10 (Option.some Jvm.ClassFile.FieldType.long) :: lw_ok) rm_RE_withoutPieceAt (va_Pc [.ref (adr 18), .int x1, .long x2] (Wd D adr cA μ ν)) (QL D adr cA res.1 res.2 ν) 0 0 (AA adr) :=
  met_of (own := "LakeRelief$Relief") rfl rfl (Nat.le_of_ble_eq_true rfl) (fun p e s m below meth c C hG hP hS ls hl => w_RE_withoutPieceAt x1 x2  C hG hf (fun pc ls H locs hd hP hS => ret_l C.1 C.2.1 C.2.2.2.2.2.1 C.2.2.2.2.2.2 hG hd hP hS) hP hS hl)
end X_RE_withoutPieceAt
section X_RE_piecesOf
variable {p : Program} {l : Launch} {e : Env} {s : State} {m : MethodId} {args : Array Value} {below : List Frame} {meth : Method} {c : Code} {Q : State → Prop}
variable {D : va_G} {adr : Nat → Nat} {cA : Nat → ClassId} {μ ν : Mem}
theorem d_RE_piecesOf_0 : decode prog_4_method_29_code 0 = .ok (.lload_n 1, 1) := by decide +kernel
theorem d_RE_piecesOf_1 : decode prog_4_method_29_code 1 = .ok (.lstore_n 3, 1) := by decide +kernel
theorem d_RE_piecesOf_2 : decode prog_4_method_29_code 2 = .ok (.iconst 0, 1) := by decide +kernel
theorem d_RE_piecesOf_3 : decode prog_4_method_29_code 3 = .ok (.istore 5, 2) := by decide +kernel
theorem d_RE_piecesOf_5 : decode prog_4_method_29_code 5 = .ok (.iconst 0, 1) := by decide +kernel
theorem d_RE_piecesOf_6 : decode prog_4_method_29_code 6 = .ok (.istore 6, 2) := by decide +kernel
theorem d_RE_piecesOf_8 : decode prog_4_method_29_code 8 = .ok (.iload 6, 2) := by decide +kernel
theorem d_RE_piecesOf_10 : decode prog_4_method_29_code 10 = .ok (.aload_n 0, 1) := by decide +kernel
theorem d_RE_piecesOf_11 : decode prog_4_method_29_code 11 = .ok (.getfield 37, 3) := by decide +kernel
theorem d_RE_piecesOf_14 : decode prog_4_method_29_code 14 = .ok (.if_icmp .ge 29, 3) := by decide +kernel
theorem d_RE_piecesOf_17 : decode prog_4_method_29_code 17 = .ok (.lload_n 3, 1) := by decide +kernel
theorem d_RE_piecesOf_18 : decode prog_4_method_29_code 18 = .ok (.iload 6, 2) := by decide +kernel
theorem d_RE_piecesOf_20 : decode prog_4_method_29_code 20 = .ok (.invokestatic 67, 3) := by decide +kernel
theorem d_RE_piecesOf_23 : decode prog_4_method_29_code 23 = .ok (.ifCond .eq 14, 3) := by decide +kernel
theorem d_RE_piecesOf_26 : decode prog_4_method_29_code 26 = .ok (.aload_n 0, 1) := by decide +kernel
theorem d_RE_piecesOf_27 : decode prog_4_method_29_code 27 = .ok (.iload 6, 2) := by decide +kernel
theorem d_RE_piecesOf_29 : decode prog_4_method_29_code 29 = .ok (.lload_n 3, 1) := by decide +kernel
theorem d_RE_piecesOf_30 : decode prog_4_method_29_code 30 = .ok (.invokevirtual 126, 3) := by decide +kernel
theorem d_RE_piecesOf_33 : decode prog_4_method_29_code 33 = .ok (.lstore_n 3, 1) := by decide +kernel
theorem d_RE_piecesOf_34 : decode prog_4_method_29_code 34 = .ok (.iinc 5 1, 3) := by decide +kernel
theorem d_RE_piecesOf_37 : decode prog_4_method_29_code 37 = .ok (.iinc 6 1, 3) := by decide +kernel
theorem d_RE_piecesOf_40 : decode prog_4_method_29_code 40 = .ok (.goto (-32), 3) := by decide +kernel
theorem d_RE_piecesOf_43 : decode prog_4_method_29_code 43 = .ok (.iload 5, 2) := by decide +kernel
theorem d_RE_piecesOf_45 : decode prog_4_method_29_code 45 = .ok (.ireturn, 1) := by decide +kernel
set_option maxHeartbeats 4000000 in
set_option maxRecDepth 100000 in
theorem w_RE_piecesOf_L8   (C : Cx prog_4_method_29_code 7 "LakeRelief$Relief" (Option.some Jvm.ClassFile.FieldType.int) p s m args meth c) (hG : Geo D adr cA s) (v : Int32 × Mem) (hE : ∀ (H : Heap) (locs : List Loc) (ls : Array Slot), va_P D cls (wld adr cA v.2 ν) H → va_S (AA adr) s.heap H locs → lv_has ls 7 [(5, .int v.1)] → W p l e rm_RE_piecesOf s m args below meth c H locs 0 0 Q (F0 m 43 ls [])) : ∀ (n : Nat) (μ : Mem) (y3 : Int64) (y5 : Int32) (y6 : Int32), f_RE_piecesOf_L8 n μ y3 y5 y6 = some v → ∀ {H : Heap} {locs : List Loc} {ls : Array Slot}, va_P D cls (wld adr cA μ ν) H → va_S (AA adr) s.heap H locs → lv_has ls 7 [(0, .ref (adr 18)), (3, .long y3), (5, .int y5), (6, .int y6)] → W p l e rm_RE_piecesOf s m args below meth c H locs 0 0 Q (F0 m 8 ls []) := by
  obtain ⟨hx, hb, hml, hown, hts, hr, hlocks⟩ := id C
  intro n
  induction n with
  | zero => intro μ y3 y5 y6 hf; rw [f_RE_piecesOf_L8.eq_1] at hf; cases hf
  | succ n ih =>
    intro μ y3 y5 y6 hf H locs ls hP hS hl
    rw [f_RE_piecesOf_L8.eq_2] at hf
    refine lv_iload hx hb d_RE_piecesOf_8 (lv_at hl 3 rfl) ?_
    refine lv_aload_n hx hb d_RE_piecesOf_10 rfl (lv_at hl 0 rfl) ?_
    refine g_RE_size hx hb hts hown hG hP (hts _ in_59) d_RE_piecesOf_11 ?_
    refine lv_icmp_ge (tgt := 43) hx hb d_RE_piecesOf_14 (by decide) (fun hc => ?_) (fun hc => ?_)
    · replace hf := if_p hc hf
      obtain rfl := Option.some.inj hf
      exact hE _ _ _ hP hS (lv_sub hl [2] rfl)
    · replace hf := if_n hc hf
      refine lv_lload_n hx hb d_RE_piecesOf_17 rfl (lv_at hl 1 rfl) ?_
      refine lv_iload hx hb d_RE_piecesOf_18 (lv_at hl 3 rfl) ?_
      refine ki (kn (As := [.long y3, .int y6]) (rest := []) ⟨hx, hb, hml, hown, hts⟩ (cw_RE_67 hts hG ⟨Nat.le_of_ble_eq_true rfl, Nat.le_of_ble_eq_true rfl⟩) (c_LR_isIn l D adr cA μ ν y3 y6) hG hP rfl hl.1 (Nat.le_of_ble_eq_true rfl) d_RE_piecesOf_20) hS (fun H locs hP hS => ?_)
      replace hf := B_some hf
      obtain ⟨v1, hv1, hf⟩ := hf
      have hJ : ∀ (H : Heap) (locs : List Loc) (ls : Array Slot), va_P D cls (wld adr cA v1.2.2 ν) H → va_S (AA adr) s.heap H locs → lv_has ls 7 [(0, .ref (adr 18)), (3, .long v1.1), (5, .int v1.2.1), (6, .int y6)] → W p l e rm_RE_piecesOf s m args below meth c H locs 0 0 Q (F0 m 37 ls []) := by
        clear hv1
        intro H locs ls hP hS hl
        refine lv_iinc (v := (y6 + 1)) (lv' := [(6, .int (y6 + 1)), (0, .ref (adr 18)), (3, .long v1.1), (5, .int v1.2.1)]) hx hb d_RE_piecesOf_37 hl (k := 3) rfl rfl (by decide) rfl (fun ls hl => ?_)
        refine lv_goto (tgt := 8) hx hb d_RE_piecesOf_40 (by decide) ?_
        exact ih _ _ _ _ hf hP hS (lv_sub hl [1, 2, 3, 0] rfl)
      clear hf
      have hf := hv1
      clear hv1
      refine lv_if_eq (tgt := 37) hx hb d_RE_piecesOf_23 (by decide) (fun hc => ?_) (fun hc => ?_)
      · replace hf := if_p hc hf
        obtain rfl := Option.some.inj hf
        exact hJ _ _ _ hP hS (lv_sub hl [0, 1, 2, 3] rfl)
      · replace hf := if_n hc hf
        refine lv_aload_n hx hb d_RE_piecesOf_26 rfl (lv_at hl 0 rfl) ?_
        refine lv_iload hx hb d_RE_piecesOf_27 (lv_at hl 3 rfl) ?_
        refine lv_lload_n hx hb d_RE_piecesOf_29 rfl (lv_at hl 1 rfl) ?_
        replace hf := B_some hf
        obtain ⟨v2, hv2, hf⟩ := hf
        refine kl (kv (As := [.int y6, .long y3]) (rest := []) ⟨hx, hb, hml, hown, hts⟩ (cw_RE_126 hts ⟨Nat.le_of_ble_eq_true rfl, Nat.le_of_ble_eq_true rfl⟩) (c_RE_withoutPieceAt l D adr cA μ ν y6 y3 hv2) hG hP (rc_o (q := 18) (ci := 2) hG hP (by decide) (wc_C (by decide) rfl) rfl) rfl hl.1 (Nat.le_of_ble_eq_true rfl) d_RE_piecesOf_30) hS (fun H locs hP hS => ?_)
        refine lv_lstore_n (lv' := [(3, .long v2.1), (0, .ref (adr 18)), (5, .int y5), (6, .int y6)]) hx hb d_RE_piecesOf_33 rfl hl (by decide) rfl (fun ls hl => ?_)
        refine lv_iinc (v := (y5 + 1)) (lv' := [(5, .int (y5 + 1)), (3, .long v2.1), (0, .ref (adr 18)), (6, .int y6)]) hx hb d_RE_piecesOf_34 hl (k := 2) rfl rfl (by decide) rfl (fun ls hl => ?_)
        obtain rfl := Option.some.inj hf
        exact hJ _ _ _ hP hS (lv_sub hl [2, 1, 0, 3] rfl)
set_option maxHeartbeats 4000000 in
set_option maxRecDepth 100000 in
theorem w_RE_piecesOf (x1 : Int64)  (C : Cx prog_4_method_29_code 7 "LakeRelief$Relief" (Option.some Jvm.ClassFile.FieldType.int) p s m args meth c) (hG : Geo D adr cA s) {res : Int32 × Mem} (hf : f_RE_piecesOf μ x1 = some res) (hq : ∀ (pc : Nat) (ls : Array Slot) (H : Heap) (locs : List Loc), decode prog_4_method_29_code pc = .ok (.ireturn, 1) → va_P D cls (wld adr cA res.2 ν) H → va_S (AA adr) s.heap H locs → W p l e rm_RE_piecesOf s m args below meth c H locs 0 0 Q (F0 m pc ls [.int res.1])) {H : Heap} {locs : List Loc} {ls : Array Slot} (hP : va_P D cls (wld adr cA μ ν) H) (hS : va_S (AA adr) s.heap H locs) (hl : lv_has ls 7 [(0, .ref (adr 18)), (1, .long x1)]) : W p l e rm_RE_piecesOf s m args below meth c H locs 0 0 Q (F0 m 0 ls []) := by
  obtain ⟨hx, hb, hml, hown, hts, hr, hlocks⟩ := id C
  unfold f_RE_piecesOf at hf
  refine lv_lload_n hx hb d_RE_piecesOf_0 rfl (lv_at hl 1 rfl) ?_
  refine lv_lstore_n (lv' := [(3, .long x1), (0, .ref (adr 18)), (1, .long x1)]) hx hb d_RE_piecesOf_1 rfl hl (by decide) rfl (fun ls hl => ?_)
  refine lv_iconst (v := 0) hx hb d_RE_piecesOf_2 (by decide) ?_
  refine lv_istore (lv' := [(5, .int 0), (3, .long x1), (0, .ref (adr 18)), (1, .long x1)]) hx hb d_RE_piecesOf_3 hl (by decide) rfl (fun ls hl => ?_)
  refine lv_iconst (v := 0) hx hb d_RE_piecesOf_5 (by decide) ?_
  refine lv_istore (lv' := [(6, .int 0), (5, .int 0), (3, .long x1), (0, .ref (adr 18)), (1, .long x1)]) hx hb d_RE_piecesOf_6 hl (by decide) rfl (fun ls hl => ?_)
  replace hf := B_some hf
  obtain ⟨v3, hv3, hf⟩ := hf
  refine w_RE_piecesOf_L8   C hG v3 ?_ FU _ _ _ _ hv3 hP hS (lv_sub hl [3, 2, 1, 0] rfl)
  clear hv3 hP hS hl
  intro H locs ls hP hS hl
  refine lv_iload hx hb d_RE_piecesOf_43 (lv_at hl 0 rfl) ?_
  obtain rfl := Option.some.inj hf
  exact hq _ _ _ _ d_RE_piecesOf_45 hP hS
theorem c_RE_piecesOf (l : Launch) (D : va_G) (adr : Nat → Nat) (cA : Nat → ClassId) (μ ν : Mem) (x1 : Int64)  {res : Int32 × Mem} (hf : f_RE_piecesOf μ x1 = some res) : Met l y_RE_piecesOf (Cond.code y_RE_piecesOf prog_4_method_29_code 7 (Option.some Jvm.ClassFile.FieldType.int) :: lw_ok) rm_RE_piecesOf (va_Pc [.ref (adr 18), .long x1] (Wd D adr cA μ ν)) (QI D adr cA res.1 res.2 ν) 0 0 (AA adr) :=
  met_of (own := "LakeRelief$Relief") rfl rfl (Nat.le_of_ble_eq_true rfl) (fun p e s m below meth c C hG hP hS ls hl => w_RE_piecesOf x1  C hG hf (fun pc ls H locs hd hP hS => ret_i C.1 C.2.1 C.2.2.2.2.2.1 C.2.2.2.2.2.2 hG hd hP hS) hP hS hl)
end X_RE_piecesOf
section X_ST_become
variable {p : Program} {l : Launch} {e : Env} {s : State} {m : MethodId} {args : Array Value} {below : List Frame} {meth : Method} {c : Code} {Q : State → Prop}
variable {D : va_G} {adr : Nat → Nat} {cA : Nat → ClassId} {μ ν : Mem}
theorem d_ST_become_0 : decode prog_5_method_2_code 0 = .ok (.aload_n 0, 1) := by decide +kernel
theorem d_ST_become_1 : decode prog_5_method_2_code 1 = .ok (.iload_n 1, 1) := by decide +kernel
theorem d_ST_become_2 : decode prog_5_method_2_code 2 = .ok (.putfield 15, 3) := by decide +kernel
theorem d_ST_become_5 : decode prog_5_method_2_code 5 = .ok (.aload_n 0, 1) := by decide +kernel
theorem d_ST_become_6 : decode prog_5_method_2_code 6 = .ok (.iload_n 2, 1) := by decide +kernel
theorem d_ST_become_7 : decode prog_5_method_2_code 7 = .ok (.putfield 19, 3) := by decide +kernel
theorem d_ST_become_10 : decode prog_5_method_2_code 10 = .ok (.iconst 0, 1) := by decide +kernel
theorem d_ST_become_11 : decode prog_5_method_2_code 11 = .ok (.istore_n 3, 1) := by decide +kernel
theorem d_ST_become_12 : decode prog_5_method_2_code 12 = .ok (.iload_n 3, 1) := by decide +kernel
theorem d_ST_become_13 : decode prog_5_method_2_code 13 = .ok (.bipush 12, 2) := by decide +kernel
theorem d_ST_become_15 : decode prog_5_method_2_code 15 = .ok (.if_icmp .ge 16, 3) := by decide +kernel
theorem d_ST_become_18 : decode prog_5_method_2_code 18 = .ok (.aload_n 0, 1) := by decide +kernel
theorem d_ST_become_19 : decode prog_5_method_2_code 19 = .ok (.getfield 9, 3) := by decide +kernel
theorem d_ST_become_22 : decode prog_5_method_2_code 22 = .ok (.iload_n 3, 1) := by decide +kernel
theorem d_ST_become_23 : decode prog_5_method_2_code 23 = .ok (.iconst 0, 1) := by decide +kernel
theorem d_ST_become_24 : decode prog_5_method_2_code 24 = .ok (.iastore, 1) := by decide +kernel
theorem d_ST_become_25 : decode prog_5_method_2_code 25 = .ok (.iinc 3 1, 3) := by decide +kernel
theorem d_ST_become_28 : decode prog_5_method_2_code 28 = .ok (.goto (-16), 3) := by decide +kernel
theorem d_ST_become_31 : decode prog_5_method_2_code 31 = .ok (.return_, 1) := by decide +kernel
set_option maxHeartbeats 4000000 in
set_option maxRecDepth 100000 in
theorem w_ST_become_L12 (y0 : Nat) (hy0 : y0 < 8) (C : Cx prog_5_method_2_code 4 "LakeRelief$Strip" (Option.none : Option Jvm.ClassFile.FieldType) p s m args meth c) (hG : Geo D adr cA s) (v : Mem) (hE : ∀ (H : Heap) (locs : List Loc) (ls : Array Slot), va_P D cls (wld adr cA v ν) H → va_S (AA adr) s.heap H locs → lv_has ls 4 [] → W p l e rm_ST_become s m args below meth c H locs 0 0 Q (F0 m 31 ls [])) : ∀ (n : Nat) (μ : Mem) (y3 : Int32), f_ST_become_L12 y0 n μ y3 = some v → ∀ {H : Heap} {locs : List Loc} {ls : Array Slot}, va_P D cls (wld adr cA μ ν) H → va_S (AA adr) s.heap H locs → lv_has ls 4 [(0, .ref (adr (2 + y0))), (3, .int y3)] → W p l e rm_ST_become s m args below meth c H locs 0 0 Q (F0 m 12 ls []) := by
  obtain ⟨hx, hb, hml, hown, hts, hr, hlocks⟩ := id C
  intro n
  induction n with
  | zero => intro μ y3 hf; rw [f_ST_become_L12.eq_1] at hf; cases hf
  | succ n ih =>
    intro μ y3 hf H locs ls hP hS hl
    rw [f_ST_become_L12.eq_2] at hf
    refine lv_iload_n hx hb d_ST_become_12 rfl (lv_at hl 1 rfl) ?_
    refine lv_bipush (v := 12) hx hb d_ST_become_13 (by decide) ?_
    refine lv_icmp_ge (tgt := 31) hx hb d_ST_become_15 (by decide) (fun hc => ?_) (fun hc => ?_)
    · replace hf := if_p hc hf
      obtain rfl := Option.some.inj hf
      exact hE _ _ _ hP hS (lv_sub hl [] rfl)
    · replace hf := if_n hc hf
      refine lv_aload_n hx hb d_ST_become_18 rfl (lv_at hl 0 rfl) ?_
      refine g_ST_places hx hb hts hown hG hP hy0 (hts _ in_25) d_ST_become_19 ?_
      refine lv_iload_n hx hb d_ST_become_22 rfl (lv_at hl 1 rfl) ?_
      refine lv_iconst (v := 0) hx hb d_ST_become_23 (by decide) ?_
      replace hf := G_some hf
      obtain ⟨hi1, hf⟩ := hf
      refine rC_iast hx hb hG hP hS (10 + y0) 12 (by have := hy0; omega) (fun _ _ => sh_PL hy0) hi1 d_ST_become_24 (fun H locs hP hS => ?_)
      refine lv_iinc (v := (y3 + 1)) (lv' := [(3, .int (y3 + 1)), (0, .ref (adr (2 + y0)))]) hx hb d_ST_become_25 hl (k := 1) rfl rfl (by decide) rfl (fun ls hl => ?_)
      refine lv_goto (tgt := 12) hx hb d_ST_become_28 (by decide) ?_
      exact ih _ _ hf hP hS (lv_sub hl [1, 0] rfl)
set_option maxHeartbeats 4000000 in
set_option maxRecDepth 100000 in
theorem w_ST_become (o : Nat) (x1 : Int32) (x2 : Int32) (ho : o < 8) (C : Cx prog_5_method_2_code 4 "LakeRelief$Strip" (Option.none : Option Jvm.ClassFile.FieldType) p s m args meth c) (hG : Geo D adr cA s) {res : Mem} (hf : f_ST_become μ o x1 x2 = some res) (hq : ∀ (pc : Nat) (ls : Array Slot) (H : Heap) (locs : List Loc), decode prog_5_method_2_code pc = .ok (.return_, 1) → va_P D cls (wld adr cA res ν) H → va_S (AA adr) s.heap H locs → W p l e rm_ST_become s m args below meth c H locs 0 0 Q (F0 m pc ls [])) {H : Heap} {locs : List Loc} {ls : Array Slot} (hP : va_P D cls (wld adr cA μ ν) H) (hS : va_S (AA adr) s.heap H locs) (hl : lv_has ls 4 [(0, .ref (adr (2 + o))), (1, .int x1), (2, .int x2)]) : W p l e rm_ST_become s m args below meth c H locs 0 0 Q (F0 m 0 ls []) := by
  obtain ⟨hx, hb, hml, hown, hts, hr, hlocks⟩ := id C
  unfold f_ST_become at hf
  refine lv_aload_n hx hb d_ST_become_0 rfl (lv_at hl 0 rfl) ?_
  refine lv_iload_n hx hb d_ST_become_1 rfl (lv_at hl 1 rfl) ?_
  refine p_ST_kind hx hb hts hown hG hP hS ho (hts _ in_27) d_ST_become_2 (fun H locs hP hS => ?_)
  refine lv_aload_n hx hb d_ST_become_5 rfl (lv_at hl 0 rfl) ?_
  refine lv_iload_n hx hb d_ST_become_6 rfl (lv_at hl 2 rfl) ?_
  refine p_ST_length hx hb hts hown hG hP hS ho (hts _ in_29) d_ST_become_7 (fun H locs hP hS => ?_)
  refine lv_iconst (v := 0) hx hb d_ST_become_10 (by decide) ?_
  refine lv_istore_n (lv' := [(3, .int 0), (0, .ref (adr (2 + o))), (1, .int x1), (2, .int x2)]) hx hb d_ST_become_11 rfl hl (by decide) rfl (fun ls hl => ?_)
  replace hf := B_some hf
  obtain ⟨v2, hv2, hf⟩ := hf
  refine w_ST_become_L12 o ho C hG v2 ?_ FU _ _ hv2 hP hS (lv_sub hl [1, 0] rfl)
  clear hv2 hP hS hl
  intro H locs ls hP hS hl
  obtain rfl := Option.some.inj hf
  exact hq _ _ _ _ d_ST_become_31 hP hS
theorem c_ST_become (l : Launch) (D : va_G) (adr : Nat → Nat) (cA : Nat → ClassId) (μ ν : Mem) (o : Nat) (x1 : Int32) (x2 : Int32) (ho : o < 8) {res : Mem} (hf : f_ST_become μ o x1 x2 = some res) : Met l y_ST_become (Cond.code y_ST_become prog_5_method_2_code 4 (Option.none : Option Jvm.ClassFile.FieldType) :: lw_ok) rm_ST_become (va_Pc [.ref (adr (2 + o)), .int x1, .int x2] (Wd D adr cA μ ν)) (QV D adr cA res ν) 0 0 (AA adr) :=
  met_of (own := "LakeRelief$Strip") rfl rfl (Nat.le_of_ble_eq_true rfl) (fun p e s m below meth c C hG hP hS ls hl => w_ST_become o x1 x2 ho C hG hf (fun pc ls H locs hd hP hS => ret_v C.1 C.2.1 C.2.2.2.2.2.1 C.2.2.2.2.2.2 hG hd hP hS) hP hS hl)
end X_ST_become
section X_ST_hasPlace
variable {p : Program} {l : Launch} {e : Env} {s : State} {m : MethodId} {args : Array Value} {below : List Frame} {meth : Method} {c : Code} {Q : State → Prop}
variable {D : va_G} {adr : Nat → Nat} {cA : Nat → ClassId} {μ ν : Mem}
theorem d_ST_hasPlace_0 : decode prog_5_method_3_code 0 = .ok (.iload_n 1, 1) := by decide +kernel
theorem d_ST_hasPlace_1 : decode prog_5_method_3_code 1 = .ok (.ifCond .lt 15, 3) := by decide +kernel
theorem d_ST_hasPlace_4 : decode prog_5_method_3_code 4 = .ok (.iload_n 1, 1) := by decide +kernel
theorem d_ST_hasPlace_5 : decode prog_5_method_3_code 5 = .ok (.aload_n 0, 1) := by decide +kernel
theorem d_ST_hasPlace_6 : decode prog_5_method_3_code 6 = .ok (.getfield 19, 3) := by decide +kernel
theorem d_ST_hasPlace_9 : decode prog_5_method_3_code 9 = .ok (.if_icmp .ge 7, 3) := by decide +kernel
theorem d_ST_hasPlace_12 : decode prog_5_method_3_code 12 = .ok (.iconst 1, 1) := by decide +kernel
theorem d_ST_hasPlace_13 : decode prog_5_method_3_code 13 = .ok (.goto 4, 3) := by decide +kernel
theorem d_ST_hasPlace_16 : decode prog_5_method_3_code 16 = .ok (.iconst 0, 1) := by decide +kernel
theorem d_ST_hasPlace_17 : decode prog_5_method_3_code 17 = .ok (.ireturn, 1) := by decide +kernel
set_option maxHeartbeats 4000000 in
set_option maxRecDepth 100000 in
theorem w_ST_hasPlace (o : Nat) (x1 : Int32) (ho : o < 8) (C : Cx prog_5_method_3_code 2 "LakeRelief$Strip" (Option.some Jvm.ClassFile.FieldType.boolean) p s m args meth c) (hG : Geo D adr cA s) {res : Int32} (hf : f_ST_hasPlace μ o x1 = res) (hq : ∀ (pc : Nat) (ls : Array Slot) (H : Heap) (locs : List Loc), res &&& 1 = res → decode prog_5_method_3_code pc = .ok (.ireturn, 1) → va_P D cls (wld adr cA μ ν) H → va_S (AA adr) s.heap H locs → W p l e rm_ST_hasPlace s m args below meth c H locs 0 0 Q (F0 m pc ls [.int res])) {H : Heap} {locs : List Loc} {ls : Array Slot} (hP : va_P D cls (wld adr cA μ ν) H) (hS : va_S (AA adr) s.heap H locs) (hl : lv_has ls 2 [(0, .ref (adr (2 + o))), (1, .int x1)]) : W p l e rm_ST_hasPlace s m args below meth c H locs 0 0 Q (F0 m 0 ls []) := by
  obtain ⟨hx, hb, hml, hown, hts, hr, hlocks⟩ := id C
  unfold f_ST_hasPlace at hf
  refine lv_iload_n hx hb d_ST_hasPlace_0 rfl (lv_at hl 1 rfl) ?_
  refine lv_if_lt (tgt := 16) hx hb d_ST_hasPlace_1 (by decide) (fun hc => ?_) (fun hc => ?_)
  · replace hf := if_p hc hf
    refine lv_iconst (v := 0) hx hb d_ST_hasPlace_16 (by decide) ?_
    subst hf
    exact hq _ _ _ _ (by decide) d_ST_hasPlace_17 hP hS
  · replace hf := if_n hc hf
    refine lv_iload_n hx hb d_ST_hasPlace_4 rfl (lv_at hl 1 rfl) ?_
    refine lv_aload_n hx hb d_ST_hasPlace_5 rfl (lv_at hl 0 rfl) ?_
    refine g_ST_length hx hb hts hown hG hP ho (hts _ in_29) d_ST_hasPlace_6 ?_
    refine lv_icmp_ge (tgt := 16) hx hb d_ST_hasPlace_9 (by decide) (fun hc => ?_) (fun hc => ?_)
    · replace hf := if_p hc hf
      refine lv_iconst (v := 0) hx hb d_ST_hasPlace_16 (by decide) ?_
      subst hf
      exact hq _ _ _ _ (by decide) d_ST_hasPlace_17 hP hS
    · replace hf := if_n hc hf
      refine lv_iconst (v := 1) hx hb d_ST_hasPlace_12 (by decide) ?_
      refine lv_goto (tgt := 17) hx hb d_ST_hasPlace_13 (by decide) ?_
      subst hf
      exact hq _ _ _ _ (by decide) d_ST_hasPlace_17 hP hS
theorem c_ST_hasPlace (l : Launch) (D : va_G) (adr : Nat → Nat) (cA : Nat → ClassId) (μ ν : Mem) (o : Nat) (x1 : Int32) (ho : o < 8) : Met l y_ST_hasPlace (Cond.code y_ST_hasPlace prog_5_method_3_code 2 (Option.some Jvm.ClassFile.FieldType.boolean) :: lw_ok) rm_ST_hasPlace (va_Pc [.ref (adr (2 + o)), .int x1] (Wd D adr cA μ ν)) (QI D adr cA (f_ST_hasPlace μ o x1) μ ν) 0 0 (AA adr) :=
  met_of (own := "LakeRelief$Strip") rfl rfl (Nat.le_of_ble_eq_true rfl) (fun p e s m below meth c C hG hP hS ls hl => w_ST_hasPlace o x1 ho C hG rfl (fun pc ls H locs hz hd hP hS => ret_z C.1 C.2.1 C.2.2.2.2.2.1 C.2.2.2.2.2.2 hG hz hd hP hS) hP hS hl)
end X_ST_hasPlace
section X_ST_hasRun
variable {p : Program} {l : Launch} {e : Env} {s : State} {m : MethodId} {args : Array Value} {below : List Frame} {meth : Method} {c : Code} {Q : State → Prop}
variable {D : va_G} {adr : Nat → Nat} {cA : Nat → ClassId} {μ ν : Mem}
theorem d_ST_hasRun_0 : decode prog_5_method_4_code 0 = .ok (.iload_n 1, 1) := by decide +kernel
theorem d_ST_hasRun_1 : decode prog_5_method_4_code 1 = .ok (.ifCond .lt 29, 3) := by decide +kernel
theorem d_ST_hasRun_4 : decode prog_5_method_4_code 4 = .ok (.iload_n 2, 1) := by decide +kernel
theorem d_ST_hasRun_5 : decode prog_5_method_4_code 5 = .ok (.ifCond .lt 25, 3) := by decide +kernel
theorem d_ST_hasRun_8 : decode prog_5_method_4_code 8 = .ok (.iload_n 1, 1) := by decide +kernel
theorem d_ST_hasRun_9 : decode prog_5_method_4_code 9 = .ok (.aload_n 0, 1) := by decide +kernel
theorem d_ST_hasRun_10 : decode prog_5_method_4_code 10 = .ok (.getfield 19, 3) := by decide +kernel
theorem d_ST_hasRun_13 : decode prog_5_method_4_code 13 = .ok (.if_icmp .gt 17, 3) := by decide +kernel
theorem d_ST_hasRun_16 : decode prog_5_method_4_code 16 = .ok (.iload_n 2, 1) := by decide +kernel
theorem d_ST_hasRun_17 : decode prog_5_method_4_code 17 = .ok (.aload_n 0, 1) := by decide +kernel
theorem d_ST_hasRun_18 : decode prog_5_method_4_code 18 = .ok (.getfield 19, 3) := by decide +kernel
theorem d_ST_hasRun_21 : decode prog_5_method_4_code 21 = .ok (.iload_n 1, 1) := by decide +kernel
theorem d_ST_hasRun_22 : decode prog_5_method_4_code 22 = .ok (.isub, 1) := by decide +kernel
theorem d_ST_hasRun_23 : decode prog_5_method_4_code 23 = .ok (.if_icmp .gt 7, 3) := by decide +kernel
theorem d_ST_hasRun_26 : decode prog_5_method_4_code 26 = .ok (.iconst 1, 1) := by decide +kernel
theorem d_ST_hasRun_27 : decode prog_5_method_4_code 27 = .ok (.goto 4, 3) := by decide +kernel
theorem d_ST_hasRun_30 : decode prog_5_method_4_code 30 = .ok (.iconst 0, 1) := by decide +kernel
theorem d_ST_hasRun_31 : decode prog_5_method_4_code 31 = .ok (.ireturn, 1) := by decide +kernel
set_option maxHeartbeats 4000000 in
set_option maxRecDepth 100000 in
theorem w_ST_hasRun (o : Nat) (x1 : Int32) (x2 : Int32) (ho : o < 8) (C : Cx prog_5_method_4_code 3 "LakeRelief$Strip" (Option.some Jvm.ClassFile.FieldType.boolean) p s m args meth c) (hG : Geo D adr cA s) {res : Int32} (hf : f_ST_hasRun μ o x1 x2 = res) (hq : ∀ (pc : Nat) (ls : Array Slot) (H : Heap) (locs : List Loc), res &&& 1 = res → decode prog_5_method_4_code pc = .ok (.ireturn, 1) → va_P D cls (wld adr cA μ ν) H → va_S (AA adr) s.heap H locs → W p l e rm_ST_hasRun s m args below meth c H locs 0 0 Q (F0 m pc ls [.int res])) {H : Heap} {locs : List Loc} {ls : Array Slot} (hP : va_P D cls (wld adr cA μ ν) H) (hS : va_S (AA adr) s.heap H locs) (hl : lv_has ls 3 [(0, .ref (adr (2 + o))), (1, .int x1), (2, .int x2)]) : W p l e rm_ST_hasRun s m args below meth c H locs 0 0 Q (F0 m 0 ls []) := by
  obtain ⟨hx, hb, hml, hown, hts, hr, hlocks⟩ := id C
  unfold f_ST_hasRun at hf
  refine lv_iload_n hx hb d_ST_hasRun_0 rfl (lv_at hl 1 rfl) ?_
  refine lv_if_lt (tgt := 30) hx hb d_ST_hasRun_1 (by decide) (fun hc => ?_) (fun hc => ?_)
  · replace hf := if_p hc hf
    refine lv_iconst (v := 0) hx hb d_ST_hasRun_30 (by decide) ?_
    subst hf
    exact hq _ _ _ _ (by decide) d_ST_hasRun_31 hP hS
  · replace hf := if_n hc hf
    refine lv_iload_n hx hb d_ST_hasRun_4 rfl (lv_at hl 2 rfl) ?_
    refine lv_if_lt (tgt := 30) hx hb d_ST_hasRun_5 (by decide) (fun hc => ?_) (fun hc => ?_)
    · replace hf := if_p hc hf
      refine lv_iconst (v := 0) hx hb d_ST_hasRun_30 (by decide) ?_
      subst hf
      exact hq _ _ _ _ (by decide) d_ST_hasRun_31 hP hS
    · replace hf := if_n hc hf
      refine lv_iload_n hx hb d_ST_hasRun_8 rfl (lv_at hl 1 rfl) ?_
      refine lv_aload_n hx hb d_ST_hasRun_9 rfl (lv_at hl 0 rfl) ?_
      refine g_ST_length hx hb hts hown hG hP ho (hts _ in_29) d_ST_hasRun_10 ?_
      refine lv_icmp_gt (tgt := 30) hx hb d_ST_hasRun_13 (by decide) (fun hc => ?_) (fun hc => ?_)
      · replace hf := if_p hc hf
        refine lv_iconst (v := 0) hx hb d_ST_hasRun_30 (by decide) ?_
        subst hf
        exact hq _ _ _ _ (by decide) d_ST_hasRun_31 hP hS
      · replace hf := if_n hc hf
        refine lv_iload_n hx hb d_ST_hasRun_16 rfl (lv_at hl 2 rfl) ?_
        refine lv_aload_n hx hb d_ST_hasRun_17 rfl (lv_at hl 0 rfl) ?_
        refine g_ST_length hx hb hts hown hG hP ho (hts _ in_29) d_ST_hasRun_18 ?_
        refine lv_iload_n hx hb d_ST_hasRun_21 rfl (lv_at hl 1 rfl) ?_
        refine lv_isub hx hb d_ST_hasRun_22 ?_
        refine lv_icmp_gt (tgt := 30) hx hb d_ST_hasRun_23 (by decide) (fun hc => ?_) (fun hc => ?_)
        · replace hf := if_p hc hf
          refine lv_iconst (v := 0) hx hb d_ST_hasRun_30 (by decide) ?_
          subst hf
          exact hq _ _ _ _ (by decide) d_ST_hasRun_31 hP hS
        · replace hf := if_n hc hf
          refine lv_iconst (v := 1) hx hb d_ST_hasRun_26 (by decide) ?_
          refine lv_goto (tgt := 31) hx hb d_ST_hasRun_27 (by decide) ?_
          subst hf
          exact hq _ _ _ _ (by decide) d_ST_hasRun_31 hP hS
theorem c_ST_hasRun (l : Launch) (D : va_G) (adr : Nat → Nat) (cA : Nat → ClassId) (μ ν : Mem) (o : Nat) (x1 : Int32) (x2 : Int32) (ho : o < 8) : Met l y_ST_hasRun (Cond.code y_ST_hasRun prog_5_method_4_code 3 (Option.some Jvm.ClassFile.FieldType.boolean) :: lw_ok) rm_ST_hasRun (va_Pc [.ref (adr (2 + o)), .int x1, .int x2] (Wd D adr cA μ ν)) (QI D adr cA (f_ST_hasRun μ o x1 x2) μ ν) 0 0 (AA adr) :=
  met_of (own := "LakeRelief$Strip") rfl rfl (Nat.le_of_ble_eq_true rfl) (fun p e s m below meth c C hG hP hS ls hl => w_ST_hasRun o x1 x2 ho C hG rfl (fun pc ls H locs hz hd hP hS => ret_z C.1 C.2.1 C.2.2.2.2.2.1 C.2.2.2.2.2.2 hG hz hd hP hS) hP hS hl)
end X_ST_hasRun
section X_ST_keep
variable {p : Program} {l : Launch} {e : Env} {s : State} {m : MethodId} {args : Array Value} {below : List Frame} {meth : Method} {c : Code} {Q : State → Prop}
variable {D : va_G} {adr : Nat → Nat} {cA : Nat → ClassId} {μ ν : Mem}
theorem d_ST_keep_0 : decode prog_5_method_5_code 0 = .ok (.aload_n 0, 1) := by decide +kernel
theorem d_ST_keep_1 : decode prog_5_method_5_code 1 = .ok (.getfield 9, 3) := by decide +kernel
theorem d_ST_keep_4 : decode prog_5_method_5_code 4 = .ok (.iload_n 1, 1) := by decide +kernel
theorem d_ST_keep_5 : decode prog_5_method_5_code 5 = .ok (.aload_n 0, 1) := by decide +kernel
theorem d_ST_keep_6 : decode prog_5_method_5_code 6 = .ok (.getfield 15, 3) := by decide +kernel
theorem d_ST_keep_9 : decode prog_5_method_5_code 9 = .ok (.ifCond .ne 8, 3) := by decide +kernel
theorem d_ST_keep_12 : decode prog_5_method_5_code 12 = .ok (.iload_n 2, 1) := by decide +kernel
theorem d_ST_keep_13 : decode prog_5_method_5_code 13 = .ok (.i2b, 1) := by decide +kernel
theorem d_ST_keep_14 : decode prog_5_method_5_code 14 = .ok (.goto 17, 3) := by decide +kernel
theorem d_ST_keep_17 : decode prog_5_method_5_code 17 = .ok (.aload_n 0, 1) := by decide +kernel
theorem d_ST_keep_18 : decode prog_5_method_5_code 18 = .ok (.getfield 15, 3) := by decide +kernel
theorem d_ST_keep_21 : decode prog_5_method_5_code 21 = .ok (.iconst 1, 1) := by decide +kernel
theorem d_ST_keep_22 : decode prog_5_method_5_code 22 = .ok (.if_icmp .ne 8, 3) := by decide +kernel
theorem d_ST_keep_25 : decode prog_5_method_5_code 25 = .ok (.iload_n 2, 1) := by decide +kernel
theorem d_ST_keep_26 : decode prog_5_method_5_code 26 = .ok (.i2s, 1) := by decide +kernel
theorem d_ST_keep_27 : decode prog_5_method_5_code 27 = .ok (.goto 4, 3) := by decide +kernel
theorem d_ST_keep_30 : decode prog_5_method_5_code 30 = .ok (.iload_n 2, 1) := by decide +kernel
theorem d_ST_keep_31 : decode prog_5_method_5_code 31 = .ok (.iastore, 1) := by decide +kernel
theorem d_ST_keep_32 : decode prog_5_method_5_code 32 = .ok (.return_, 1) := by decide +kernel
set_option maxHeartbeats 4000000 in
set_option maxRecDepth 100000 in
theorem w_ST_keep (o : Nat) (x1 : Int32) (x2 : Int32) (ho : o < 8) (C : Cx prog_5_method_5_code 3 "LakeRelief$Strip" (Option.none : Option Jvm.ClassFile.FieldType) p s m args meth c) (hG : Geo D adr cA s) {res : Mem} (hf : f_ST_keep μ o x1 x2 = some res) (hq : ∀ (pc : Nat) (ls : Array Slot) (H : Heap) (locs : List Loc), decode prog_5_method_5_code pc = .ok (.return_, 1) → va_P D cls (wld adr cA res ν) H → va_S (AA adr) s.heap H locs → W p l e rm_ST_keep s m args below meth c H locs 0 0 Q (F0 m pc ls [])) {H : Heap} {locs : List Loc} {ls : Array Slot} (hP : va_P D cls (wld adr cA μ ν) H) (hS : va_S (AA adr) s.heap H locs) (hl : lv_has ls 3 [(0, .ref (adr (2 + o))), (1, .int x1), (2, .int x2)]) : W p l e rm_ST_keep s m args below meth c H locs 0 0 Q (F0 m 0 ls []) := by
  obtain ⟨hx, hb, hml, hown, hts, hr, hlocks⟩ := id C
  unfold f_ST_keep at hf
  refine lv_aload_n hx hb d_ST_keep_0 rfl (lv_at hl 0 rfl) ?_
  refine g_ST_places hx hb hts hown hG hP ho (hts _ in_25) d_ST_keep_1 ?_
  refine lv_iload_n hx hb d_ST_keep_4 rfl (lv_at hl 1 rfl) ?_
  refine lv_aload_n hx hb d_ST_keep_5 rfl (lv_at hl 0 rfl) ?_
  refine g_ST_kind hx hb hts hown hG hP ho (hts _ in_27) d_ST_keep_6 ?_
  replace hf := B_some hf
  obtain ⟨v1, hv1, hf⟩ := hf
  have hJ : ∀ (H : Heap) (locs : List Loc) (ls : Array Slot), va_P D cls (wld adr cA μ ν) H → va_S (AA adr) s.heap H locs → lv_has ls 3 [] → W p l e rm_ST_keep s m args below meth c H locs 0 0 Q (F0 m 31 ls [.int v1, .int x1, .ref (adr (10 + o))]) := by
    clear hv1
    intro H locs ls hP hS hl
    replace hf := G_some hf
    obtain ⟨hi2, hf⟩ := hf
    refine rC_iast hx hb hG hP hS (10 + o) 12 (by have := ho; omega) (fun _ _ => sh_PL ho) hi2 d_ST_keep_31 (fun H locs hP hS => ?_)
    obtain rfl := Option.some.inj hf
    exact hq _ _ _ _ d_ST_keep_32 hP hS
  clear hf
  have hf := hv1
  clear hv1
  refine lv_if_ne (tgt := 17) hx hb d_ST_keep_9 (by decide) (fun hc => ?_) (fun hc => ?_)
  · replace hf := if_n hc hf
    refine lv_aload_n hx hb d_ST_keep_17 rfl (lv_at hl 0 rfl) ?_
    refine g_ST_kind hx hb hts hown hG hP ho (hts _ in_27) d_ST_keep_18 ?_
    refine lv_iconst (v := 1) hx hb d_ST_keep_21 (by decide) ?_
    refine lv_icmp_ne (tgt := 30) hx hb d_ST_keep_22 (by decide) (fun hc => ?_) (fun hc => ?_)
    · replace hf := if_n hc hf
      refine lv_iload_n hx hb d_ST_keep_30 rfl (lv_at hl 2 rfl) ?_
      obtain rfl := Option.some.inj hf
      exact hJ _ _ _ hP hS (lv_sub hl [] rfl)
    · replace hf := if_p hc hf
      refine lv_iload_n hx hb d_ST_keep_25 rfl (lv_at hl 2 rfl) ?_
      refine lv_i2s hx hb d_ST_keep_26 rfl ?_
      refine lv_goto (tgt := 31) hx hb d_ST_keep_27 (by decide) ?_
      obtain rfl := Option.some.inj hf
      exact hJ _ _ _ hP hS (lv_sub hl [] rfl)
  · replace hf := if_p hc hf
    refine lv_iload_n hx hb d_ST_keep_12 rfl (lv_at hl 2 rfl) ?_
    refine lv_i2b hx hb d_ST_keep_13 rfl ?_
    refine lv_goto (tgt := 31) hx hb d_ST_keep_14 (by decide) ?_
    obtain rfl := Option.some.inj hf
    exact hJ _ _ _ hP hS (lv_sub hl [] rfl)
theorem c_ST_keep (l : Launch) (D : va_G) (adr : Nat → Nat) (cA : Nat → ClassId) (μ ν : Mem) (o : Nat) (x1 : Int32) (x2 : Int32) (ho : o < 8) {res : Mem} (hf : f_ST_keep μ o x1 x2 = some res) : Met l y_ST_keep (Cond.code y_ST_keep prog_5_method_5_code 3 (Option.none : Option Jvm.ClassFile.FieldType) :: lw_ok) rm_ST_keep (va_Pc [.ref (adr (2 + o)), .int x1, .int x2] (Wd D adr cA μ ν)) (QV D adr cA res ν) 0 0 (AA adr) :=
  met_of (own := "LakeRelief$Strip") rfl rfl (Nat.le_of_ble_eq_true rfl) (fun p e s m below meth c C hG hP hS ls hl => w_ST_keep o x1 x2 ho C hG hf (fun pc ls H locs hd hP hS => ret_v C.1 C.2.1 C.2.2.2.2.2.1 C.2.2.2.2.2.2 hG hd hP hS) hP hS hl)
end X_ST_keep
section X_LR_isStrip
variable {p : Program} {l : Launch} {e : Env} {s : State} {m : MethodId} {args : Array Value} {below : List Frame} {meth : Method} {c : Code} {Q : State → Prop}
variable {D : va_G} {adr : Nat → Nat} {cA : Nat → ClassId} {μ ν : Mem}
theorem d_LR_isStrip_0 : decode prog_1_method_18_code 0 = .ok (.iload_n 0, 1) := by decide +kernel
theorem d_LR_isStrip_1 : decode prog_1_method_18_code 1 = .ok (.ifCond .lt 13, 3) := by decide +kernel
theorem d_LR_isStrip_4 : decode prog_1_method_18_code 4 = .ok (.iload_n 0, 1) := by decide +kernel
theorem d_LR_isStrip_5 : decode prog_1_method_18_code 5 = .ok (.bipush 8, 2) := by decide +kernel
theorem d_LR_isStrip_7 : decode prog_1_method_18_code 7 = .ok (.if_icmp .ge 7, 3) := by decide +kernel
theorem d_LR_isStrip_10 : decode prog_1_method_18_code 10 = .ok (.iconst 1, 1) := by decide +kernel
theorem d_LR_isStrip_11 : decode prog_1_method_18_code 11 = .ok (.goto 4, 3) := by decide +kernel
theorem d_LR_isStrip_14 : decode prog_1_method_18_code 14 = .ok (.iconst 0, 1) := by decide +kernel
theorem d_LR_isStrip_15 : decode prog_1_method_18_code 15 = .ok (.ireturn, 1) := by decide +kernel
set_option maxHeartbeats 4000000 in
set_option maxRecDepth 100000 in
theorem w_LR_isStrip (x0 : Int32)  (C : Cx prog_1_method_18_code 1 "LakeRelief" (Option.some Jvm.ClassFile.FieldType.boolean) p s m args meth c) (hG : Geo D adr cA s) {res : Int32} (hf : f_LR_isStrip x0 = res) (hq : ∀ (pc : Nat) (ls : Array Slot) (H : Heap) (locs : List Loc), res &&& 1 = res → decode prog_1_method_18_code pc = .ok (.ireturn, 1) → va_P D cls (wld adr cA μ ν) H → va_S (AA adr) s.heap H locs → W p l e rm_LR_isStrip s m args below meth c H locs 0 0 Q (F0 m pc ls [.int res])) {H : Heap} {locs : List Loc} {ls : Array Slot} (hP : va_P D cls (wld adr cA μ ν) H) (hS : va_S (AA adr) s.heap H locs) (hl : lv_has ls 1 [(0, .int x0)]) : W p l e rm_LR_isStrip s m args below meth c H locs 0 0 Q (F0 m 0 ls []) := by
  obtain ⟨hx, hb, hml, hown, hts, hr, hlocks⟩ := id C
  unfold f_LR_isStrip at hf
  refine lv_iload_n hx hb d_LR_isStrip_0 rfl (lv_at hl 0 rfl) ?_
  refine lv_if_lt (tgt := 14) hx hb d_LR_isStrip_1 (by decide) (fun hc => ?_) (fun hc => ?_)
  · replace hf := if_p hc hf
    refine lv_iconst (v := 0) hx hb d_LR_isStrip_14 (by decide) ?_
    subst hf
    exact hq _ _ _ _ (by decide) d_LR_isStrip_15 hP hS
  · replace hf := if_n hc hf
    refine lv_iload_n hx hb d_LR_isStrip_4 rfl (lv_at hl 0 rfl) ?_
    refine lv_bipush (v := 8) hx hb d_LR_isStrip_5 (by decide) ?_
    refine lv_icmp_ge (tgt := 14) hx hb d_LR_isStrip_7 (by decide) (fun hc => ?_) (fun hc => ?_)
    · replace hf := if_p hc hf
      refine lv_iconst (v := 0) hx hb d_LR_isStrip_14 (by decide) ?_
      subst hf
      exact hq _ _ _ _ (by decide) d_LR_isStrip_15 hP hS
    · replace hf := if_n hc hf
      refine lv_iconst (v := 1) hx hb d_LR_isStrip_10 (by decide) ?_
      refine lv_goto (tgt := 15) hx hb d_LR_isStrip_11 (by decide) ?_
      subst hf
      exact hq _ _ _ _ (by decide) d_LR_isStrip_15 hP hS
theorem c_LR_isStrip (l : Launch) (D : va_G) (adr : Nat → Nat) (cA : Nat → ClassId) (μ ν : Mem) (x0 : Int32)  : Met l y_LR_isStrip (Cond.code y_LR_isStrip prog_1_method_18_code 1 (Option.some Jvm.ClassFile.FieldType.boolean) :: lw_ok) rm_LR_isStrip (va_Pc [.int x0] (Wd D adr cA μ ν)) (QI D adr cA (f_LR_isStrip x0) μ ν) 0 0 (AA adr) :=
  met_of (own := "LakeRelief") rfl rfl (Nat.le_of_ble_eq_true rfl) (fun p e s m below meth c C hG hP hS ls hl => w_LR_isStrip x0  C hG rfl (fun pc ls H locs hz hd hP hS => ret_z C.1 C.2.1 C.2.2.2.2.2.1 C.2.2.2.2.2.2 hG hz hd hP hS) hP hS hl)
end X_LR_isStrip
