section X_MO_against0
variable {p : Program} {l : Launch} {e : Env} {s : State} {m : MethodId} {args : Array Value} {below : List Frame} {meth : Method} {c : Code} {Q : State → Prop}
variable {D : va_G} {adr : Nat → Nat} {cA : Nat → ClassId} {μ ν : Mem}
theorem d_MO_against0_0 : decode prog_7_method_37_code 0 = .ok (.aload_n 0, 1) := by decide +kernel
theorem d_MO_against0_1 : decode prog_7_method_37_code 1 = .ok (.getfield 156, 3) := by decide +kernel
theorem d_MO_against0_4 : decode prog_7_method_37_code 4 = .ok (.ifCond .ne 6, 3) := by decide +kernel
theorem d_MO_against0_7 : decode prog_7_method_37_code 7 = .ok (.bipush (-2), 2) := by decide +kernel
theorem d_MO_against0_9 : decode prog_7_method_37_code 9 = .ok (.ireturn, 1) := by decide +kernel
theorem d_MO_against0_10 : decode prog_7_method_37_code 10 = .ok (.aload_n 0, 1) := by decide +kernel
theorem d_MO_against0_11 : decode prog_7_method_37_code 11 = .ok (.iload_n 1, 1) := by decide +kernel
theorem d_MO_against0_12 : decode prog_7_method_37_code 12 = .ok (.invokevirtual 196, 3) := by decide +kernel
theorem d_MO_against0_15 : decode prog_7_method_37_code 15 = .ok (.ifCond .eq 24, 3) := by decide +kernel
theorem d_MO_against0_18 : decode prog_7_method_37_code 18 = .ok (.iload_n 2, 1) := by decide +kernel
theorem d_MO_against0_19 : decode prog_7_method_37_code 19 = .ok (.ldc 210, 2) := by decide +kernel
theorem d_MO_against0_21 : decode prog_7_method_37_code 21 = .ok (.if_icmp .lt 18, 3) := by decide +kernel
theorem d_MO_against0_24 : decode prog_7_method_37_code 24 = .ok (.iload_n 2, 1) := by decide +kernel
theorem d_MO_against0_25 : decode prog_7_method_37_code 25 = .ok (.aload_n 0, 1) := by decide +kernel
theorem d_MO_against0_26 : decode prog_7_method_37_code 26 = .ok (.getfield 23, 3) := by decide +kernel
theorem d_MO_against0_29 : decode prog_7_method_37_code 29 = .ok (.aload_n 0, 1) := by decide +kernel
theorem d_MO_against0_30 : decode prog_7_method_37_code 30 = .ok (.getfield 42, 3) := by decide +kernel
theorem d_MO_against0_33 : decode prog_7_method_37_code 33 = .ok (.iload_n 1, 1) := by decide +kernel
theorem d_MO_against0_34 : decode prog_7_method_37_code 34 = .ok (.iaload, 1) := by decide +kernel
theorem d_MO_against0_35 : decode prog_7_method_37_code 35 = .ok (.iaload, 1) := by decide +kernel
theorem d_MO_against0_36 : decode prog_7_method_37_code 36 = .ok (.if_icmp .le 7, 3) := by decide +kernel
theorem d_MO_against0_39 : decode prog_7_method_37_code 39 = .ok (.iconst (-1), 1) := by decide +kernel
theorem d_MO_against0_40 : decode prog_7_method_37_code 40 = .ok (.goto 4, 3) := by decide +kernel
theorem d_MO_against0_43 : decode prog_7_method_37_code 43 = .ok (.iconst 0, 1) := by decide +kernel
theorem d_MO_against0_44 : decode prog_7_method_37_code 44 = .ok (.ireturn, 1) := by decide +kernel
set_option maxHeartbeats 4000000 in
set_option maxRecDepth 100000 in
theorem w_MO_against0 (x1 : Int32) (x2 : Int32)  (C : Cx prog_7_method_37_code 3 "LakeReliefModel" (Option.some Jvm.ClassFile.FieldType.int) p s m args meth c) (hG : Geo D adr cA s) {res : Int32} (hf : f_MO_against0 ν x1 x2 = some res) (hq : ∀ (pc : Nat) (ls : Array Slot) (H : Heap) (locs : List Loc), decode prog_7_method_37_code pc = .ok (.ireturn, 1) → va_P D cls (wld adr cA μ ν) H → va_S (AA adr) s.heap H locs → W p l e rm_MO_against0 s m args below meth c H locs 0 0 Q (F0 m pc ls [.int res])) {H : Heap} {locs : List Loc} {ls : Array Slot} (hP : va_P D cls (wld adr cA μ ν) H) (hS : va_S (AA adr) s.heap H locs) (hl : lv_has ls 3 [(0, .ref (adr 63)), (1, .int x1), (2, .int x2)]) : W p l e rm_MO_against0 s m args below meth c H locs 0 0 Q (F0 m 0 ls []) := by
  obtain ⟨hx, hb, hml, hown, hts, hr, hlocks⟩ := id C
  unfold f_MO_against0 at hf
  refine lv_aload_n hx hb d_MO_against0_0 rfl (lv_at hl 0 rfl) ?_
  refine g_MO_isLaid hx hb hts hown hG hP (hts _ in_564) d_MO_against0_1 ?_
  refine lv_if_ne (tgt := 10) hx hb d_MO_against0_4 (by decide) (fun hc => ?_) (fun hc => ?_)
  · replace hf := if_n hc hf
    refine lv_aload_n hx hb d_MO_against0_10 rfl (lv_at hl 0 rfl) ?_
    refine lv_iload_n hx hb d_MO_against0_11 rfl (lv_at hl 1 rfl) ?_
    replace hf := B_some hf
    obtain ⟨v1, hv1, hf⟩ := hf
    refine ki (kv (As := [.int x1]) (rest := []) ⟨hx, hb, hml, hown, hts⟩ (cw_MO_196 hts ⟨Nat.le_of_ble_eq_true rfl, Nat.le_of_ble_eq_true rfl⟩) (c_MO_isLake l D adr cA μ ν x1 hv1) hG hP (rc_o (q := 63) (ci := 5) hG hP (by decide) (wc_M (by decide) rfl) rfl) rfl hl.1 (Nat.le_of_ble_eq_true rfl) d_MO_against0_12) hS (fun H locs hP hS => ?_)
    refine lv_if_eq (tgt := 39) hx hb d_MO_against0_15 (by decide) (fun hc => ?_) (fun hc => ?_)
    · replace hf := if_p hc hf
      refine lv_iconst (v := (-1)) hx hb d_MO_against0_39 (by decide) ?_
      refine lv_goto (tgt := 44) hx hb d_MO_against0_40 (by decide) ?_
      obtain rfl := Option.some.inj hf
      exact hq _ _ _ _ d_MO_against0_44 hP hS
    · replace hf := if_n hc hf
      refine lv_iload_n hx hb d_MO_against0_18 rfl (lv_at hl 2 rfl) ?_
      refine lv_ldc (v := (-1000000)) hx hb hown (hts _ in_809) d_MO_against0_19 ?_
      refine lv_icmp_lt (tgt := 39) hx hb d_MO_against0_21 (by decide) (fun hc => ?_) (fun hc => ?_)
      · replace hf := if_p hc hf
        refine lv_iconst (v := (-1)) hx hb d_MO_against0_39 (by decide) ?_
        refine lv_goto (tgt := 44) hx hb d_MO_against0_40 (by decide) ?_
        obtain rfl := Option.some.inj hf
        exact hq _ _ _ _ d_MO_against0_44 hP hS
      · replace hf := if_n hc hf
        refine lv_iload_n hx hb d_MO_against0_24 rfl (lv_at hl 2 rfl) ?_
        refine lv_aload_n hx hb d_MO_against0_25 rfl (lv_at hl 0 rfl) ?_
        refine g_MO_height hx hb hts hown hG hP (hts _ in_568) d_MO_against0_26 ?_
        refine lv_aload_n hx hb d_MO_against0_29 rfl (lv_at hl 0 rfl) ?_
        refine g_MO_rim hx hb hts hown hG hP (hts _ in_575) d_MO_against0_30 ?_
        refine lv_iload_n hx hb d_MO_against0_33 rfl (lv_at hl 1 rfl) ?_
        replace hf := G_some hf
        obtain ⟨hi2, hf⟩ := hf
        refine r_iald hx hb hG hP 74 64 (f := ν.1 74) (by decide) (wc_M (by decide) rfl) hi2 d_MO_against0_34 ?_
        replace hf := G_some hf
        obtain ⟨hi3, hf⟩ := hf
        refine r_iald hx hb hG hP 68 64 (f := ν.1 68) (by decide) (wc_M (by decide) rfl) hi3 d_MO_against0_35 ?_
        refine lv_icmp_le (tgt := 43) hx hb d_MO_against0_36 (by decide) (fun hc => ?_) (fun hc => ?_)
        · replace hf := if_p hc hf
          refine lv_iconst (v := 0) hx hb d_MO_against0_43 (by decide) ?_
          obtain rfl := Option.some.inj hf
          exact hq _ _ _ _ d_MO_against0_44 hP hS
        · replace hf := if_n hc hf
          refine lv_iconst (v := (-1)) hx hb d_MO_against0_39 (by decide) ?_
          refine lv_goto (tgt := 44) hx hb d_MO_against0_40 (by decide) ?_
          obtain rfl := Option.some.inj hf
          exact hq _ _ _ _ d_MO_against0_44 hP hS
  · replace hf := if_p hc hf
    refine lv_bipush (v := (-2)) hx hb d_MO_against0_7 (by decide) ?_
    obtain rfl := Option.some.inj hf
    exact hq _ _ _ _ d_MO_against0_9 hP hS
theorem c_MO_against0 (l : Launch) (D : va_G) (adr : Nat → Nat) (cA : Nat → ClassId) (μ ν : Mem) (x1 : Int32) (x2 : Int32)  {res : Int32} (hf : f_MO_against0 ν x1 x2 = some res) : Met l y_MO_against0 (Cond.code y_MO_against0 prog_7_method_37_code 3 (Option.some Jvm.ClassFile.FieldType.int) :: lw_ok) rm_MO_against0 (va_Pc [.ref (adr 63), .int x1, .int x2] (Wd D adr cA μ ν)) (QI D adr cA res μ ν) 0 0 (AA adr) :=
  met_of (own := "LakeReliefModel") rfl rfl (Nat.le_of_ble_eq_true rfl) (fun p e s m below meth c C hG hP hS ls hl => w_MO_against0 x1 x2  C hG hf (fun pc ls H locs hd hP hS => ret_i C.1 C.2.1 C.2.2.2.2.2.1 C.2.2.2.2.2.2 hG hd hP hS) hP hS hl)
end X_MO_against0
section X_MO_holds
variable {p : Program} {l : Launch} {e : Env} {s : State} {m : MethodId} {args : Array Value} {below : List Frame} {meth : Method} {c : Code} {Q : State → Prop}
variable {D : va_G} {adr : Nat → Nat} {cA : Nat → ClassId} {μ ν : Mem}
theorem d_MO_holds_0 : decode prog_7_method_38_code 0 = .ok (.aload_n 0, 1) := by decide +kernel
theorem d_MO_holds_1 : decode prog_7_method_38_code 1 = .ok (.iload_n 1, 1) := by decide +kernel
theorem d_MO_holds_2 : decode prog_7_method_38_code 2 = .ok (.iload_n 2, 1) := by decide +kernel
theorem d_MO_holds_3 : decode prog_7_method_38_code 3 = .ok (.invokevirtual 211, 3) := by decide +kernel
theorem d_MO_holds_6 : decode prog_7_method_38_code 6 = .ok (.istore_n 3, 1) := by decide +kernel
theorem d_MO_holds_7 : decode prog_7_method_38_code 7 = .ok (.iload_n 3, 1) := by decide +kernel
theorem d_MO_holds_8 : decode prog_7_method_38_code 8 = .ok (.ifCond .eq 7, 3) := by decide +kernel
theorem d_MO_holds_11 : decode prog_7_method_38_code 11 = .ok (.iload_n 3, 1) := by decide +kernel
theorem d_MO_holds_12 : decode prog_7_method_38_code 12 = .ok (.goto 9, 3) := by decide +kernel
theorem d_MO_holds_15 : decode prog_7_method_38_code 15 = .ok (.aload_n 0, 1) := by decide +kernel
theorem d_MO_holds_16 : decode prog_7_method_38_code 16 = .ok (.iload_n 1, 1) := by decide +kernel
theorem d_MO_holds_17 : decode prog_7_method_38_code 17 = .ok (.iload_n 2, 1) := by decide +kernel
theorem d_MO_holds_18 : decode prog_7_method_38_code 18 = .ok (.invokevirtual 193, 3) := by decide +kernel
theorem d_MO_holds_21 : decode prog_7_method_38_code 21 = .ok (.ireturn, 1) := by decide +kernel
set_option maxHeartbeats 4000000 in
set_option maxRecDepth 100000 in
theorem w_MO_holds (x1 : Int32) (x2 : Int32)  (C : Cx prog_7_method_38_code 4 "LakeReliefModel" (Option.some Jvm.ClassFile.FieldType.int) p s m args meth c) (hG : Geo D adr cA s) {res : Int32} (hf : f_MO_holds ν x1 x2 = some res) (hq : ∀ (pc : Nat) (ls : Array Slot) (H : Heap) (locs : List Loc), decode prog_7_method_38_code pc = .ok (.ireturn, 1) → va_P D cls (wld adr cA μ ν) H → va_S (AA adr) s.heap H locs → W p l e rm_MO_holds s m args below meth c H locs 0 0 Q (F0 m pc ls [.int res])) {H : Heap} {locs : List Loc} {ls : Array Slot} (hP : va_P D cls (wld adr cA μ ν) H) (hS : va_S (AA adr) s.heap H locs) (hl : lv_has ls 4 [(0, .ref (adr 63)), (1, .int x1), (2, .int x2)]) : W p l e rm_MO_holds s m args below meth c H locs 0 0 Q (F0 m 0 ls []) := by
  obtain ⟨hx, hb, hml, hown, hts, hr, hlocks⟩ := id C
  unfold f_MO_holds at hf
  refine lv_aload_n hx hb d_MO_holds_0 rfl (lv_at hl 0 rfl) ?_
  refine lv_iload_n hx hb d_MO_holds_1 rfl (lv_at hl 1 rfl) ?_
  refine lv_iload_n hx hb d_MO_holds_2 rfl (lv_at hl 2 rfl) ?_
  replace hf := B_some hf
  obtain ⟨v1, hv1, hf⟩ := hf
  refine ki (kv (As := [.int x1, .int x2]) (rest := []) ⟨hx, hb, hml, hown, hts⟩ (cw_MO_211 hts ⟨Nat.le_of_ble_eq_true rfl, Nat.le_of_ble_eq_true rfl⟩) (c_MO_against0 l D adr cA μ ν x1 x2 hv1) hG hP (rc_o (q := 63) (ci := 5) hG hP (by decide) (wc_M (by decide) rfl) rfl) rfl hl.1 (Nat.le_of_ble_eq_true rfl) d_MO_holds_3) hS (fun H locs hP hS => ?_)
  refine lv_istore_n (lv' := [(3, .int v1), (0, .ref (adr 63)), (1, .int x1), (2, .int x2)]) hx hb d_MO_holds_6 rfl hl (by decide) rfl (fun ls hl => ?_)
  refine lv_iload_n hx hb d_MO_holds_7 rfl (lv_at hl 0 rfl) ?_
  refine lv_if_eq (tgt := 15) hx hb d_MO_holds_8 (by decide) (fun hc => ?_) (fun hc => ?_)
  · replace hf := if_p hc hf
    refine lv_aload_n hx hb d_MO_holds_15 rfl (lv_at hl 1 rfl) ?_
    refine lv_iload_n hx hb d_MO_holds_16 rfl (lv_at hl 2 rfl) ?_
    refine lv_iload_n hx hb d_MO_holds_17 rfl (lv_at hl 3 rfl) ?_
    replace hf := B_some hf
    obtain ⟨v2, hv2, hf⟩ := hf
    refine ki (kv (As := [.int x1, .int x2]) (rest := []) ⟨hx, hb, hml, hown, hts⟩ (cw_MO_193 hts ⟨Nat.le_of_ble_eq_true rfl, Nat.le_of_ble_eq_true rfl⟩) (c_MO_holdsTo l D adr cA μ ν x1 x2 hv2) hG hP (rc_o (q := 63) (ci := 5) hG hP (by decide) (wc_M (by decide) rfl) rfl) rfl hl.1 (Nat.le_of_ble_eq_true rfl) d_MO_holds_18) hS (fun H locs hP hS => ?_)
    obtain rfl := Option.some.inj hf
    exact hq _ _ _ _ d_MO_holds_21 hP hS
  · replace hf := if_n hc hf
    refine lv_iload_n hx hb d_MO_holds_11 rfl (lv_at hl 0 rfl) ?_
    refine lv_goto (tgt := 21) hx hb d_MO_holds_12 (by decide) ?_
    obtain rfl := Option.some.inj hf
    exact hq _ _ _ _ d_MO_holds_21 hP hS
theorem c_MO_holds (l : Launch) (D : va_G) (adr : Nat → Nat) (cA : Nat → ClassId) (μ ν : Mem) (x1 : Int32) (x2 : Int32)  {res : Int32} (hf : f_MO_holds ν x1 x2 = some res) : Met l y_MO_holds (Cond.code y_MO_holds prog_7_method_38_code 4 (Option.some Jvm.ClassFile.FieldType.int) :: lw_ok) rm_MO_holds (va_Pc [.ref (adr 63), .int x1, .int x2] (Wd D adr cA μ ν)) (QI D adr cA res μ ν) 0 0 (AA adr) :=
  met_of (own := "LakeReliefModel") rfl rfl (Nat.le_of_ble_eq_true rfl) (fun p e s m below meth c C hG hP hS ls hl => w_MO_holds x1 x2  C hG hf (fun pc ls H locs hd hP hS => ret_i C.1 C.2.1 C.2.2.2.2.2.1 C.2.2.2.2.2.2 hG hd hP hS) hP hS hl)
end X_MO_holds
section X_MO_area
variable {p : Program} {l : Launch} {e : Env} {s : State} {m : MethodId} {args : Array Value} {below : List Frame} {meth : Method} {c : Code} {Q : State → Prop}
variable {D : va_G} {adr : Nat → Nat} {cA : Nat → ClassId} {μ ν : Mem}
theorem d_MO_area_0 : decode prog_7_method_39_code 0 = .ok (.aload_n 0, 1) := by decide +kernel
theorem d_MO_area_1 : decode prog_7_method_39_code 1 = .ok (.iload_n 1, 1) := by decide +kernel
theorem d_MO_area_2 : decode prog_7_method_39_code 2 = .ok (.iload_n 2, 1) := by decide +kernel
theorem d_MO_area_3 : decode prog_7_method_39_code 3 = .ok (.invokevirtual 211, 3) := by decide +kernel
theorem d_MO_area_6 : decode prog_7_method_39_code 6 = .ok (.istore_n 3, 1) := by decide +kernel
theorem d_MO_area_7 : decode prog_7_method_39_code 7 = .ok (.iload_n 3, 1) := by decide +kernel
theorem d_MO_area_8 : decode prog_7_method_39_code 8 = .ok (.ifCond .eq 5, 3) := by decide +kernel
theorem d_MO_area_11 : decode prog_7_method_39_code 11 = .ok (.iload_n 3, 1) := by decide +kernel
theorem d_MO_area_12 : decode prog_7_method_39_code 12 = .ok (.ireturn, 1) := by decide +kernel
theorem d_MO_area_13 : decode prog_7_method_39_code 13 = .ok (.iconst 0, 1) := by decide +kernel
theorem d_MO_area_14 : decode prog_7_method_39_code 14 = .ok (.istore 4, 2) := by decide +kernel
theorem d_MO_area_16 : decode prog_7_method_39_code 16 = .ok (.iconst 0, 1) := by decide +kernel
theorem d_MO_area_17 : decode prog_7_method_39_code 17 = .ok (.istore 5, 2) := by decide +kernel
theorem d_MO_area_19 : decode prog_7_method_39_code 19 = .ok (.iload 5, 2) := by decide +kernel
theorem d_MO_area_21 : decode prog_7_method_39_code 21 = .ok (.aload_n 0, 1) := by decide +kernel
theorem d_MO_area_22 : decode prog_7_method_39_code 22 = .ok (.getfield 102, 3) := by decide +kernel
theorem d_MO_area_25 : decode prog_7_method_39_code 25 = .ok (.if_icmp .ge 40, 3) := by decide +kernel
theorem d_MO_area_28 : decode prog_7_method_39_code 28 = .ok (.iload 4, 2) := by decide +kernel
theorem d_MO_area_30 : decode prog_7_method_39_code 30 = .ok (.aload_n 0, 1) := by decide +kernel
theorem d_MO_area_31 : decode prog_7_method_39_code 31 = .ok (.iload_n 1, 1) := by decide +kernel
theorem d_MO_area_32 : decode prog_7_method_39_code 32 = .ok (.iload 5, 2) := by decide +kernel
theorem d_MO_area_34 : decode prog_7_method_39_code 34 = .ok (.invokevirtual 180, 3) := by decide +kernel
theorem d_MO_area_37 : decode prog_7_method_39_code 37 = .ok (.ifCond .eq 18, 3) := by decide +kernel
theorem d_MO_area_40 : decode prog_7_method_39_code 40 = .ok (.aload_n 0, 1) := by decide +kernel
theorem d_MO_area_41 : decode prog_7_method_39_code 41 = .ok (.getfield 23, 3) := by decide +kernel
theorem d_MO_area_44 : decode prog_7_method_39_code 44 = .ok (.iload 5, 2) := by decide +kernel
theorem d_MO_area_46 : decode prog_7_method_39_code 46 = .ok (.iaload, 1) := by decide +kernel
theorem d_MO_area_47 : decode prog_7_method_39_code 47 = .ok (.iload_n 2, 1) := by decide +kernel
theorem d_MO_area_48 : decode prog_7_method_39_code 48 = .ok (.if_icmp .ge 7, 3) := by decide +kernel
theorem d_MO_area_51 : decode prog_7_method_39_code 51 = .ok (.iconst 1, 1) := by decide +kernel
theorem d_MO_area_52 : decode prog_7_method_39_code 52 = .ok (.goto 4, 3) := by decide +kernel
theorem d_MO_area_55 : decode prog_7_method_39_code 55 = .ok (.iconst 0, 1) := by decide +kernel
theorem d_MO_area_56 : decode prog_7_method_39_code 56 = .ok (.iadd, 1) := by decide +kernel
theorem d_MO_area_57 : decode prog_7_method_39_code 57 = .ok (.istore 4, 2) := by decide +kernel
theorem d_MO_area_59 : decode prog_7_method_39_code 59 = .ok (.iinc 5 1, 3) := by decide +kernel
theorem d_MO_area_62 : decode prog_7_method_39_code 62 = .ok (.goto (-43), 3) := by decide +kernel
theorem d_MO_area_65 : decode prog_7_method_39_code 65 = .ok (.iload 4, 2) := by decide +kernel
theorem d_MO_area_67 : decode prog_7_method_39_code 67 = .ok (.ireturn, 1) := by decide +kernel
set_option maxHeartbeats 4000000 in
set_option maxRecDepth 100000 in
theorem w_MO_area_L19 (y1 : Int32) (y2 : Int32)  (C : Cx prog_7_method_39_code 6 "LakeReliefModel" (Option.some Jvm.ClassFile.FieldType.int) p s m args meth c) (hG : Geo D adr cA s) (v : Int32) (hE : ∀ (H : Heap) (locs : List Loc) (ls : Array Slot), va_P D cls (wld adr cA μ ν) H → va_S (AA adr) s.heap H locs → lv_has ls 6 [(4, .int v)] → W p l e rm_MO_area s m args below meth c H locs 0 0 Q (F0 m 65 ls [])) : ∀ (n : Nat) (y4 : Int32) (y5 : Int32), f_MO_area_L19 ν y1 y2 n y4 y5 = some v → ∀ {H : Heap} {locs : List Loc} {ls : Array Slot}, va_P D cls (wld adr cA μ ν) H → va_S (AA adr) s.heap H locs → lv_has ls 6 [(0, .ref (adr 63)), (1, .int y1), (2, .int y2), (4, .int y4), (5, .int y5)] → W p l e rm_MO_area s m args below meth c H locs 0 0 Q (F0 m 19 ls []) := by
  obtain ⟨hx, hb, hml, hown, hts, hr, hlocks⟩ := id C
  intro n
  induction n with
  | zero => intro y4 y5 hf; rw [f_MO_area_L19.eq_1] at hf; cases hf
  | succ n ih =>
    intro y4 y5 hf H locs ls hP hS hl
    rw [f_MO_area_L19.eq_2] at hf
    refine lv_iload hx hb d_MO_area_19 (lv_at hl 4 rfl) ?_
    refine lv_aload_n hx hb d_MO_area_21 rfl (lv_at hl 0 rfl) ?_
    refine g_MO_fields hx hb hts hown hG hP (hts _ in_566) d_MO_area_22 ?_
    refine lv_icmp_ge (tgt := 65) hx hb d_MO_area_25 (by decide) (fun hc => ?_) (fun hc => ?_)
    · replace hf := if_p hc hf
      obtain rfl := Option.some.inj hf
      exact hE _ _ _ hP hS (lv_sub hl [3] rfl)
    · replace hf := if_n hc hf
      refine lv_iload hx hb d_MO_area_28 (lv_at hl 3 rfl) ?_
      refine lv_aload_n hx hb d_MO_area_30 rfl (lv_at hl 0 rfl) ?_
      refine lv_iload_n hx hb d_MO_area_31 rfl (lv_at hl 1 rfl) ?_
      refine lv_iload hx hb d_MO_area_32 (lv_at hl 4 rfl) ?_
      replace hf := B_some hf
      obtain ⟨v2, hv2, hf⟩ := hf
      refine ki (kv (As := [.int y1, .int y5]) (rest := [.int y4]) ⟨hx, hb, hml, hown, hts⟩ (cw_MO_180 hts ⟨Nat.le_of_ble_eq_true rfl, Nat.le_of_ble_eq_true rfl⟩) (c_MO_isOf l D adr cA μ ν y1 y5 hv2) hG hP (rc_o (q := 63) (ci := 5) hG hP (by decide) (wc_M (by decide) rfl) rfl) rfl hl.1 (Nat.le_of_ble_eq_true rfl) d_MO_area_34) hS (fun H locs hP hS => ?_)
      replace hf := B_some hf
      obtain ⟨v3, hv3, hf⟩ := hf
      have hJ : ∀ (H : Heap) (locs : List Loc) (ls : Array Slot), va_P D cls (wld adr cA μ ν) H → va_S (AA adr) s.heap H locs → lv_has ls 6 [(0, .ref (adr 63)), (1, .int y1), (2, .int y2), (5, .int y5)] → W p l e rm_MO_area s m args below meth c H locs 0 0 Q (F0 m 56 ls [.int v3, .int y4]) := by
        clear hv3
        intro H locs ls hP hS hl
        refine lv_iadd hx hb d_MO_area_56 ?_
        refine lv_istore (lv' := [(4, .int (y4 + v3)), (0, .ref (adr 63)), (1, .int y1), (2, .int y2), (5, .int y5)]) hx hb d_MO_area_57 hl (by decide) rfl (fun ls hl => ?_)
        refine lv_iinc (v := (y5 + 1)) (lv' := [(5, .int (y5 + 1)), (4, .int (y4 + v3)), (0, .ref (adr 63)), (1, .int y1), (2, .int y2)]) hx hb d_MO_area_59 hl (k := 4) rfl rfl (by decide) rfl (fun ls hl => ?_)
        refine lv_goto (tgt := 19) hx hb d_MO_area_62 (by decide) ?_
        exact ih _ _ hf hP hS (lv_sub hl [2, 3, 4, 1, 0] rfl)
      clear hf
      have hf := hv3
      clear hv3
      refine lv_if_eq (tgt := 55) hx hb d_MO_area_37 (by decide) (fun hc => ?_) (fun hc => ?_)
      · replace hf := if_p hc hf
        refine lv_iconst (v := 0) hx hb d_MO_area_55 (by decide) ?_
        obtain rfl := Option.some.inj hf
        exact hJ _ _ _ hP hS (lv_sub hl [0, 1, 2, 4] rfl)
      · replace hf := if_n hc hf
        refine lv_aload_n hx hb d_MO_area_40 rfl (lv_at hl 0 rfl) ?_
        refine g_MO_height hx hb hts hown hG hP (hts _ in_568) d_MO_area_41 ?_
        refine lv_iload hx hb d_MO_area_44 (lv_at hl 4 rfl) ?_
        replace hf := G_some hf
        obtain ⟨hi4, hf⟩ := hf
        refine r_iald hx hb hG hP 68 64 (f := ν.1 68) (by decide) (wc_M (by decide) rfl) hi4 d_MO_area_46 ?_
        refine lv_iload_n hx hb d_MO_area_47 rfl (lv_at hl 2 rfl) ?_
        refine lv_icmp_ge (tgt := 55) hx hb d_MO_area_48 (by decide) (fun hc => ?_) (fun hc => ?_)
        · replace hf := if_p hc hf
          refine lv_iconst (v := 0) hx hb d_MO_area_55 (by decide) ?_
          obtain rfl := Option.some.inj hf
          exact hJ _ _ _ hP hS (lv_sub hl [0, 1, 2, 4] rfl)
        · replace hf := if_n hc hf
          refine lv_iconst (v := 1) hx hb d_MO_area_51 (by decide) ?_
          refine lv_goto (tgt := 56) hx hb d_MO_area_52 (by decide) ?_
          obtain rfl := Option.some.inj hf
          exact hJ _ _ _ hP hS (lv_sub hl [0, 1, 2, 4] rfl)
set_option maxHeartbeats 4000000 in
set_option maxRecDepth 100000 in
theorem w_MO_area (x1 : Int32) (x2 : Int32)  (C : Cx prog_7_method_39_code 6 "LakeReliefModel" (Option.some Jvm.ClassFile.FieldType.int) p s m args meth c) (hG : Geo D adr cA s) {res : Int32} (hf : f_MO_area ν x1 x2 = some res) (hq : ∀ (pc : Nat) (ls : Array Slot) (H : Heap) (locs : List Loc), decode prog_7_method_39_code pc = .ok (.ireturn, 1) → va_P D cls (wld adr cA μ ν) H → va_S (AA adr) s.heap H locs → W p l e rm_MO_area s m args below meth c H locs 0 0 Q (F0 m pc ls [.int res])) {H : Heap} {locs : List Loc} {ls : Array Slot} (hP : va_P D cls (wld adr cA μ ν) H) (hS : va_S (AA adr) s.heap H locs) (hl : lv_has ls 6 [(0, .ref (adr 63)), (1, .int x1), (2, .int x2)]) : W p l e rm_MO_area s m args below meth c H locs 0 0 Q (F0 m 0 ls []) := by
  obtain ⟨hx, hb, hml, hown, hts, hr, hlocks⟩ := id C
  unfold f_MO_area at hf
  refine lv_aload_n hx hb d_MO_area_0 rfl (lv_at hl 0 rfl) ?_
  refine lv_iload_n hx hb d_MO_area_1 rfl (lv_at hl 1 rfl) ?_
  refine lv_iload_n hx hb d_MO_area_2 rfl (lv_at hl 2 rfl) ?_
  replace hf := B_some hf
  obtain ⟨v1, hv1, hf⟩ := hf
  refine ki (kv (As := [.int x1, .int x2]) (rest := []) ⟨hx, hb, hml, hown, hts⟩ (cw_MO_211 hts ⟨Nat.le_of_ble_eq_true rfl, Nat.le_of_ble_eq_true rfl⟩) (c_MO_against0 l D adr cA μ ν x1 x2 hv1) hG hP (rc_o (q := 63) (ci := 5) hG hP (by decide) (wc_M (by decide) rfl) rfl) rfl hl.1 (Nat.le_of_ble_eq_true rfl) d_MO_area_3) hS (fun H locs hP hS => ?_)
  refine lv_istore_n (lv' := [(3, .int v1), (0, .ref (adr 63)), (1, .int x1), (2, .int x2)]) hx hb d_MO_area_6 rfl hl (by decide) rfl (fun ls hl => ?_)
  refine lv_iload_n hx hb d_MO_area_7 rfl (lv_at hl 0 rfl) ?_
  refine lv_if_eq (tgt := 13) hx hb d_MO_area_8 (by decide) (fun hc => ?_) (fun hc => ?_)
  · replace hf := if_p hc hf
    refine lv_iconst (v := 0) hx hb d_MO_area_13 (by decide) ?_
    refine lv_istore (lv' := [(4, .int 0), (3, .int v1), (0, .ref (adr 63)), (1, .int x1), (2, .int x2)]) hx hb d_MO_area_14 hl (by decide) rfl (fun ls hl => ?_)
    refine lv_iconst (v := 0) hx hb d_MO_area_16 (by decide) ?_
    refine lv_istore (lv' := [(5, .int 0), (4, .int 0), (3, .int v1), (0, .ref (adr 63)), (1, .int x1), (2, .int x2)]) hx hb d_MO_area_17 hl (by decide) rfl (fun ls hl => ?_)
    replace hf := B_some hf
    obtain ⟨v5, hv5, hf⟩ := hf
    refine w_MO_area_L19 x1 x2  C hG v5 ?_ FU _ _ hv5 hP hS (lv_sub hl [3, 4, 5, 1, 0] rfl)
    clear hv5 hP hS hl
    intro H locs ls hP hS hl
    refine lv_iload hx hb d_MO_area_65 (lv_at hl 0 rfl) ?_
    obtain rfl := Option.some.inj hf
    exact hq _ _ _ _ d_MO_area_67 hP hS
  · replace hf := if_n hc hf
    refine lv_iload_n hx hb d_MO_area_11 rfl (lv_at hl 0 rfl) ?_
    obtain rfl := Option.some.inj hf
    exact hq _ _ _ _ d_MO_area_12 hP hS
theorem c_MO_area (l : Launch) (D : va_G) (adr : Nat → Nat) (cA : Nat → ClassId) (μ ν : Mem) (x1 : Int32) (x2 : Int32)  {res : Int32} (hf : f_MO_area ν x1 x2 = some res) : Met l y_MO_area (Cond.code y_MO_area prog_7_method_39_code 6 (Option.some Jvm.ClassFile.FieldType.int) :: lw_ok) rm_MO_area (va_Pc [.ref (adr 63), .int x1, .int x2] (Wd D adr cA μ ν)) (QI D adr cA res μ ν) 0 0 (AA adr) :=
  met_of (own := "LakeReliefModel") rfl rfl (Nat.le_of_ble_eq_true rfl) (fun p e s m below meth c C hG hP hS ls hl => w_MO_area x1 x2  C hG hf (fun pc ls H locs hd hP hS => ret_i C.1 C.2.1 C.2.2.2.2.2.1 C.2.2.2.2.2.2 hG hd hP hS) hP hS hl)
end X_MO_area
section X_MO_over
variable {p : Program} {l : Launch} {e : Env} {s : State} {m : MethodId} {args : Array Value} {below : List Frame} {meth : Method} {c : Code} {Q : State → Prop}
variable {D : va_G} {adr : Nat → Nat} {cA : Nat → ClassId} {μ ν : Mem}
theorem d_MO_over_0 : decode prog_7_method_40_code 0 = .ok (.aload_n 0, 1) := by decide +kernel
theorem d_MO_over_1 : decode prog_7_method_40_code 1 = .ok (.getfield 48, 3) := by decide +kernel
theorem d_MO_over_4 : decode prog_7_method_40_code 4 = .ok (.aload_n 0, 1) := by decide +kernel
theorem d_MO_over_5 : decode prog_7_method_40_code 5 = .ok (.getfield 45, 3) := by decide +kernel
theorem d_MO_over_8 : decode prog_7_method_40_code 8 = .ok (.iload_n 1, 1) := by decide +kernel
theorem d_MO_over_9 : decode prog_7_method_40_code 9 = .ok (.iaload, 1) := by decide +kernel
theorem d_MO_over_10 : decode prog_7_method_40_code 10 = .ok (.iaload, 1) := by decide +kernel
theorem d_MO_over_11 : decode prog_7_method_40_code 11 = .ok (.iload_n 1, 1) := by decide +kernel
theorem d_MO_over_12 : decode prog_7_method_40_code 12 = .ok (.if_icmp .ne 17, 3) := by decide +kernel
theorem d_MO_over_15 : decode prog_7_method_40_code 15 = .ok (.aload_n 0, 1) := by decide +kernel
theorem d_MO_over_16 : decode prog_7_method_40_code 16 = .ok (.getfield 51, 3) := by decide +kernel
theorem d_MO_over_19 : decode prog_7_method_40_code 19 = .ok (.aload_n 0, 1) := by decide +kernel
theorem d_MO_over_20 : decode prog_7_method_40_code 20 = .ok (.getfield 45, 3) := by decide +kernel
theorem d_MO_over_23 : decode prog_7_method_40_code 23 = .ok (.iload_n 1, 1) := by decide +kernel
theorem d_MO_over_24 : decode prog_7_method_40_code 24 = .ok (.iaload, 1) := by decide +kernel
theorem d_MO_over_25 : decode prog_7_method_40_code 25 = .ok (.iaload, 1) := by decide +kernel
theorem d_MO_over_26 : decode prog_7_method_40_code 26 = .ok (.goto 14, 3) := by decide +kernel
theorem d_MO_over_29 : decode prog_7_method_40_code 29 = .ok (.aload_n 0, 1) := by decide +kernel
theorem d_MO_over_30 : decode prog_7_method_40_code 30 = .ok (.getfield 48, 3) := by decide +kernel
theorem d_MO_over_33 : decode prog_7_method_40_code 33 = .ok (.aload_n 0, 1) := by decide +kernel
theorem d_MO_over_34 : decode prog_7_method_40_code 34 = .ok (.getfield 45, 3) := by decide +kernel
theorem d_MO_over_37 : decode prog_7_method_40_code 37 = .ok (.iload_n 1, 1) := by decide +kernel
theorem d_MO_over_38 : decode prog_7_method_40_code 38 = .ok (.iaload, 1) := by decide +kernel
theorem d_MO_over_39 : decode prog_7_method_40_code 39 = .ok (.iaload, 1) := by decide +kernel
theorem d_MO_over_40 : decode prog_7_method_40_code 40 = .ok (.istore_n 2, 1) := by decide +kernel
theorem d_MO_over_41 : decode prog_7_method_40_code 41 = .ok (.bipush (-3), 2) := by decide +kernel
theorem d_MO_over_43 : decode prog_7_method_40_code 43 = .ok (.istore_n 3, 1) := by decide +kernel
theorem d_MO_over_44 : decode prog_7_method_40_code 44 = .ok (.iconst 0, 1) := by decide +kernel
theorem d_MO_over_45 : decode prog_7_method_40_code 45 = .ok (.istore 4, 2) := by decide +kernel
theorem d_MO_over_47 : decode prog_7_method_40_code 47 = .ok (.iload 4, 2) := by decide +kernel
theorem d_MO_over_49 : decode prog_7_method_40_code 49 = .ok (.iconst 4, 1) := by decide +kernel
theorem d_MO_over_50 : decode prog_7_method_40_code 50 = .ok (.if_icmp .ge 69, 3) := by decide +kernel
theorem d_MO_over_53 : decode prog_7_method_40_code 53 = .ok (.aload_n 0, 1) := by decide +kernel
theorem d_MO_over_54 : decode prog_7_method_40_code 54 = .ok (.aload_n 0, 1) := by decide +kernel
theorem d_MO_over_55 : decode prog_7_method_40_code 55 = .ok (.getfield 42, 3) := by decide +kernel
theorem d_MO_over_58 : decode prog_7_method_40_code 58 = .ok (.iload_n 1, 1) := by decide +kernel
theorem d_MO_over_59 : decode prog_7_method_40_code 59 = .ok (.iaload, 1) := by decide +kernel
theorem d_MO_over_60 : decode prog_7_method_40_code 60 = .ok (.iload 4, 2) := by decide +kernel
theorem d_MO_over_62 : decode prog_7_method_40_code 62 = .ok (.invokevirtual 105, 3) := by decide +kernel
theorem d_MO_over_65 : decode prog_7_method_40_code 65 = .ok (.istore 5, 2) := by decide +kernel
theorem d_MO_over_67 : decode prog_7_method_40_code 67 = .ok (.iload 5, 2) := by decide +kernel
theorem d_MO_over_69 : decode prog_7_method_40_code 69 = .ok (.bipush 64, 2) := by decide +kernel
theorem d_MO_over_71 : decode prog_7_method_40_code 71 = .ok (.if_icmp .eq 42, 3) := by decide +kernel
theorem d_MO_over_74 : decode prog_7_method_40_code 74 = .ok (.aload_n 0, 1) := by decide +kernel
theorem d_MO_over_75 : decode prog_7_method_40_code 75 = .ok (.getfield 19, 3) := by decide +kernel
theorem d_MO_over_78 : decode prog_7_method_40_code 78 = .ok (.iload 5, 2) := by decide +kernel
theorem d_MO_over_80 : decode prog_7_method_40_code 80 = .ok (.baload, 1) := by decide +kernel
theorem d_MO_over_81 : decode prog_7_method_40_code 81 = .ok (.ifCond .ne 32, 3) := by decide +kernel
theorem d_MO_over_84 : decode prog_7_method_40_code 84 = .ok (.aload_n 0, 1) := by decide +kernel
theorem d_MO_over_85 : decode prog_7_method_40_code 85 = .ok (.iload_n 2, 1) := by decide +kernel
theorem d_MO_over_86 : decode prog_7_method_40_code 86 = .ok (.iload 5, 2) := by decide +kernel
theorem d_MO_over_88 : decode prog_7_method_40_code 88 = .ok (.invokevirtual 180, 3) := by decide +kernel
theorem d_MO_over_91 : decode prog_7_method_40_code 91 = .ok (.ifCond .eq 22, 3) := by decide +kernel
theorem d_MO_over_94 : decode prog_7_method_40_code 94 = .ok (.iload_n 3, 1) := by decide +kernel
theorem d_MO_over_95 : decode prog_7_method_40_code 95 = .ok (.bipush (-3), 2) := by decide +kernel
theorem d_MO_over_97 : decode prog_7_method_40_code 97 = .ok (.if_icmp .eq 13, 3) := by decide +kernel
theorem d_MO_over_100 : decode prog_7_method_40_code 100 = .ok (.aload_n 0, 1) := by decide +kernel
theorem d_MO_over_101 : decode prog_7_method_40_code 101 = .ok (.iload 5, 2) := by decide +kernel
theorem d_MO_over_103 : decode prog_7_method_40_code 103 = .ok (.iload_n 3, 1) := by decide +kernel
theorem d_MO_over_104 : decode prog_7_method_40_code 104 = .ok (.invokevirtual 111, 3) := by decide +kernel
theorem d_MO_over_107 : decode prog_7_method_40_code 107 = .ok (.ifCond .eq 6, 3) := by decide +kernel
theorem d_MO_over_110 : decode prog_7_method_40_code 110 = .ok (.iload 5, 2) := by decide +kernel
theorem d_MO_over_112 : decode prog_7_method_40_code 112 = .ok (.istore_n 3, 1) := by decide +kernel
theorem d_MO_over_113 : decode prog_7_method_40_code 113 = .ok (.iinc 4 1, 3) := by decide +kernel
theorem d_MO_over_116 : decode prog_7_method_40_code 116 = .ok (.goto (-69), 3) := by decide +kernel
theorem d_MO_over_119 : decode prog_7_method_40_code 119 = .ok (.iload_n 3, 1) := by decide +kernel
theorem d_MO_over_120 : decode prog_7_method_40_code 120 = .ok (.ireturn, 1) := by decide +kernel
set_option maxHeartbeats 4000000 in
set_option maxRecDepth 100000 in
theorem w_MO_over_L47 (y1 : Int32) (y2 : Int32)  (C : Cx prog_7_method_40_code 6 "LakeReliefModel" (Option.some Jvm.ClassFile.FieldType.int) p s m args meth c) (hG : Geo D adr cA s) (v : Int32) (hE : ∀ (H : Heap) (locs : List Loc) (ls : Array Slot), va_P D cls (wld adr cA μ ν) H → va_S (AA adr) s.heap H locs → lv_has ls 6 [(3, .int v)] → W p l e rm_MO_over s m args below meth c H locs 0 0 Q (F0 m 119 ls [])) : ∀ (n : Nat) (y3 : Int32) (y4 : Int32), f_MO_over_L47 ν y1 y2 n y3 y4 = some v → ∀ {H : Heap} {locs : List Loc} {ls : Array Slot}, va_P D cls (wld adr cA μ ν) H → va_S (AA adr) s.heap H locs → lv_has ls 6 [(0, .ref (adr 63)), (1, .int y1), (2, .int y2), (3, .int y3), (4, .int y4)] → W p l e rm_MO_over s m args below meth c H locs 0 0 Q (F0 m 47 ls []) := by
  obtain ⟨hx, hb, hml, hown, hts, hr, hlocks⟩ := id C
  intro n
  induction n with
  | zero => intro y3 y4 hf; rw [f_MO_over_L47.eq_1] at hf; cases hf
  | succ n ih =>
    intro y3 y4 hf H locs ls hP hS hl
    rw [f_MO_over_L47.eq_2] at hf
    refine lv_iload hx hb d_MO_over_47 (lv_at hl 4 rfl) ?_
    refine lv_iconst (v := 4) hx hb d_MO_over_49 (by decide) ?_
    refine lv_icmp_ge (tgt := 119) hx hb d_MO_over_50 (by decide) (fun hc => ?_) (fun hc => ?_)
    · replace hf := if_p hc hf
      obtain rfl := Option.some.inj hf
      exact hE _ _ _ hP hS (lv_sub hl [3] rfl)
    · replace hf := if_n hc hf
      refine lv_aload_n hx hb d_MO_over_53 rfl (lv_at hl 0 rfl) ?_
      refine lv_aload_n hx hb d_MO_over_54 rfl (lv_at hl 0 rfl) ?_
      refine g_MO_rim hx hb hts hown hG hP (hts _ in_575) d_MO_over_55 ?_
      refine lv_iload_n hx hb d_MO_over_58 rfl (lv_at hl 1 rfl) ?_
      replace hf := G_some hf
      obtain ⟨hi8, hf⟩ := hf
      refine r_iald hx hb hG hP 74 64 (f := ν.1 74) (by decide) (wc_M (by decide) rfl) hi8 d_MO_over_59 ?_
      refine lv_iload hx hb d_MO_over_60 (lv_at hl 4 rfl) ?_
      replace hf := B_some hf
      obtain ⟨v9, hv9, hf⟩ := hf
      refine ki (kv (As := [.int (ν.1 74 y1.toNatClampNeg), .int y4]) (rest := []) ⟨hx, hb, hml, hown, hts⟩ (cw_MO_105 hts ⟨Nat.le_of_ble_eq_true rfl, Nat.le_of_ble_eq_true rfl⟩) (c_MO_beside l D adr cA μ ν (ν.1 74 y1.toNatClampNeg) y4 hv9) hG hP (rc_o (q := 63) (ci := 5) hG hP (by decide) (wc_M (by decide) rfl) rfl) rfl hl.1 (Nat.le_of_ble_eq_true rfl) d_MO_over_62) hS (fun H locs hP hS => ?_)
      refine lv_istore (lv' := [(5, .int v9), (0, .ref (adr 63)), (1, .int y1), (2, .int y2), (3, .int y3), (4, .int y4)]) hx hb d_MO_over_65 hl (by decide) rfl (fun ls hl => ?_)
      refine lv_iload hx hb d_MO_over_67 (lv_at hl 0 rfl) ?_
      refine lv_bipush (v := 64) hx hb d_MO_over_69 (by decide) ?_
      replace hf := B_some hf
      obtain ⟨v10, hv10, hf⟩ := hf
      have hJ : ∀ (H : Heap) (locs : List Loc) (ls : Array Slot), va_P D cls (wld adr cA μ ν) H → va_S (AA adr) s.heap H locs → lv_has ls 6 [(0, .ref (adr 63)), (1, .int y1), (2, .int y2), (3, .int v10), (4, .int y4)] → W p l e rm_MO_over s m args below meth c H locs 0 0 Q (F0 m 113 ls []) := by
        clear hv10
        intro H locs ls hP hS hl
        refine lv_iinc (v := (y4 + 1)) (lv' := [(4, .int (y4 + 1)), (0, .ref (adr 63)), (1, .int y1), (2, .int y2), (3, .int v10)]) hx hb d_MO_over_113 hl (k := 4) rfl rfl (by decide) rfl (fun ls hl => ?_)
        refine lv_goto (tgt := 47) hx hb d_MO_over_116 (by decide) ?_
        exact ih _ _ hf hP hS (lv_sub hl [1, 2, 3, 4, 0] rfl)
      clear hf
      have hf := hv10
      clear hv10
      refine lv_icmp_eq (tgt := 113) hx hb d_MO_over_71 (by decide) (fun hc => ?_) (fun hc => ?_)
      · replace hf := if_p hc hf
        obtain rfl := Option.some.inj hf
        exact hJ _ _ _ hP hS (lv_sub hl [1, 2, 3, 4, 5] rfl)
      · replace hf := if_n hc hf
        refine lv_aload_n hx hb d_MO_over_74 rfl (lv_at hl 1 rfl) ?_
        refine g_MO_isSea hx hb hts hown hG hP (hts _ in_567) d_MO_over_75 ?_
        refine lv_iload hx hb d_MO_over_78 (lv_at hl 0 rfl) ?_
        replace hf := G_some hf
        obtain ⟨hi11, hf⟩ := hf
        refine r_zald hx hb hG hP 67 64 (f := ν.1 67) (by decide) (wc_M (by decide) rfl) hi11 d_MO_over_80 ?_
        refine lv_if_ne (tgt := 113) hx hb d_MO_over_81 (by decide) (fun hc => ?_) (fun hc => ?_)
        · replace hf := if_n hc hf
          obtain rfl := Option.some.inj hf
          exact hJ _ _ _ hP hS (lv_sub hl [1, 2, 3, 4, 5] rfl)
        · replace hf := if_p hc hf
          refine lv_aload_n hx hb d_MO_over_84 rfl (lv_at hl 1 rfl) ?_
          refine lv_iload_n hx hb d_MO_over_85 rfl (lv_at hl 3 rfl) ?_
          refine lv_iload hx hb d_MO_over_86 (lv_at hl 0 rfl) ?_
          replace hf := B_some hf
          obtain ⟨v12, hv12, hf⟩ := hf
          refine ki (kv (As := [.int y2, .int v9]) (rest := []) ⟨hx, hb, hml, hown, hts⟩ (cw_MO_180 hts ⟨Nat.le_of_ble_eq_true rfl, Nat.le_of_ble_eq_true rfl⟩) (c_MO_isOf l D adr cA μ ν y2 v9 hv12) hG hP (rc_o (q := 63) (ci := 5) hG hP (by decide) (wc_M (by decide) rfl) rfl) rfl hl.1 (Nat.le_of_ble_eq_true rfl) d_MO_over_88) hS (fun H locs hP hS => ?_)
          refine lv_if_eq (tgt := 113) hx hb d_MO_over_91 (by decide) (fun hc => ?_) (fun hc => ?_)
          · replace hf := if_p hc hf
            obtain rfl := Option.some.inj hf
            exact hJ _ _ _ hP hS (lv_sub hl [1, 2, 3, 4, 5] rfl)
          · replace hf := if_n hc hf
            refine lv_iload_n hx hb d_MO_over_94 rfl (lv_at hl 4 rfl) ?_
            refine lv_bipush (v := (-3)) hx hb d_MO_over_95 (by decide) ?_
            refine lv_icmp_eq (tgt := 110) hx hb d_MO_over_97 (by decide) (fun hc => ?_) (fun hc => ?_)
            · replace hf := if_p hc hf
              refine lv_iload hx hb d_MO_over_110 (lv_at hl 0 rfl) ?_
              refine lv_istore_n (lv' := [(3, .int v9), (5, .int v9), (0, .ref (adr 63)), (1, .int y1), (2, .int y2), (4, .int y4)]) hx hb d_MO_over_112 rfl hl (by decide) rfl (fun ls hl => ?_)
              obtain rfl := Option.some.inj hf
              exact hJ _ _ _ hP hS (lv_sub hl [2, 3, 4, 0, 5] rfl)
            · replace hf := if_n hc hf
              refine lv_aload_n hx hb d_MO_over_100 rfl (lv_at hl 1 rfl) ?_
              refine lv_iload hx hb d_MO_over_101 (lv_at hl 0 rfl) ?_
              refine lv_iload_n hx hb d_MO_over_103 rfl (lv_at hl 4 rfl) ?_
              replace hf := B_some hf
              obtain ⟨v13, hv13, hf⟩ := hf
              refine ki (kv (As := [.int v9, .int y3]) (rest := []) ⟨hx, hb, hml, hown, hts⟩ (cw_MO_111 hts ⟨Nat.le_of_ble_eq_true rfl, Nat.le_of_ble_eq_true rfl⟩) (c_MO_isLower l D adr cA μ ν v9 y3 hv13) hG hP (rc_o (q := 63) (ci := 5) hG hP (by decide) (wc_M (by decide) rfl) rfl) rfl hl.1 (Nat.le_of_ble_eq_true rfl) d_MO_over_104) hS (fun H locs hP hS => ?_)
              refine lv_if_eq (tgt := 113) hx hb d_MO_over_107 (by decide) (fun hc => ?_) (fun hc => ?_)
              · replace hf := if_p hc hf
                obtain rfl := Option.some.inj hf
                exact hJ _ _ _ hP hS (lv_sub hl [1, 2, 3, 4, 5] rfl)
              · replace hf := if_n hc hf
                refine lv_iload hx hb d_MO_over_110 (lv_at hl 0 rfl) ?_
                refine lv_istore_n (lv' := [(3, .int v9), (5, .int v9), (0, .ref (adr 63)), (1, .int y1), (2, .int y2), (4, .int y4)]) hx hb d_MO_over_112 rfl hl (by decide) rfl (fun ls hl => ?_)
                obtain rfl := Option.some.inj hf
                exact hJ _ _ _ hP hS (lv_sub hl [2, 3, 4, 0, 5] rfl)
set_option maxHeartbeats 4000000 in
set_option maxRecDepth 100000 in
theorem w_MO_over (x1 : Int32)  (C : Cx prog_7_method_40_code 6 "LakeReliefModel" (Option.some Jvm.ClassFile.FieldType.int) p s m args meth c) (hG : Geo D adr cA s) {res : Int32} (hf : f_MO_over ν x1 = some res) (hq : ∀ (pc : Nat) (ls : Array Slot) (H : Heap) (locs : List Loc), decode prog_7_method_40_code pc = .ok (.ireturn, 1) → va_P D cls (wld adr cA μ ν) H → va_S (AA adr) s.heap H locs → W p l e rm_MO_over s m args below meth c H locs 0 0 Q (F0 m pc ls [.int res])) {H : Heap} {locs : List Loc} {ls : Array Slot} (hP : va_P D cls (wld adr cA μ ν) H) (hS : va_S (AA adr) s.heap H locs) (hl : lv_has ls 6 [(0, .ref (adr 63)), (1, .int x1)]) : W p l e rm_MO_over s m args below meth c H locs 0 0 Q (F0 m 0 ls []) := by
  obtain ⟨hx, hb, hml, hown, hts, hr, hlocks⟩ := id C
  unfold f_MO_over at hf
  refine lv_aload_n hx hb d_MO_over_0 rfl (lv_at hl 0 rfl) ?_
  refine g_MO_first hx hb hts hown hG hP (hts _ in_577) d_MO_over_1 ?_
  refine lv_aload_n hx hb d_MO_over_4 rfl (lv_at hl 0 rfl) ?_
  refine g_MO_above hx hb hts hown hG hP (hts _ in_576) d_MO_over_5 ?_
  refine lv_iload_n hx hb d_MO_over_8 rfl (lv_at hl 1 rfl) ?_
  replace hf := G_some hf
  obtain ⟨hi1, hf⟩ := hf
  refine r_iald hx hb hG hP 75 64 (f := ν.1 75) (by decide) (wc_M (by decide) rfl) hi1 d_MO_over_9 ?_
  replace hf := G_some hf
  obtain ⟨hi2, hf⟩ := hf
  refine r_iald hx hb hG hP 76 64 (f := ν.1 76) (by decide) (wc_M (by decide) rfl) hi2 d_MO_over_10 ?_
  refine lv_iload_n hx hb d_MO_over_11 rfl (lv_at hl 1 rfl) ?_
  replace hf := B_some hf
  obtain ⟨v3, hv3, hf⟩ := hf
  have hJ : ∀ (H : Heap) (locs : List Loc) (ls : Array Slot), va_P D cls (wld adr cA μ ν) H → va_S (AA adr) s.heap H locs → lv_has ls 6 [(0, .ref (adr 63)), (1, .int x1)] → W p l e rm_MO_over s m args below meth c H locs 0 0 Q (F0 m 40 ls [.int v3]) := by
    clear hv3
    intro H locs ls hP hS hl
    refine lv_istore_n (lv' := [(2, .int v3), (0, .ref (adr 63)), (1, .int x1)]) hx hb d_MO_over_40 rfl hl (by decide) rfl (fun ls hl => ?_)
    refine lv_bipush (v := (-3)) hx hb d_MO_over_41 (by decide) ?_
    refine lv_istore_n (lv' := [(3, .int (-3)), (2, .int v3), (0, .ref (adr 63)), (1, .int x1)]) hx hb d_MO_over_43 rfl hl (by decide) rfl (fun ls hl => ?_)
    refine lv_iconst (v := 0) hx hb d_MO_over_44 (by decide) ?_
    refine lv_istore (lv' := [(4, .int 0), (3, .int (-3)), (2, .int v3), (0, .ref (adr 63)), (1, .int x1)]) hx hb d_MO_over_45 hl (by decide) rfl (fun ls hl => ?_)
    replace hf := B_some hf
    obtain ⟨v14, hv14, hf⟩ := hf
    refine w_MO_over_L47 x1 v3  C hG v14 ?_ FU _ _ hv14 hP hS (lv_sub hl [3, 4, 2, 1, 0] rfl)
    clear hv14 hP hS hl
    intro H locs ls hP hS hl
    refine lv_iload_n hx hb d_MO_over_119 rfl (lv_at hl 0 rfl) ?_
    obtain rfl := Option.some.inj hf
    exact hq _ _ _ _ d_MO_over_120 hP hS
  clear hf
  have hf := hv3
  clear hv3
  refine lv_icmp_ne (tgt := 29) hx hb d_MO_over_12 (by decide) (fun hc => ?_) (fun hc => ?_)
  · replace hf := if_n hc hf
    refine lv_aload_n hx hb d_MO_over_29 rfl (lv_at hl 0 rfl) ?_
    refine g_MO_first hx hb hts hown hG hP (hts _ in_577) d_MO_over_30 ?_
    refine lv_aload_n hx hb d_MO_over_33 rfl (lv_at hl 0 rfl) ?_
    refine g_MO_above hx hb hts hown hG hP (hts _ in_576) d_MO_over_34 ?_
    refine lv_iload_n hx hb d_MO_over_37 rfl (lv_at hl 1 rfl) ?_
    replace hf := G_some hf
    obtain ⟨hi4, hf⟩ := hf
    refine r_iald hx hb hG hP 75 64 (f := ν.1 75) (by decide) (wc_M (by decide) rfl) hi4 d_MO_over_38 ?_
    replace hf := G_some hf
    obtain ⟨hi5, hf⟩ := hf
    refine r_iald hx hb hG hP 76 64 (f := ν.1 76) (by decide) (wc_M (by decide) rfl) hi5 d_MO_over_39 ?_
    obtain rfl := Option.some.inj hf
    exact hJ _ _ _ hP hS (lv_sub hl [0, 1] rfl)
  · replace hf := if_p hc hf
    refine lv_aload_n hx hb d_MO_over_15 rfl (lv_at hl 0 rfl) ?_
    refine g_MO_second hx hb hts hown hG hP (hts _ in_578) d_MO_over_16 ?_
    refine lv_aload_n hx hb d_MO_over_19 rfl (lv_at hl 0 rfl) ?_
    refine g_MO_above hx hb hts hown hG hP (hts _ in_576) d_MO_over_20 ?_
    refine lv_iload_n hx hb d_MO_over_23 rfl (lv_at hl 1 rfl) ?_
    replace hf := G_some hf
    obtain ⟨hi6, hf⟩ := hf
    refine r_iald hx hb hG hP 75 64 (f := ν.1 75) (by decide) (wc_M (by decide) rfl) hi6 d_MO_over_24 ?_
    replace hf := G_some hf
    obtain ⟨hi7, hf⟩ := hf
    refine r_iald hx hb hG hP 77 64 (f := ν.1 77) (by decide) (wc_M (by decide) rfl) hi7 d_MO_over_25 ?_
    refine lv_goto (tgt := 40) hx hb d_MO_over_26 (by decide) ?_
    obtain rfl := Option.some.inj hf
    exact hJ _ _ _ hP hS (lv_sub hl [0, 1] rfl)
theorem c_MO_over (l : Launch) (D : va_G) (adr : Nat → Nat) (cA : Nat → ClassId) (μ ν : Mem) (x1 : Int32)  {res : Int32} (hf : f_MO_over ν x1 = some res) : Met l y_MO_over (Cond.code y_MO_over prog_7_method_40_code 6 (Option.some Jvm.ClassFile.FieldType.int) :: lw_ok) rm_MO_over (va_Pc [.ref (adr 63), .int x1] (Wd D adr cA μ ν)) (QI D adr cA res μ ν) 0 0 (AA adr) :=
  met_of (own := "LakeReliefModel") rfl rfl (Nat.le_of_ble_eq_true rfl) (fun p e s m below meth c C hG hP hS ls hl => w_MO_over x1  C hG hf (fun pc ls H locs hd hP hS => ret_i C.1 C.2.1 C.2.2.2.2.2.1 C.2.2.2.2.2.2 hG hd hP hS) hP hS hl)
end X_MO_over
section X_MO_pour
variable {p : Program} {l : Launch} {e : Env} {s : State} {m : MethodId} {args : Array Value} {below : List Frame} {meth : Method} {c : Code} {Q : State → Prop}
variable {D : va_G} {adr : Nat → Nat} {cA : Nat → ClassId} {μ ν : Mem}
theorem d_MO_pour_0 : decode prog_7_method_41_code 0 = .ok (.aload_n 0, 1) := by decide +kernel
theorem d_MO_pour_1 : decode prog_7_method_41_code 1 = .ok (.getfield 156, 3) := by decide +kernel
theorem d_MO_pour_4 : decode prog_7_method_41_code 4 = .ok (.ifCond .ne 6, 3) := by decide +kernel
theorem d_MO_pour_7 : decode prog_7_method_41_code 7 = .ok (.bipush (-2), 2) := by decide +kernel
theorem d_MO_pour_9 : decode prog_7_method_41_code 9 = .ok (.ireturn, 1) := by decide +kernel
theorem d_MO_pour_10 : decode prog_7_method_41_code 10 = .ok (.aload_n 0, 1) := by decide +kernel
theorem d_MO_pour_11 : decode prog_7_method_41_code 11 = .ok (.iload_n 1, 1) := by decide +kernel
theorem d_MO_pour_12 : decode prog_7_method_41_code 12 = .ok (.invokevirtual 184, 3) := by decide +kernel
theorem d_MO_pour_15 : decode prog_7_method_41_code 15 = .ok (.ifCond .eq 15, 3) := by decide +kernel
theorem d_MO_pour_18 : decode prog_7_method_41_code 18 = .ok (.iload_n 2, 1) := by decide +kernel
theorem d_MO_pour_19 : decode prog_7_method_41_code 19 = .ok (.i2l, 1) := by decide +kernel
theorem d_MO_pour_20 : decode prog_7_method_41_code 20 = .ok (.lconst 0, 1) := by decide +kernel
theorem d_MO_pour_21 : decode prog_7_method_41_code 21 = .ok (.ldc2_w 154, 3) := by decide +kernel
theorem d_MO_pour_24 : decode prog_7_method_41_code 24 = .ok (.invokestatic 80, 3) := by decide +kernel
theorem d_MO_pour_27 : decode prog_7_method_41_code 27 = .ok (.ifCond .ne 5, 3) := by decide +kernel
theorem d_MO_pour_30 : decode prog_7_method_41_code 30 = .ok (.iconst (-1), 1) := by decide +kernel
theorem d_MO_pour_31 : decode prog_7_method_41_code 31 = .ok (.ireturn, 1) := by decide +kernel
theorem d_MO_pour_32 : decode prog_7_method_41_code 32 = .ok (.aload_n 0, 1) := by decide +kernel
theorem d_MO_pour_33 : decode prog_7_method_41_code 33 = .ok (.dup, 1) := by decide +kernel
theorem d_MO_pour_34 : decode prog_7_method_41_code 34 = .ok (.getfield 177, 3) := by decide +kernel
theorem d_MO_pour_37 : decode prog_7_method_41_code 37 = .ok (.iload_n 2, 1) := by decide +kernel
theorem d_MO_pour_38 : decode prog_7_method_41_code 38 = .ok (.i2l, 1) := by decide +kernel
theorem d_MO_pour_39 : decode prog_7_method_41_code 39 = .ok (.ladd, 1) := by decide +kernel
theorem d_MO_pour_40 : decode prog_7_method_41_code 40 = .ok (.putfield 177, 3) := by decide +kernel
theorem d_MO_pour_43 : decode prog_7_method_41_code 43 = .ok (.iload_n 2, 1) := by decide +kernel
theorem d_MO_pour_44 : decode prog_7_method_41_code 44 = .ok (.istore_n 3, 1) := by decide +kernel
theorem d_MO_pour_45 : decode prog_7_method_41_code 45 = .ok (.aload_n 0, 1) := by decide +kernel
theorem d_MO_pour_46 : decode prog_7_method_41_code 46 = .ok (.getfield 29, 3) := by decide +kernel
theorem d_MO_pour_49 : decode prog_7_method_41_code 49 = .ok (.iload_n 1, 1) := by decide +kernel
theorem d_MO_pour_50 : decode prog_7_method_41_code 50 = .ok (.iaload, 1) := by decide +kernel
theorem d_MO_pour_51 : decode prog_7_method_41_code 51 = .ok (.istore 4, 2) := by decide +kernel
theorem d_MO_pour_53 : decode prog_7_method_41_code 53 = .ok (.iconst 0, 1) := by decide +kernel
theorem d_MO_pour_54 : decode prog_7_method_41_code 54 = .ok (.istore 5, 2) := by decide +kernel
theorem d_MO_pour_56 : decode prog_7_method_41_code 56 = .ok (.iload 4, 2) := by decide +kernel
theorem d_MO_pour_58 : decode prog_7_method_41_code 58 = .ok (.bipush (-5), 2) := by decide +kernel
theorem d_MO_pour_60 : decode prog_7_method_41_code 60 = .ok (.if_icmp .ne 8, 3) := by decide +kernel
theorem d_MO_pour_63 : decode prog_7_method_41_code 63 = .ok (.bipush (-3), 2) := by decide +kernel
theorem d_MO_pour_65 : decode prog_7_method_41_code 65 = .ok (.goto 9, 3) := by decide +kernel
theorem d_MO_pour_68 : decode prog_7_method_41_code 68 = .ok (.aload_n 0, 1) := by decide +kernel
theorem d_MO_pour_69 : decode prog_7_method_41_code 69 = .ok (.iload 4, 2) := by decide +kernel
theorem d_MO_pour_71 : decode prog_7_method_41_code 71 = .ok (.invokevirtual 190, 3) := by decide +kernel
theorem d_MO_pour_74 : decode prog_7_method_41_code 74 = .ok (.istore 6, 2) := by decide +kernel
theorem d_MO_pour_76 : decode prog_7_method_41_code 76 = .ok (.iload_n 3, 1) := by decide +kernel
theorem d_MO_pour_77 : decode prog_7_method_41_code 77 = .ok (.ifCond .le 262, 3) := by decide +kernel
theorem d_MO_pour_80 : decode prog_7_method_41_code 80 = .ok (.iload 4, 2) := by decide +kernel
theorem d_MO_pour_82 : decode prog_7_method_41_code 82 = .ok (.bipush (-5), 2) := by decide +kernel
theorem d_MO_pour_84 : decode prog_7_method_41_code 84 = .ok (.if_icmp .ne 11, 3) := by decide +kernel
theorem d_MO_pour_87 : decode prog_7_method_41_code 87 = .ok (.iload_n 3, 1) := by decide +kernel
theorem d_MO_pour_88 : decode prog_7_method_41_code 88 = .ok (.istore 5, 2) := by decide +kernel
theorem d_MO_pour_90 : decode prog_7_method_41_code 90 = .ok (.iconst 0, 1) := by decide +kernel
theorem d_MO_pour_91 : decode prog_7_method_41_code 91 = .ok (.istore_n 3, 1) := by decide +kernel
theorem d_MO_pour_92 : decode prog_7_method_41_code 92 = .ok (.goto (-16), 3) := by decide +kernel
theorem d_MO_pour_95 : decode prog_7_method_41_code 95 = .ok (.aload_n 0, 1) := by decide +kernel
theorem d_MO_pour_96 : decode prog_7_method_41_code 96 = .ok (.iload 6, 2) := by decide +kernel
theorem d_MO_pour_98 : decode prog_7_method_41_code 98 = .ok (.invokevirtual 207, 3) := by decide +kernel
theorem d_MO_pour_101 : decode prog_7_method_41_code 101 = .ok (.aload_n 0, 1) := by decide +kernel
theorem d_MO_pour_102 : decode prog_7_method_41_code 102 = .ok (.getfield 57, 3) := by decide +kernel
theorem d_MO_pour_105 : decode prog_7_method_41_code 105 = .ok (.iload 6, 2) := by decide +kernel
theorem d_MO_pour_107 : decode prog_7_method_41_code 107 = .ok (.iaload, 1) := by decide +kernel
theorem d_MO_pour_108 : decode prog_7_method_41_code 108 = .ok (.isub, 1) := by decide +kernel
theorem d_MO_pour_109 : decode prog_7_method_41_code 109 = .ok (.istore 7, 2) := by decide +kernel
theorem d_MO_pour_111 : decode prog_7_method_41_code 111 = .ok (.iload_n 3, 1) := by decide +kernel
theorem d_MO_pour_112 : decode prog_7_method_41_code 112 = .ok (.iload 7, 2) := by decide +kernel
theorem d_MO_pour_114 : decode prog_7_method_41_code 114 = .ok (.if_icmp .ge 7, 3) := by decide +kernel
theorem d_MO_pour_117 : decode prog_7_method_41_code 117 = .ok (.iload_n 3, 1) := by decide +kernel
theorem d_MO_pour_118 : decode prog_7_method_41_code 118 = .ok (.goto 5, 3) := by decide +kernel
theorem d_MO_pour_121 : decode prog_7_method_41_code 121 = .ok (.iload 7, 2) := by decide +kernel
theorem d_MO_pour_123 : decode prog_7_method_41_code 123 = .ok (.istore 8, 2) := by decide +kernel
theorem d_MO_pour_125 : decode prog_7_method_41_code 125 = .ok (.aload_n 0, 1) := by decide +kernel
theorem d_MO_pour_126 : decode prog_7_method_41_code 126 = .ok (.getfield 57, 3) := by decide +kernel
theorem d_MO_pour_129 : decode prog_7_method_41_code 129 = .ok (.iload 6, 2) := by decide +kernel
theorem d_MO_pour_131 : decode prog_7_method_41_code 131 = .ok (.dup2, 1) := by decide +kernel
theorem d_MO_pour_132 : decode prog_7_method_41_code 132 = .ok (.iaload, 1) := by decide +kernel
theorem d_MO_pour_133 : decode prog_7_method_41_code 133 = .ok (.iload 8, 2) := by decide +kernel
theorem d_MO_pour_135 : decode prog_7_method_41_code 135 = .ok (.iadd, 1) := by decide +kernel
theorem d_MO_pour_136 : decode prog_7_method_41_code 136 = .ok (.iastore, 1) := by decide +kernel
theorem d_MO_pour_137 : decode prog_7_method_41_code 137 = .ok (.iload_n 3, 1) := by decide +kernel
theorem d_MO_pour_138 : decode prog_7_method_41_code 138 = .ok (.iload 8, 2) := by decide +kernel
theorem d_MO_pour_140 : decode prog_7_method_41_code 140 = .ok (.isub, 1) := by decide +kernel
theorem d_MO_pour_141 : decode prog_7_method_41_code 141 = .ok (.istore_n 3, 1) := by decide +kernel
theorem d_MO_pour_142 : decode prog_7_method_41_code 142 = .ok (.iload_n 3, 1) := by decide +kernel
theorem d_MO_pour_143 : decode prog_7_method_41_code 143 = .ok (.ifCond .ne 6, 3) := by decide +kernel
theorem d_MO_pour_146 : decode prog_7_method_41_code 146 = .ok (.goto (-70), 3) := by decide +kernel
theorem d_MO_pour_149 : decode prog_7_method_41_code 149 = .ok (.aload_n 0, 1) := by decide +kernel
theorem d_MO_pour_150 : decode prog_7_method_41_code 150 = .ok (.getfield 45, 3) := by decide +kernel
theorem d_MO_pour_153 : decode prog_7_method_41_code 153 = .ok (.iload 6, 2) := by decide +kernel
theorem d_MO_pour_155 : decode prog_7_method_41_code 155 = .ok (.iaload, 1) := by decide +kernel
theorem d_MO_pour_156 : decode prog_7_method_41_code 156 = .ok (.bipush (-5), 2) := by decide +kernel
theorem d_MO_pour_158 : decode prog_7_method_41_code 158 = .ok (.if_icmp .ne 10, 3) := by decide +kernel
theorem d_MO_pour_161 : decode prog_7_method_41_code 161 = .ok (.bipush (-5), 2) := by decide +kernel
theorem d_MO_pour_163 : decode prog_7_method_41_code 163 = .ok (.istore 4, 2) := by decide +kernel
theorem d_MO_pour_165 : decode prog_7_method_41_code 165 = .ok (.goto (-89), 3) := by decide +kernel
theorem d_MO_pour_168 : decode prog_7_method_41_code 168 = .ok (.aload_n 0, 1) := by decide +kernel
theorem d_MO_pour_169 : decode prog_7_method_41_code 169 = .ok (.getfield 45, 3) := by decide +kernel
theorem d_MO_pour_172 : decode prog_7_method_41_code 172 = .ok (.iload 6, 2) := by decide +kernel
theorem d_MO_pour_174 : decode prog_7_method_41_code 174 = .ok (.iaload, 1) := by decide +kernel
theorem d_MO_pour_175 : decode prog_7_method_41_code 175 = .ok (.istore 9, 2) := by decide +kernel
theorem d_MO_pour_177 : decode prog_7_method_41_code 177 = .ok (.aload_n 0, 1) := by decide +kernel
theorem d_MO_pour_178 : decode prog_7_method_41_code 178 = .ok (.getfield 48, 3) := by decide +kernel
theorem d_MO_pour_181 : decode prog_7_method_41_code 181 = .ok (.iload 9, 2) := by decide +kernel
theorem d_MO_pour_183 : decode prog_7_method_41_code 183 = .ok (.iaload, 1) := by decide +kernel
theorem d_MO_pour_184 : decode prog_7_method_41_code 184 = .ok (.iload 6, 2) := by decide +kernel
theorem d_MO_pour_186 : decode prog_7_method_41_code 186 = .ok (.if_icmp .ne 13, 3) := by decide +kernel
theorem d_MO_pour_189 : decode prog_7_method_41_code 189 = .ok (.aload_n 0, 1) := by decide +kernel
theorem d_MO_pour_190 : decode prog_7_method_41_code 190 = .ok (.getfield 51, 3) := by decide +kernel
theorem d_MO_pour_193 : decode prog_7_method_41_code 193 = .ok (.iload 9, 2) := by decide +kernel
theorem d_MO_pour_195 : decode prog_7_method_41_code 195 = .ok (.iaload, 1) := by decide +kernel
theorem d_MO_pour_196 : decode prog_7_method_41_code 196 = .ok (.goto 10, 3) := by decide +kernel
theorem d_MO_pour_199 : decode prog_7_method_41_code 199 = .ok (.aload_n 0, 1) := by decide +kernel
theorem d_MO_pour_200 : decode prog_7_method_41_code 200 = .ok (.getfield 48, 3) := by decide +kernel
theorem d_MO_pour_203 : decode prog_7_method_41_code 203 = .ok (.iload 9, 2) := by decide +kernel
theorem d_MO_pour_205 : decode prog_7_method_41_code 205 = .ok (.iaload, 1) := by decide +kernel
theorem d_MO_pour_206 : decode prog_7_method_41_code 206 = .ok (.istore 10, 2) := by decide +kernel
theorem d_MO_pour_208 : decode prog_7_method_41_code 208 = .ok (.aload_n 0, 1) := by decide +kernel
theorem d_MO_pour_209 : decode prog_7_method_41_code 209 = .ok (.getfield 54, 3) := by decide +kernel
theorem d_MO_pour_212 : decode prog_7_method_41_code 212 = .ok (.iload 10, 2) := by decide +kernel
theorem d_MO_pour_214 : decode prog_7_method_41_code 214 = .ok (.baload, 1) := by decide +kernel
theorem d_MO_pour_215 : decode prog_7_method_41_code 215 = .ok (.ifCond .eq 88, 3) := by decide +kernel
theorem d_MO_pour_218 : decode prog_7_method_41_code 218 = .ok (.aload_n 0, 1) := by decide +kernel
theorem d_MO_pour_219 : decode prog_7_method_41_code 219 = .ok (.getfield 57, 3) := by decide +kernel
theorem d_MO_pour_222 : decode prog_7_method_41_code 222 = .ok (.iload 10, 2) := by decide +kernel
theorem d_MO_pour_224 : decode prog_7_method_41_code 224 = .ok (.iaload, 1) := by decide +kernel
theorem d_MO_pour_225 : decode prog_7_method_41_code 225 = .ok (.aload_n 0, 1) := by decide +kernel
theorem d_MO_pour_226 : decode prog_7_method_41_code 226 = .ok (.iload 10, 2) := by decide +kernel
theorem d_MO_pour_228 : decode prog_7_method_41_code 228 = .ok (.invokevirtual 207, 3) := by decide +kernel
theorem d_MO_pour_231 : decode prog_7_method_41_code 231 = .ok (.if_icmp .ne 72, 3) := by decide +kernel
theorem d_MO_pour_234 : decode prog_7_method_41_code 234 = .ok (.aload_n 0, 1) := by decide +kernel
theorem d_MO_pour_235 : decode prog_7_method_41_code 235 = .ok (.getfield 54, 3) := by decide +kernel
theorem d_MO_pour_238 : decode prog_7_method_41_code 238 = .ok (.iload 6, 2) := by decide +kernel
theorem d_MO_pour_240 : decode prog_7_method_41_code 240 = .ok (.iconst 0, 1) := by decide +kernel
theorem d_MO_pour_241 : decode prog_7_method_41_code 241 = .ok (.bastore, 1) := by decide +kernel
theorem d_MO_pour_242 : decode prog_7_method_41_code 242 = .ok (.aload_n 0, 1) := by decide +kernel
theorem d_MO_pour_243 : decode prog_7_method_41_code 243 = .ok (.getfield 54, 3) := by decide +kernel
theorem d_MO_pour_246 : decode prog_7_method_41_code 246 = .ok (.iload 10, 2) := by decide +kernel
theorem d_MO_pour_248 : decode prog_7_method_41_code 248 = .ok (.iconst 0, 1) := by decide +kernel
theorem d_MO_pour_249 : decode prog_7_method_41_code 249 = .ok (.bastore, 1) := by decide +kernel
theorem d_MO_pour_250 : decode prog_7_method_41_code 250 = .ok (.aload_n 0, 1) := by decide +kernel
theorem d_MO_pour_251 : decode prog_7_method_41_code 251 = .ok (.getfield 54, 3) := by decide +kernel
theorem d_MO_pour_254 : decode prog_7_method_41_code 254 = .ok (.iload 9, 2) := by decide +kernel
theorem d_MO_pour_256 : decode prog_7_method_41_code 256 = .ok (.iconst 1, 1) := by decide +kernel
theorem d_MO_pour_257 : decode prog_7_method_41_code 257 = .ok (.bastore, 1) := by decide +kernel
theorem d_MO_pour_258 : decode prog_7_method_41_code 258 = .ok (.aload_n 0, 1) := by decide +kernel
theorem d_MO_pour_259 : decode prog_7_method_41_code 259 = .ok (.getfield 57, 3) := by decide +kernel
theorem d_MO_pour_262 : decode prog_7_method_41_code 262 = .ok (.iload 9, 2) := by decide +kernel
theorem d_MO_pour_264 : decode prog_7_method_41_code 264 = .ok (.aload_n 0, 1) := by decide +kernel
theorem d_MO_pour_265 : decode prog_7_method_41_code 265 = .ok (.getfield 57, 3) := by decide +kernel
theorem d_MO_pour_268 : decode prog_7_method_41_code 268 = .ok (.iload 6, 2) := by decide +kernel
theorem d_MO_pour_270 : decode prog_7_method_41_code 270 = .ok (.iaload, 1) := by decide +kernel
theorem d_MO_pour_271 : decode prog_7_method_41_code 271 = .ok (.aload_n 0, 1) := by decide +kernel
theorem d_MO_pour_272 : decode prog_7_method_41_code 272 = .ok (.getfield 57, 3) := by decide +kernel
theorem d_MO_pour_275 : decode prog_7_method_41_code 275 = .ok (.iload 10, 2) := by decide +kernel
theorem d_MO_pour_277 : decode prog_7_method_41_code 277 = .ok (.iaload, 1) := by decide +kernel
theorem d_MO_pour_278 : decode prog_7_method_41_code 278 = .ok (.iadd, 1) := by decide +kernel
theorem d_MO_pour_279 : decode prog_7_method_41_code 279 = .ok (.iastore, 1) := by decide +kernel
theorem d_MO_pour_280 : decode prog_7_method_41_code 280 = .ok (.aload_n 0, 1) := by decide +kernel
theorem d_MO_pour_281 : decode prog_7_method_41_code 281 = .ok (.getfield 57, 3) := by decide +kernel
theorem d_MO_pour_284 : decode prog_7_method_41_code 284 = .ok (.iload 6, 2) := by decide +kernel
theorem d_MO_pour_286 : decode prog_7_method_41_code 286 = .ok (.iconst 0, 1) := by decide +kernel
theorem d_MO_pour_287 : decode prog_7_method_41_code 287 = .ok (.iastore, 1) := by decide +kernel
theorem d_MO_pour_288 : decode prog_7_method_41_code 288 = .ok (.aload_n 0, 1) := by decide +kernel
theorem d_MO_pour_289 : decode prog_7_method_41_code 289 = .ok (.getfield 57, 3) := by decide +kernel
theorem d_MO_pour_292 : decode prog_7_method_41_code 292 = .ok (.iload 10, 2) := by decide +kernel
theorem d_MO_pour_294 : decode prog_7_method_41_code 294 = .ok (.iconst 0, 1) := by decide +kernel
theorem d_MO_pour_295 : decode prog_7_method_41_code 295 = .ok (.iastore, 1) := by decide +kernel
theorem d_MO_pour_296 : decode prog_7_method_41_code 296 = .ok (.iload 9, 2) := by decide +kernel
theorem d_MO_pour_298 : decode prog_7_method_41_code 298 = .ok (.istore 6, 2) := by decide +kernel
theorem d_MO_pour_300 : decode prog_7_method_41_code 300 = .ok (.goto 36, 3) := by decide +kernel
theorem d_MO_pour_303 : decode prog_7_method_41_code 303 = .ok (.aload_n 0, 1) := by decide +kernel
theorem d_MO_pour_304 : decode prog_7_method_41_code 304 = .ok (.getfield 29, 3) := by decide +kernel
theorem d_MO_pour_307 : decode prog_7_method_41_code 307 = .ok (.aload_n 0, 1) := by decide +kernel
theorem d_MO_pour_308 : decode prog_7_method_41_code 308 = .ok (.iload 6, 2) := by decide +kernel
theorem d_MO_pour_310 : decode prog_7_method_41_code 310 = .ok (.invokevirtual 214, 3) := by decide +kernel
theorem d_MO_pour_313 : decode prog_7_method_41_code 313 = .ok (.iaload, 1) := by decide +kernel
theorem d_MO_pour_314 : decode prog_7_method_41_code 314 = .ok (.istore 4, 2) := by decide +kernel
theorem d_MO_pour_316 : decode prog_7_method_41_code 316 = .ok (.iload 4, 2) := by decide +kernel
theorem d_MO_pour_318 : decode prog_7_method_41_code 318 = .ok (.bipush (-5), 2) := by decide +kernel
theorem d_MO_pour_320 : decode prog_7_method_41_code 320 = .ok (.if_icmp .ne 8, 3) := by decide +kernel
theorem d_MO_pour_323 : decode prog_7_method_41_code 323 = .ok (.bipush (-3), 2) := by decide +kernel
theorem d_MO_pour_325 : decode prog_7_method_41_code 325 = .ok (.goto 9, 3) := by decide +kernel
theorem d_MO_pour_328 : decode prog_7_method_41_code 328 = .ok (.aload_n 0, 1) := by decide +kernel
theorem d_MO_pour_329 : decode prog_7_method_41_code 329 = .ok (.iload 4, 2) := by decide +kernel
theorem d_MO_pour_331 : decode prog_7_method_41_code 331 = .ok (.invokevirtual 190, 3) := by decide +kernel
theorem d_MO_pour_334 : decode prog_7_method_41_code 334 = .ok (.istore 6, 2) := by decide +kernel
theorem d_MO_pour_336 : decode prog_7_method_41_code 336 = .ok (.goto (-260), 3) := by decide +kernel
theorem d_MO_pour_339 : decode prog_7_method_41_code 339 = .ok (.aload_n 0, 1) := by decide +kernel
theorem d_MO_pour_340 : decode prog_7_method_41_code 340 = .ok (.dup, 1) := by decide +kernel
theorem d_MO_pour_341 : decode prog_7_method_41_code 341 = .ok (.getfield 173, 3) := by decide +kernel
theorem d_MO_pour_344 : decode prog_7_method_41_code 344 = .ok (.iload 5, 2) := by decide +kernel
theorem d_MO_pour_346 : decode prog_7_method_41_code 346 = .ok (.i2l, 1) := by decide +kernel
theorem d_MO_pour_347 : decode prog_7_method_41_code 347 = .ok (.ladd, 1) := by decide +kernel
theorem d_MO_pour_348 : decode prog_7_method_41_code 348 = .ok (.putfield 173, 3) := by decide +kernel
theorem d_MO_pour_351 : decode prog_7_method_41_code 351 = .ok (.iload 5, 2) := by decide +kernel
theorem d_MO_pour_353 : decode prog_7_method_41_code 353 = .ok (.ireturn, 1) := by decide +kernel
set_option maxHeartbeats 4000000 in
set_option maxRecDepth 100000 in
theorem w_MO_pour_L76   (C : Cx prog_7_method_41_code 11 "LakeReliefModel" (Option.some Jvm.ClassFile.FieldType.int) p s m args meth c) (hG : Geo D adr cA s) (v : Int32 × Mem) (hE : ∀ (H : Heap) (locs : List Loc) (ls : Array Slot), va_P D cls (wld adr cA μ v.2) H → va_S (AA adr) s.heap H locs → lv_has ls 11 [(0, .ref (adr 63)), (5, .int v.1)] → W p l e rm_MO_pour s m args below meth c H locs 0 0 Q (F0 m 339 ls [])) : ∀ (n : Nat) (ν : Mem) (y3 : Int32) (y4 : Int32) (y5 : Int32) (y6 : Int32), f_MO_pour_L76 n ν y3 y4 y5 y6 = some v → ∀ {H : Heap} {locs : List Loc} {ls : Array Slot}, va_P D cls (wld adr cA μ ν) H → va_S (AA adr) s.heap H locs → lv_has ls 11 [(0, .ref (adr 63)), (3, .int y3), (4, .int y4), (5, .int y5), (6, .int y6)] → W p l e rm_MO_pour s m args below meth c H locs 0 0 Q (F0 m 76 ls []) := by
  obtain ⟨hx, hb, hml, hown, hts, hr, hlocks⟩ := id C
  intro n
  induction n with
  | zero => intro ν y3 y4 y5 y6 hf; rw [f_MO_pour_L76.eq_1] at hf; cases hf
  | succ n ih =>
    intro ν y3 y4 y5 y6 hf H locs ls hP hS hl
    rw [f_MO_pour_L76.eq_2] at hf
    refine lv_iload_n hx hb d_MO_pour_76 rfl (lv_at hl 1 rfl) ?_
    refine lv_if_le (tgt := 339) hx hb d_MO_pour_77 (by decide) (fun hc => ?_) (fun hc => ?_)
    · replace hf := if_p hc hf
      obtain rfl := Option.some.inj hf
      exact hE _ _ _ hP hS (lv_sub hl [0, 3] rfl)
    · replace hf := if_n hc hf
      refine lv_iload hx hb d_MO_pour_80 (lv_at hl 2 rfl) ?_
      refine lv_bipush (v := (-5)) hx hb d_MO_pour_82 (by decide) ?_
      refine lv_icmp_ne (tgt := 95) hx hb d_MO_pour_84 (by decide) (fun hc => ?_) (fun hc => ?_)
      · replace hf := if_n hc hf
        refine lv_aload_n hx hb d_MO_pour_95 rfl (lv_at hl 0 rfl) ?_
        refine lv_iload hx hb d_MO_pour_96 (lv_at hl 4 rfl) ?_
        replace hf := B_some hf
        obtain ⟨v5, hv5, hf⟩ := hf
        refine ki (kv (As := [.int y6]) (rest := []) ⟨hx, hb, hml, hown, hts⟩ (cw_MO_207 hts ⟨Nat.le_of_ble_eq_true rfl, Nat.le_of_ble_eq_true rfl⟩) (c_MO_most l D adr cA μ ν y6 hv5) hG hP (rc_o (q := 63) (ci := 5) hG hP (by decide) (wc_M (by decide) rfl) rfl) rfl hl.1 (Nat.le_of_ble_eq_true rfl) d_MO_pour_98) hS (fun H locs hP hS => ?_)
        refine lv_aload_n hx hb d_MO_pour_101 rfl (lv_at hl 0 rfl) ?_
        refine g_MO_water hx hb hts hown hG hP (hts _ in_580) d_MO_pour_102 ?_
        refine lv_iload hx hb d_MO_pour_105 (lv_at hl 4 rfl) ?_
        replace hf := G_some hf
        obtain ⟨hi6, hf⟩ := hf
        refine r_iald hx hb hG hP 79 64 (f := ν.1 79) (by decide) (wc_M (by decide) rfl) hi6 d_MO_pour_107 ?_
        refine lv_isub hx hb d_MO_pour_108 ?_
        refine lv_istore (lv' := [(7, .int (v5 - (ν.1 79 y6.toNatClampNeg))), (0, .ref (adr 63)), (3, .int y3), (4, .int y4), (5, .int y5), (6, .int y6)]) hx hb d_MO_pour_109 hl (by decide) rfl (fun ls hl => ?_)
        refine lv_iload_n hx hb d_MO_pour_111 rfl (lv_at hl 2 rfl) ?_
        refine lv_iload hx hb d_MO_pour_112 (lv_at hl 0 rfl) ?_
        replace hf := B_some hf
        obtain ⟨v7, hv7, hf⟩ := hf
        have hJ : ∀ (H : Heap) (locs : List Loc) (ls : Array Slot), va_P D cls (wld adr cA μ ν) H → va_S (AA adr) s.heap H locs → lv_has ls 11 [(0, .ref (adr 63)), (3, .int y3), (4, .int y4), (5, .int y5), (6, .int y6)] → W p l e rm_MO_pour s m args below meth c H locs 0 0 Q (F0 m 123 ls [.int v7]) := by
          clear hv7
          intro H locs ls hP hS hl
          refine lv_istore (lv' := [(8, .int v7), (0, .ref (adr 63)), (3, .int y3), (4, .int y4), (5, .int y5), (6, .int y6)]) hx hb d_MO_pour_123 hl (by decide) rfl (fun ls hl => ?_)
          refine lv_aload_n hx hb d_MO_pour_125 rfl (lv_at hl 1 rfl) ?_
          refine g_MO_water hx hb hts hown hG hP (hts _ in_580) d_MO_pour_126 ?_
          refine lv_iload hx hb d_MO_pour_129 (lv_at hl 5 rfl) ?_
          refine lv_dup2_11 hx hb d_MO_pour_131 rfl rfl ?_
          replace hf := G_some hf
          obtain ⟨hi8, hf⟩ := hf
          refine r_iald hx hb hG hP 79 64 (f := ν.1 79) (by decide) (wc_M (by decide) rfl) hi8 d_MO_pour_132 ?_
          refine lv_iload hx hb d_MO_pour_133 (lv_at hl 0 rfl) ?_
          refine lv_iadd hx hb d_MO_pour_135 ?_
          replace hf := G_some hf
          obtain ⟨hi9, hf⟩ := hf
          refine rM_iast hx hb hG hP hS 79 64 (by decide) (by decide) (fun _ _ => rfl) hi9 d_MO_pour_136 (fun H locs hP hS => ?_)
          refine lv_iload_n hx hb d_MO_pour_137 rfl (lv_at hl 2 rfl) ?_
          refine lv_iload hx hb d_MO_pour_138 (lv_at hl 0 rfl) ?_
          refine lv_isub hx hb d_MO_pour_140 ?_
          refine lv_istore_n (lv' := [(3, .int (y3 - v7)), (8, .int v7), (0, .ref (adr 63)), (4, .int y4), (5, .int y5), (6, .int y6)]) hx hb d_MO_pour_141 rfl hl (by decide) rfl (fun ls hl => ?_)
          refine lv_iload_n hx hb d_MO_pour_142 rfl (lv_at hl 0 rfl) ?_
          refine lv_if_ne (tgt := 149) hx hb d_MO_pour_143 (by decide) (fun hc => ?_) (fun hc => ?_)
          · replace hf := if_n hc hf
            refine lv_aload_n hx hb d_MO_pour_149 rfl (lv_at hl 2 rfl) ?_
            refine g_MO_above hx hb hts hown hG hP (hts _ in_576) d_MO_pour_150 ?_
            refine lv_iload hx hb d_MO_pour_153 (lv_at hl 5 rfl) ?_
            replace hf := G_some hf
            obtain ⟨hi10, hf⟩ := hf
            refine r_iald hx hb hG hP 75 64 (f := (sI ν 79 y6.toNatClampNeg ((ν.1 79 y6.toNatClampNeg) + v7)).1 75) (by decide) (wc_M (by decide) rfl) hi10 d_MO_pour_155 ?_
            refine lv_bipush (v := (-5)) hx hb d_MO_pour_156 (by decide) ?_
            refine lv_icmp_ne (tgt := 168) hx hb d_MO_pour_158 (by decide) (fun hc => ?_) (fun hc => ?_)
            · replace hf := if_n hc hf
              refine lv_aload_n hx hb d_MO_pour_168 rfl (lv_at hl 2 rfl) ?_
              refine g_MO_above hx hb hts hown hG hP (hts _ in_576) d_MO_pour_169 ?_
              refine lv_iload hx hb d_MO_pour_172 (lv_at hl 5 rfl) ?_
              replace hf := G_some hf
              obtain ⟨hi11, hf⟩ := hf
              refine r_iald hx hb hG hP 75 64 (f := (sI ν 79 y6.toNatClampNeg ((ν.1 79 y6.toNatClampNeg) + v7)).1 75) (by decide) (wc_M (by decide) rfl) hi11 d_MO_pour_174 ?_
              refine lv_istore (lv' := [(9, .int ((sI ν 79 y6.toNatClampNeg ((ν.1 79 y6.toNatClampNeg) + v7)).1 75 y6.toNatClampNeg)), (3, .int (y3 - v7)), (8, .int v7), (0, .ref (adr 63)), (4, .int y4), (5, .int y5), (6, .int y6)]) hx hb d_MO_pour_175 hl (by decide) rfl (fun ls hl => ?_)
              refine lv_aload_n hx hb d_MO_pour_177 rfl (lv_at hl 3 rfl) ?_
              refine g_MO_first hx hb hts hown hG hP (hts _ in_577) d_MO_pour_178 ?_
              refine lv_iload hx hb d_MO_pour_181 (lv_at hl 0 rfl) ?_
              replace hf := G_some hf
              obtain ⟨hi12, hf⟩ := hf
              refine r_iald hx hb hG hP 76 64 (f := (sI ν 79 y6.toNatClampNeg ((ν.1 79 y6.toNatClampNeg) + v7)).1 76) (by decide) (wc_M (by decide) rfl) hi12 d_MO_pour_183 ?_
              refine lv_iload hx hb d_MO_pour_184 (lv_at hl 6 rfl) ?_
              replace hf := B_some hf
              obtain ⟨v13, hv13, hf⟩ := hf
              have hJ : ∀ (H : Heap) (locs : List Loc) (ls : Array Slot), va_P D cls (wld adr cA μ (sI ν 79 y6.toNatClampNeg ((ν.1 79 y6.toNatClampNeg) + v7))) H → va_S (AA adr) s.heap H locs → lv_has ls 11 [(0, .ref (adr 63)), (3, .int (y3 - v7)), (4, .int y4), (5, .int y5), (6, .int y6), (9, .int ((sI ν 79 y6.toNatClampNeg ((ν.1 79 y6.toNatClampNeg) + v7)).1 75 y6.toNatClampNeg))] → W p l e rm_MO_pour s m args below meth c H locs 0 0 Q (F0 m 206 ls [.int v13]) := by
                clear hv13
                intro H locs ls hP hS hl
                refine lv_istore (lv' := [(10, .int v13), (0, .ref (adr 63)), (3, .int (y3 - v7)), (4, .int y4), (5, .int y5), (6, .int y6), (9, .int ((sI ν 79 y6.toNatClampNeg ((ν.1 79 y6.toNatClampNeg) + v7)).1 75 y6.toNatClampNeg))]) hx hb d_MO_pour_206 hl (by decide) rfl (fun ls hl => ?_)
                refine lv_aload_n hx hb d_MO_pour_208 rfl (lv_at hl 1 rfl) ?_
                refine g_MO_isThere hx hb hts hown hG hP (hts _ in_579) d_MO_pour_209 ?_
                refine lv_iload hx hb d_MO_pour_212 (lv_at hl 0 rfl) ?_
                replace hf := G_some hf
                obtain ⟨hi16, hf⟩ := hf
                refine r_zald hx hb hG hP 78 64 (f := (sI ν 79 y6.toNatClampNeg ((ν.1 79 y6.toNatClampNeg) + v7)).1 78) (by decide) (wc_M (by decide) rfl) hi16 d_MO_pour_214 ?_
                replace hf := B_some hf
                obtain ⟨v17, hv17, hf⟩ := hf
                have hJ : ∀ (H : Heap) (locs : List Loc) (ls : Array Slot), va_P D cls (wld adr cA μ v17.2.2) H → va_S (AA adr) s.heap H locs → lv_has ls 11 [(0, .ref (adr 63)), (3, .int (y3 - v7)), (4, .int v17.1), (5, .int y5), (6, .int v17.2.1)] → W p l e rm_MO_pour s m args below meth c H locs 0 0 Q (F0 m 336 ls []) := by
                  clear hv17
                  intro H locs ls hP hS hl
                  refine lv_goto (tgt := 76) hx hb d_MO_pour_336 (by decide) ?_
                  exact ih _ _ _ _ _ hf hP hS (lv_sub hl [0, 1, 2, 3, 4] rfl)
                clear hf
                have hf := hv17
                clear hv17
                refine lv_if_eq (tgt := 303) hx hb d_MO_pour_215 (by decide) (fun hc => ?_) (fun hc => ?_)
                · replace hf := if_p hc hf
                  refine lv_aload_n hx hb d_MO_pour_303 rfl (lv_at hl 1 rfl) ?_
                  refine g_MO_wayEnd hx hb hts hown hG hP (hts _ in_570) d_MO_pour_304 ?_
                  refine lv_aload_n hx hb d_MO_pour_307 rfl (lv_at hl 1 rfl) ?_
                  refine lv_iload hx hb d_MO_pour_308 (lv_at hl 5 rfl) ?_
                  replace hf := B_some hf
                  obtain ⟨v18, hv18, hf⟩ := hf
                  refine ki (kv (As := [.int y6]) (rest := [.ref (adr 70)]) ⟨hx, hb, hml, hown, hts⟩ (cw_MO_214 hts ⟨Nat.le_of_ble_eq_true rfl, Nat.le_of_ble_eq_true rfl⟩) (c_MO_over l D adr cA μ (sI ν 79 y6.toNatClampNeg ((ν.1 79 y6.toNatClampNeg) + v7)) y6 hv18) hG hP (rc_o (q := 63) (ci := 5) hG hP (by decide) (wc_M (by decide) rfl) rfl) rfl hl.1 (Nat.le_of_ble_eq_true rfl) d_MO_pour_310) hS (fun H locs hP hS => ?_)
                  replace hf := G_some hf
                  obtain ⟨hi19, hf⟩ := hf
                  refine r_iald hx hb hG hP 70 64 (f := (sI ν 79 y6.toNatClampNeg ((ν.1 79 y6.toNatClampNeg) + v7)).1 70) (by decide) (wc_M (by decide) rfl) hi19 d_MO_pour_313 ?_
                  refine lv_istore (lv' := [(4, .int ((sI ν 79 y6.toNatClampNeg ((ν.1 79 y6.toNatClampNeg) + v7)).1 70 v18.toNatClampNeg)), (10, .int v13), (0, .ref (adr 63)), (3, .int (y3 - v7)), (5, .int y5), (6, .int y6), (9, .int ((sI ν 79 y6.toNatClampNeg ((ν.1 79 y6.toNatClampNeg) + v7)).1 75 y6.toNatClampNeg))]) hx hb d_MO_pour_314 hl (by decide) rfl (fun ls hl => ?_)
                  refine lv_iload hx hb d_MO_pour_316 (lv_at hl 0 rfl) ?_
                  refine lv_bipush (v := (-5)) hx hb d_MO_pour_318 (by decide) ?_
                  replace hf := B_some hf
                  obtain ⟨v20, hv20, hf⟩ := hf
                  have hJ : ∀ (H : Heap) (locs : List Loc) (ls : Array Slot), va_P D cls (wld adr cA μ (sI ν 79 y6.toNatClampNeg ((ν.1 79 y6.toNatClampNeg) + v7))) H → va_S (AA adr) s.heap H locs → lv_has ls 11 [(0, .ref (adr 63)), (3, .int (y3 - v7)), (4, .int ((sI ν 79 y6.toNatClampNeg ((ν.1 79 y6.toNatClampNeg) + v7)).1 70 v18.toNatClampNeg)), (5, .int y5)] → W p l e rm_MO_pour s m args below meth c H locs 0 0 Q (F0 m 334 ls [.int v20]) := by
                    clear hv20
                    intro H locs ls hP hS hl
                    refine lv_istore (lv' := [(6, .int v20), (0, .ref (adr 63)), (3, .int (y3 - v7)), (4, .int ((sI ν 79 y6.toNatClampNeg ((ν.1 79 y6.toNatClampNeg) + v7)).1 70 v18.toNatClampNeg)), (5, .int y5)]) hx hb d_MO_pour_334 hl (by decide) rfl (fun ls hl => ?_)
                    obtain rfl := Option.some.inj hf
                    exact hJ _ _ _ hP hS (lv_sub hl [1, 2, 3, 4, 0] rfl)
                  clear hf
                  have hf := hv20
                  clear hv20
                  refine lv_icmp_ne (tgt := 328) hx hb d_MO_pour_320 (by decide) (fun hc => ?_) (fun hc => ?_)
                  · replace hf := if_n hc hf
                    refine lv_aload_n hx hb d_MO_pour_328 rfl (lv_at hl 2 rfl) ?_
                    refine lv_iload hx hb d_MO_pour_329 (lv_at hl 0 rfl) ?_
                    replace hf := B_some hf
                    obtain ⟨v21, hv21, hf⟩ := hf
                    refine ki (kv (As := [.int ((sI ν 79 y6.toNatClampNeg ((ν.1 79 y6.toNatClampNeg) + v7)).1 70 v18.toNatClampNeg)]) (rest := []) ⟨hx, hb, hml, hown, hts⟩ (cw_MO_190 hts ⟨Nat.le_of_ble_eq_true rfl, Nat.le_of_ble_eq_true rfl⟩) (c_MO_lakeAt l D adr cA μ (sI ν 79 y6.toNatClampNeg ((ν.1 79 y6.toNatClampNeg) + v7)) ((sI ν 79 y6.toNatClampNeg ((ν.1 79 y6.toNatClampNeg) + v7)).1 70 v18.toNatClampNeg) hv21) hG hP (rc_o (q := 63) (ci := 5) hG hP (by decide) (wc_M (by decide) rfl) rfl) rfl hl.1 (Nat.le_of_ble_eq_true rfl) d_MO_pour_331) hS (fun H locs hP hS => ?_)
                    obtain rfl := Option.some.inj hf
                    exact hJ _ _ _ hP hS (lv_sub hl [2, 3, 0, 4] rfl)
                  · replace hf := if_p hc hf
                    refine lv_bipush (v := (-3)) hx hb d_MO_pour_323 (by decide) ?_
                    refine lv_goto (tgt := 334) hx hb d_MO_pour_325 (by decide) ?_
                    obtain rfl := Option.some.inj hf
                    exact hJ _ _ _ hP hS (lv_sub hl [2, 3, 0, 4] rfl)
                · replace hf := if_n hc hf
                  refine lv_aload_n hx hb d_MO_pour_218 rfl (lv_at hl 1 rfl) ?_
                  refine g_MO_water hx hb hts hown hG hP (hts _ in_580) d_MO_pour_219 ?_
                  refine lv_iload hx hb d_MO_pour_222 (lv_at hl 0 rfl) ?_
                  replace hf := G_some hf
                  obtain ⟨hi22, hf⟩ := hf
                  refine r_iald hx hb hG hP 79 64 (f := (sI ν 79 y6.toNatClampNeg ((ν.1 79 y6.toNatClampNeg) + v7)).1 79) (by decide) (wc_M (by decide) rfl) hi22 d_MO_pour_224 ?_
                  refine lv_aload_n hx hb d_MO_pour_225 rfl (lv_at hl 1 rfl) ?_
                  refine lv_iload hx hb d_MO_pour_226 (lv_at hl 0 rfl) ?_
                  replace hf := B_some hf
                  obtain ⟨v23, hv23, hf⟩ := hf
                  refine ki (kv (As := [.int v13]) (rest := [.int ((sI ν 79 y6.toNatClampNeg ((ν.1 79 y6.toNatClampNeg) + v7)).1 79 v13.toNatClampNeg)]) ⟨hx, hb, hml, hown, hts⟩ (cw_MO_207 hts ⟨Nat.le_of_ble_eq_true rfl, Nat.le_of_ble_eq_true rfl⟩) (c_MO_most l D adr cA μ (sI ν 79 y6.toNatClampNeg ((ν.1 79 y6.toNatClampNeg) + v7)) v13 hv23) hG hP (rc_o (q := 63) (ci := 5) hG hP (by decide) (wc_M (by decide) rfl) rfl) rfl hl.1 (Nat.le_of_ble_eq_true rfl) d_MO_pour_228) hS (fun H locs hP hS => ?_)
                  refine lv_icmp_ne (tgt := 303) hx hb d_MO_pour_231 (by decide) (fun hc => ?_) (fun hc => ?_)
                  · replace hf := if_n hc hf
                    refine lv_aload_n hx hb d_MO_pour_303 rfl (lv_at hl 1 rfl) ?_
                    refine g_MO_wayEnd hx hb hts hown hG hP (hts _ in_570) d_MO_pour_304 ?_
                    refine lv_aload_n hx hb d_MO_pour_307 rfl (lv_at hl 1 rfl) ?_
                    refine lv_iload hx hb d_MO_pour_308 (lv_at hl 5 rfl) ?_
                    replace hf := B_some hf
                    obtain ⟨v24, hv24, hf⟩ := hf
                    refine ki (kv (As := [.int y6]) (rest := [.ref (adr 70)]) ⟨hx, hb, hml, hown, hts⟩ (cw_MO_214 hts ⟨Nat.le_of_ble_eq_true rfl, Nat.le_of_ble_eq_true rfl⟩) (c_MO_over l D adr cA μ (sI ν 79 y6.toNatClampNeg ((ν.1 79 y6.toNatClampNeg) + v7)) y6 hv24) hG hP (rc_o (q := 63) (ci := 5) hG hP (by decide) (wc_M (by decide) rfl) rfl) rfl hl.1 (Nat.le_of_ble_eq_true rfl) d_MO_pour_310) hS (fun H locs hP hS => ?_)
                    replace hf := G_some hf
                    obtain ⟨hi25, hf⟩ := hf
                    refine r_iald hx hb hG hP 70 64 (f := (sI ν 79 y6.toNatClampNeg ((ν.1 79 y6.toNatClampNeg) + v7)).1 70) (by decide) (wc_M (by decide) rfl) hi25 d_MO_pour_313 ?_
                    refine lv_istore (lv' := [(4, .int ((sI ν 79 y6.toNatClampNeg ((ν.1 79 y6.toNatClampNeg) + v7)).1 70 v24.toNatClampNeg)), (10, .int v13), (0, .ref (adr 63)), (3, .int (y3 - v7)), (5, .int y5), (6, .int y6), (9, .int ((sI ν 79 y6.toNatClampNeg ((ν.1 79 y6.toNatClampNeg) + v7)).1 75 y6.toNatClampNeg))]) hx hb d_MO_pour_314 hl (by decide) rfl (fun ls hl => ?_)
                    refine lv_iload hx hb d_MO_pour_316 (lv_at hl 0 rfl) ?_
                    refine lv_bipush (v := (-5)) hx hb d_MO_pour_318 (by decide) ?_
                    replace hf := B_some hf
                    obtain ⟨v26, hv26, hf⟩ := hf
                    have hJ : ∀ (H : Heap) (locs : List Loc) (ls : Array Slot), va_P D cls (wld adr cA μ (sI ν 79 y6.toNatClampNeg ((ν.1 79 y6.toNatClampNeg) + v7))) H → va_S (AA adr) s.heap H locs → lv_has ls 11 [(0, .ref (adr 63)), (3, .int (y3 - v7)), (4, .int ((sI ν 79 y6.toNatClampNeg ((ν.1 79 y6.toNatClampNeg) + v7)).1 70 v24.toNatClampNeg)), (5, .int y5)] → W p l e rm_MO_pour s m args below meth c H locs 0 0 Q (F0 m 334 ls [.int v26]) := by
                      clear hv26
                      intro H locs ls hP hS hl
                      refine lv_istore (lv' := [(6, .int v26), (0, .ref (adr 63)), (3, .int (y3 - v7)), (4, .int ((sI ν 79 y6.toNatClampNeg ((ν.1 79 y6.toNatClampNeg) + v7)).1 70 v24.toNatClampNeg)), (5, .int y5)]) hx hb d_MO_pour_334 hl (by decide) rfl (fun ls hl => ?_)
                      obtain rfl := Option.some.inj hf
                      exact hJ _ _ _ hP hS (lv_sub hl [1, 2, 3, 4, 0] rfl)
                    clear hf
                    have hf := hv26
                    clear hv26
                    refine lv_icmp_ne (tgt := 328) hx hb d_MO_pour_320 (by decide) (fun hc => ?_) (fun hc => ?_)
                    · replace hf := if_n hc hf
                      refine lv_aload_n hx hb d_MO_pour_328 rfl (lv_at hl 2 rfl) ?_
                      refine lv_iload hx hb d_MO_pour_329 (lv_at hl 0 rfl) ?_
                      replace hf := B_some hf
                      obtain ⟨v27, hv27, hf⟩ := hf
                      refine ki (kv (As := [.int ((sI ν 79 y6.toNatClampNeg ((ν.1 79 y6.toNatClampNeg) + v7)).1 70 v24.toNatClampNeg)]) (rest := []) ⟨hx, hb, hml, hown, hts⟩ (cw_MO_190 hts ⟨Nat.le_of_ble_eq_true rfl, Nat.le_of_ble_eq_true rfl⟩) (c_MO_lakeAt l D adr cA μ (sI ν 79 y6.toNatClampNeg ((ν.1 79 y6.toNatClampNeg) + v7)) ((sI ν 79 y6.toNatClampNeg ((ν.1 79 y6.toNatClampNeg) + v7)).1 70 v24.toNatClampNeg) hv27) hG hP (rc_o (q := 63) (ci := 5) hG hP (by decide) (wc_M (by decide) rfl) rfl) rfl hl.1 (Nat.le_of_ble_eq_true rfl) d_MO_pour_331) hS (fun H locs hP hS => ?_)
                      obtain rfl := Option.some.inj hf
                      exact hJ _ _ _ hP hS (lv_sub hl [2, 3, 0, 4] rfl)
                    · replace hf := if_p hc hf
                      refine lv_bipush (v := (-3)) hx hb d_MO_pour_323 (by decide) ?_
                      refine lv_goto (tgt := 334) hx hb d_MO_pour_325 (by decide) ?_
                      obtain rfl := Option.some.inj hf
                      exact hJ _ _ _ hP hS (lv_sub hl [2, 3, 0, 4] rfl)
                  · replace hf := if_p hc hf
                    refine lv_aload_n hx hb d_MO_pour_234 rfl (lv_at hl 1 rfl) ?_
                    refine g_MO_isThere hx hb hts hown hG hP (hts _ in_579) d_MO_pour_235 ?_
                    refine lv_iload hx hb d_MO_pour_238 (lv_at hl 5 rfl) ?_
                    refine lv_iconst (v := 0) hx hb d_MO_pour_240 (by decide) ?_
                    replace hf := G_some hf
                    obtain ⟨hi28, hf⟩ := hf
                    refine rM_zast hx hb hG hP hS 78 64 (by decide) (by decide) (fun _ _ => rfl) hi28 d_MO_pour_241 (fun H locs hP hS => ?_)
                    refine lv_aload_n hx hb d_MO_pour_242 rfl (lv_at hl 1 rfl) ?_
                    refine g_MO_isThere hx hb hts hown hG hP (hts _ in_579) d_MO_pour_243 ?_
                    refine lv_iload hx hb d_MO_pour_246 (lv_at hl 0 rfl) ?_
                    refine lv_iconst (v := 0) hx hb d_MO_pour_248 (by decide) ?_
                    replace hf := G_some hf
                    obtain ⟨hi29, hf⟩ := hf
                    refine rM_zast hx hb hG hP hS 78 64 (by decide) (by decide) (fun _ _ => rfl) hi29 d_MO_pour_249 (fun H locs hP hS => ?_)
                    refine lv_aload_n hx hb d_MO_pour_250 rfl (lv_at hl 1 rfl) ?_
                    refine g_MO_isThere hx hb hts hown hG hP (hts _ in_579) d_MO_pour_251 ?_
                    refine lv_iload hx hb d_MO_pour_254 (lv_at hl 6 rfl) ?_
                    refine lv_iconst (v := 1) hx hb d_MO_pour_256 (by decide) ?_
                    replace hf := G_some hf
                    obtain ⟨hi30, hf⟩ := hf
                    refine rM_zast hx hb hG hP hS 78 64 (by decide) (by decide) (fun _ _ => rfl) hi30 d_MO_pour_257 (fun H locs hP hS => ?_)
                    refine lv_aload_n hx hb d_MO_pour_258 rfl (lv_at hl 1 rfl) ?_
                    refine g_MO_water hx hb hts hown hG hP (hts _ in_580) d_MO_pour_259 ?_
                    refine lv_iload hx hb d_MO_pour_262 (lv_at hl 6 rfl) ?_
                    refine lv_aload_n hx hb d_MO_pour_264 rfl (lv_at hl 1 rfl) ?_
                    refine g_MO_water hx hb hts hown hG hP (hts _ in_580) d_MO_pour_265 ?_
                    refine lv_iload hx hb d_MO_pour_268 (lv_at hl 5 rfl) ?_
                    replace hf := G_some hf
                    obtain ⟨hi31, hf⟩ := hf
                    refine r_iald hx hb hG hP 79 64 (f := (sI (sI (sI (sI ν 79 y6.toNatClampNeg ((ν.1 79 y6.toNatClampNeg) + v7)) 78 y6.toNatClampNeg (0 &&& 1)) 78 v13.toNatClampNeg (0 &&& 1)) 78 ((sI ν 79 y6.toNatClampNeg ((ν.1 79 y6.toNatClampNeg) + v7)).1 75 y6.toNatClampNeg).toNatClampNeg (1 &&& 1)).1 79) (by decide) (wc_M (by decide) rfl) hi31 d_MO_pour_270 ?_
                    refine lv_aload_n hx hb d_MO_pour_271 rfl (lv_at hl 1 rfl) ?_
                    refine g_MO_water hx hb hts hown hG hP (hts _ in_580) d_MO_pour_272 ?_
                    refine lv_iload hx hb d_MO_pour_275 (lv_at hl 0 rfl) ?_
                    replace hf := G_some hf
                    obtain ⟨hi32, hf⟩ := hf
                    refine r_iald hx hb hG hP 79 64 (f := (sI (sI (sI (sI ν 79 y6.toNatClampNeg ((ν.1 79 y6.toNatClampNeg) + v7)) 78 y6.toNatClampNeg (0 &&& 1)) 78 v13.toNatClampNeg (0 &&& 1)) 78 ((sI ν 79 y6.toNatClampNeg ((ν.1 79 y6.toNatClampNeg) + v7)).1 75 y6.toNatClampNeg).toNatClampNeg (1 &&& 1)).1 79) (by decide) (wc_M (by decide) rfl) hi32 d_MO_pour_277 ?_
                    refine lv_iadd hx hb d_MO_pour_278 ?_
                    replace hf := G_some hf
                    obtain ⟨hi33, hf⟩ := hf
                    refine rM_iast hx hb hG hP hS 79 64 (by decide) (by decide) (fun _ _ => rfl) hi33 d_MO_pour_279 (fun H locs hP hS => ?_)
                    refine lv_aload_n hx hb d_MO_pour_280 rfl (lv_at hl 1 rfl) ?_
                    refine g_MO_water hx hb hts hown hG hP (hts _ in_580) d_MO_pour_281 ?_
                    refine lv_iload hx hb d_MO_pour_284 (lv_at hl 5 rfl) ?_
                    refine lv_iconst (v := 0) hx hb d_MO_pour_286 (by decide) ?_
                    replace hf := G_some hf
                    obtain ⟨hi34, hf⟩ := hf
                    refine rM_iast hx hb hG hP hS 79 64 (by decide) (by decide) (fun _ _ => rfl) hi34 d_MO_pour_287 (fun H locs hP hS => ?_)
                    refine lv_aload_n hx hb d_MO_pour_288 rfl (lv_at hl 1 rfl) ?_
                    refine g_MO_water hx hb hts hown hG hP (hts _ in_580) d_MO_pour_289 ?_
                    refine lv_iload hx hb d_MO_pour_292 (lv_at hl 0 rfl) ?_
                    refine lv_iconst (v := 0) hx hb d_MO_pour_294 (by decide) ?_
                    replace hf := G_some hf
                    obtain ⟨hi35, hf⟩ := hf
                    refine rM_iast hx hb hG hP hS 79 64 (by decide) (by decide) (fun _ _ => rfl) hi35 d_MO_pour_295 (fun H locs hP hS => ?_)
                    refine lv_iload hx hb d_MO_pour_296 (lv_at hl 6 rfl) ?_
                    refine lv_istore (lv' := [(6, .int ((sI ν 79 y6.toNatClampNeg ((ν.1 79 y6.toNatClampNeg) + v7)).1 75 y6.toNatClampNeg)), (10, .int v13), (0, .ref (adr 63)), (3, .int (y3 - v7)), (4, .int y4), (5, .int y5), (9, .int ((sI ν 79 y6.toNatClampNeg ((ν.1 79 y6.toNatClampNeg) + v7)).1 75 y6.toNatClampNeg))]) hx hb d_MO_pour_298 hl (by decide) rfl (fun ls hl => ?_)
                    refine lv_goto (tgt := 336) hx hb d_MO_pour_300 (by decide) ?_
                    obtain rfl := Option.some.inj hf
                    exact hJ _ _ _ hP hS (lv_sub hl [2, 3, 4, 5, 0] rfl)
              clear hf
              have hf := hv13
              clear hv13
              refine lv_icmp_ne (tgt := 199) hx hb d_MO_pour_186 (by decide) (fun hc => ?_) (fun hc => ?_)
              · replace hf := if_n hc hf
                refine lv_aload_n hx hb d_MO_pour_199 rfl (lv_at hl 3 rfl) ?_
                refine g_MO_first hx hb hts hown hG hP (hts _ in_577) d_MO_pour_200 ?_
                refine lv_iload hx hb d_MO_pour_203 (lv_at hl 0 rfl) ?_
                replace hf := G_some hf
                obtain ⟨hi14, hf⟩ := hf
                refine r_iald hx hb hG hP 76 64 (f := (sI ν 79 y6.toNatClampNeg ((ν.1 79 y6.toNatClampNeg) + v7)).1 76) (by decide) (wc_M (by decide) rfl) hi14 d_MO_pour_205 ?_
                obtain rfl := Option.some.inj hf
                exact hJ _ _ _ hP hS (lv_sub hl [3, 1, 4, 5, 6, 0] rfl)
              · replace hf := if_p hc hf
                refine lv_aload_n hx hb d_MO_pour_189 rfl (lv_at hl 3 rfl) ?_
                refine g_MO_second hx hb hts hown hG hP (hts _ in_578) d_MO_pour_190 ?_
                refine lv_iload hx hb d_MO_pour_193 (lv_at hl 0 rfl) ?_
                replace hf := G_some hf
                obtain ⟨hi15, hf⟩ := hf
                refine r_iald hx hb hG hP 77 64 (f := (sI ν 79 y6.toNatClampNeg ((ν.1 79 y6.toNatClampNeg) + v7)).1 77) (by decide) (wc_M (by decide) rfl) hi15 d_MO_pour_195 ?_
                refine lv_goto (tgt := 206) hx hb d_MO_pour_196 (by decide) ?_
                obtain rfl := Option.some.inj hf
                exact hJ _ _ _ hP hS (lv_sub hl [3, 1, 4, 5, 6, 0] rfl)
            · replace hf := if_p hc hf
              refine lv_bipush (v := (-5)) hx hb d_MO_pour_161 (by decide) ?_
              refine lv_istore (lv' := [(4, .int (-5)), (3, .int (y3 - v7)), (8, .int v7), (0, .ref (adr 63)), (5, .int y5), (6, .int y6)]) hx hb d_MO_pour_163 hl (by decide) rfl (fun ls hl => ?_)
              refine lv_goto (tgt := 76) hx hb d_MO_pour_165 (by decide) ?_
              exact ih _ _ _ _ _ hf hP hS (lv_sub hl [3, 1, 0, 4, 5] rfl)
          · replace hf := if_p hc hf
            refine lv_goto (tgt := 76) hx hb d_MO_pour_146 (by decide) ?_
            exact ih _ _ _ _ _ hf hP hS (lv_sub hl [2, 0, 3, 4, 5] rfl)
        clear hf
        have hf := hv7
        clear hv7
        refine lv_icmp_ge (tgt := 121) hx hb d_MO_pour_114 (by decide) (fun hc => ?_) (fun hc => ?_)
        · replace hf := if_p hc hf
          refine lv_iload hx hb d_MO_pour_121 (lv_at hl 0 rfl) ?_
          obtain rfl := Option.some.inj hf
          exact hJ _ _ _ hP hS (lv_sub hl [1, 2, 3, 4, 5] rfl)
        · replace hf := if_n hc hf
          refine lv_iload_n hx hb d_MO_pour_117 rfl (lv_at hl 2 rfl) ?_
          refine lv_goto (tgt := 123) hx hb d_MO_pour_118 (by decide) ?_
          obtain rfl := Option.some.inj hf
          exact hJ _ _ _ hP hS (lv_sub hl [1, 2, 3, 4, 5] rfl)
      · replace hf := if_p hc hf
        refine lv_iload_n hx hb d_MO_pour_87 rfl (lv_at hl 1 rfl) ?_
        refine lv_istore (lv' := [(5, .int y3), (0, .ref (adr 63)), (3, .int y3), (4, .int y4), (6, .int y6)]) hx hb d_MO_pour_88 hl (by decide) rfl (fun ls hl => ?_)
        refine lv_iconst (v := 0) hx hb d_MO_pour_90 (by decide) ?_
        refine lv_istore_n (lv' := [(3, .int 0), (5, .int y3), (0, .ref (adr 63)), (4, .int y4), (6, .int y6)]) hx hb d_MO_pour_91 rfl hl (by decide) rfl (fun ls hl => ?_)
        refine lv_goto (tgt := 76) hx hb d_MO_pour_92 (by decide) ?_
        exact ih _ _ _ _ _ hf hP hS (lv_sub hl [2, 0, 3, 1, 4] rfl)
set_option maxHeartbeats 4000000 in
set_option maxRecDepth 100000 in
theorem w_MO_pour (x1 : Int32) (x2 : Int32)  (C : Cx prog_7_method_41_code 11 "LakeReliefModel" (Option.some Jvm.ClassFile.FieldType.int) p s m args meth c) (hG : Geo D adr cA s) {res : Int32 × Mem} (hf : f_MO_pour ν x1 x2 = some res) (hq : ∀ (pc : Nat) (ls : Array Slot) (H : Heap) (locs : List Loc), decode prog_7_method_41_code pc = .ok (.ireturn, 1) → va_P D cls (wld adr cA μ res.2) H → va_S (AA adr) s.heap H locs → W p l e rm_MO_pour s m args below meth c H locs 0 0 Q (F0 m pc ls [.int res.1])) {H : Heap} {locs : List Loc} {ls : Array Slot} (hP : va_P D cls (wld adr cA μ ν) H) (hS : va_S (AA adr) s.heap H locs) (hl : lv_has ls 11 [(0, .ref (adr 63)), (1, .int x1), (2, .int x2)]) : W p l e rm_MO_pour s m args below meth c H locs 0 0 Q (F0 m 0 ls []) := by
  obtain ⟨hx, hb, hml, hown, hts, hr, hlocks⟩ := id C
  unfold f_MO_pour at hf
  refine lv_aload_n hx hb d_MO_pour_0 rfl (lv_at hl 0 rfl) ?_
  refine g_MO_isLaid hx hb hts hown hG hP (hts _ in_564) d_MO_pour_1 ?_
  refine lv_if_ne (tgt := 10) hx hb d_MO_pour_4 (by decide) (fun hc => ?_) (fun hc => ?_)
  · replace hf := if_n hc hf
    refine lv_aload_n hx hb d_MO_pour_10 rfl (lv_at hl 0 rfl) ?_
    refine lv_iload_n hx hb d_MO_pour_11 rfl (lv_at hl 1 rfl) ?_
    replace hf := B_some hf
    obtain ⟨v1, hv1, hf⟩ := hf
    refine ki (kv (As := [.int x1]) (rest := []) ⟨hx, hb, hml, hown, hts⟩ (cw_MO_184 hts ⟨Nat.le_of_ble_eq_true rfl, Nat.le_of_ble_eq_true rfl⟩) (c_MO_isField l D adr cA μ ν x1 hv1) hG hP (rc_o (q := 63) (ci := 5) hG hP (by decide) (wc_M (by decide) rfl) rfl) rfl hl.1 (Nat.le_of_ble_eq_true rfl) d_MO_pour_12) hS (fun H locs hP hS => ?_)
    refine lv_if_eq (tgt := 30) hx hb d_MO_pour_15 (by decide) (fun hc => ?_) (fun hc => ?_)
    · replace hf := if_p hc hf
      refine lv_iconst (v := (-1)) hx hb d_MO_pour_30 (by decide) ?_
      obtain rfl := Option.some.inj hf
      exact hq _ _ _ _ d_MO_pour_31 hP hS
    · replace hf := if_n hc hf
      refine lv_iload_n hx hb d_MO_pour_18 rfl (lv_at hl 2 rfl) ?_
      refine lv_i2l hx hb d_MO_pour_19 rfl ?_
      refine lv_lconst (v := 0) hx hb d_MO_pour_20 (by decide) ?_
      refine lv_ldc2 (v := 1000000) hx hb hown (hts _ in_695) d_MO_pour_21 ?_
      refine ki (ks (As := [.long x2.toInt64, .long 0, .long 1000000]) (rest := []) ⟨hx, hb, hml, hown, hts⟩ (cw_MO_80 hts ⟨Nat.le_of_ble_eq_true rfl, Nat.le_of_ble_eq_true rfl⟩) (c_MO_in l D adr cA μ ν x2.toInt64 0 1000000) hG hP rfl hl.1 (Nat.le_of_ble_eq_true rfl) d_MO_pour_24) hS (fun H locs hP hS => ?_)
      refine lv_if_ne (tgt := 32) hx hb d_MO_pour_27 (by decide) (fun hc => ?_) (fun hc => ?_)
      · replace hf := if_n hc hf
        refine lv_aload_n hx hb d_MO_pour_32 rfl (lv_at hl 0 rfl) ?_
        refine lv_dup hx hb d_MO_pour_33 rfl ?_
        refine g_MO_poured hx hb hts hown hG hP (hts _ in_582) d_MO_pour_34 ?_
        refine lv_iload_n hx hb d_MO_pour_37 rfl (lv_at hl 2 rfl) ?_
        refine lv_i2l hx hb d_MO_pour_38 rfl ?_
        refine lv_ladd hx hb d_MO_pour_39 ?_
        refine p_MO_poured hx hb hts hown hG hP hS (hts _ in_582) d_MO_pour_40 (fun H locs hP hS => ?_)
        refine lv_iload_n hx hb d_MO_pour_43 rfl (lv_at hl 2 rfl) ?_
        refine lv_istore_n (lv' := [(3, .int x2), (0, .ref (adr 63)), (1, .int x1), (2, .int x2)]) hx hb d_MO_pour_44 rfl hl (by decide) rfl (fun ls hl => ?_)
        refine lv_aload_n hx hb d_MO_pour_45 rfl (lv_at hl 1 rfl) ?_
        refine g_MO_wayEnd hx hb hts hown hG hP (hts _ in_570) d_MO_pour_46 ?_
        refine lv_iload_n hx hb d_MO_pour_49 rfl (lv_at hl 2 rfl) ?_
        replace hf := G_some hf
        obtain ⟨hi2, hf⟩ := hf
        refine r_iald hx hb hG hP 70 64 (f := (sJ ν 63 21 ((ν.2 63 21) + x2.toInt64)).1 70) (by decide) (wc_M (by decide) rfl) hi2 d_MO_pour_50 ?_
        refine lv_istore (lv' := [(4, .int ((sJ ν 63 21 ((ν.2 63 21) + x2.toInt64)).1 70 x1.toNatClampNeg)), (3, .int x2), (0, .ref (adr 63)), (1, .int x1), (2, .int x2)]) hx hb d_MO_pour_51 hl (by decide) rfl (fun ls hl => ?_)
        refine lv_iconst (v := 0) hx hb d_MO_pour_53 (by decide) ?_
        refine lv_istore (lv' := [(5, .int 0), (4, .int ((sJ ν 63 21 ((ν.2 63 21) + x2.toInt64)).1 70 x1.toNatClampNeg)), (3, .int x2), (0, .ref (adr 63)), (1, .int x1), (2, .int x2)]) hx hb d_MO_pour_54 hl (by decide) rfl (fun ls hl => ?_)
        refine lv_iload hx hb d_MO_pour_56 (lv_at hl 1 rfl) ?_
        refine lv_bipush (v := (-5)) hx hb d_MO_pour_58 (by decide) ?_
        replace hf := B_some hf
        obtain ⟨v3, hv3, hf⟩ := hf
        have hJ : ∀ (H : Heap) (locs : List Loc) (ls : Array Slot), va_P D cls (wld adr cA μ (sJ ν 63 21 ((ν.2 63 21) + x2.toInt64))) H → va_S (AA adr) s.heap H locs → lv_has ls 11 [(0, .ref (adr 63)), (3, .int x2), (4, .int ((sJ ν 63 21 ((ν.2 63 21) + x2.toInt64)).1 70 x1.toNatClampNeg)), (5, .int 0)] → W p l e rm_MO_pour s m args below meth c H locs 0 0 Q (F0 m 74 ls [.int v3]) := by
          clear hv3
          intro H locs ls hP hS hl
          refine lv_istore (lv' := [(6, .int v3), (0, .ref (adr 63)), (3, .int x2), (4, .int ((sJ ν 63 21 ((ν.2 63 21) + x2.toInt64)).1 70 x1.toNatClampNeg)), (5, .int 0)]) hx hb d_MO_pour_74 hl (by decide) rfl (fun ls hl => ?_)
          replace hf := B_some hf
          obtain ⟨v36, hv36, hf⟩ := hf
          refine w_MO_pour_L76   C hG v36 ?_ FU _ _ _ _ _ hv36 hP hS (lv_sub hl [1, 2, 3, 4, 0] rfl)
          clear hv36 hP hS hl
          intro H locs ls hP hS hl
          refine lv_aload_n hx hb d_MO_pour_339 rfl (lv_at hl 0 rfl) ?_
          refine lv_dup hx hb d_MO_pour_340 rfl ?_
          refine g_MO_gone hx hb hts hown hG hP (hts _ in_581) d_MO_pour_341 ?_
          refine lv_iload hx hb d_MO_pour_344 (lv_at hl 1 rfl) ?_
          refine lv_i2l hx hb d_MO_pour_346 rfl ?_
          refine lv_ladd hx hb d_MO_pour_347 ?_
          refine p_MO_gone hx hb hts hown hG hP hS (hts _ in_581) d_MO_pour_348 (fun H locs hP hS => ?_)
          refine lv_iload hx hb d_MO_pour_351 (lv_at hl 1 rfl) ?_
          obtain rfl := Option.some.inj hf
          exact hq _ _ _ _ d_MO_pour_353 hP hS
        clear hf
        have hf := hv3
        clear hv3
        refine lv_icmp_ne (tgt := 68) hx hb d_MO_pour_60 (by decide) (fun hc => ?_) (fun hc => ?_)
        · replace hf := if_n hc hf
          refine lv_aload_n hx hb d_MO_pour_68 rfl (lv_at hl 3 rfl) ?_
          refine lv_iload hx hb d_MO_pour_69 (lv_at hl 1 rfl) ?_
          replace hf := B_some hf
          obtain ⟨v4, hv4, hf⟩ := hf
          refine ki (kv (As := [.int ((sJ ν 63 21 ((ν.2 63 21) + x2.toInt64)).1 70 x1.toNatClampNeg)]) (rest := []) ⟨hx, hb, hml, hown, hts⟩ (cw_MO_190 hts ⟨Nat.le_of_ble_eq_true rfl, Nat.le_of_ble_eq_true rfl⟩) (c_MO_lakeAt l D adr cA μ (sJ ν 63 21 ((ν.2 63 21) + x2.toInt64)) ((sJ ν 63 21 ((ν.2 63 21) + x2.toInt64)).1 70 x1.toNatClampNeg) hv4) hG hP (rc_o (q := 63) (ci := 5) hG hP (by decide) (wc_M (by decide) rfl) rfl) rfl hl.1 (Nat.le_of_ble_eq_true rfl) d_MO_pour_71) hS (fun H locs hP hS => ?_)
          obtain rfl := Option.some.inj hf
          exact hJ _ _ _ hP hS (lv_sub hl [3, 2, 1, 0] rfl)
        · replace hf := if_p hc hf
          refine lv_bipush (v := (-3)) hx hb d_MO_pour_63 (by decide) ?_
          refine lv_goto (tgt := 74) hx hb d_MO_pour_65 (by decide) ?_
          obtain rfl := Option.some.inj hf
          exact hJ _ _ _ hP hS (lv_sub hl [3, 2, 1, 0] rfl)
      · replace hf := if_p hc hf
        refine lv_iconst (v := (-1)) hx hb d_MO_pour_30 (by decide) ?_
        obtain rfl := Option.some.inj hf
        exact hq _ _ _ _ d_MO_pour_31 hP hS
  · replace hf := if_p hc hf
    refine lv_bipush (v := (-2)) hx hb d_MO_pour_7 (by decide) ?_
    obtain rfl := Option.some.inj hf
    exact hq _ _ _ _ d_MO_pour_9 hP hS
theorem c_MO_pour (l : Launch) (D : va_G) (adr : Nat → Nat) (cA : Nat → ClassId) (μ ν : Mem) (x1 : Int32) (x2 : Int32)  {res : Int32 × Mem} (hf : f_MO_pour ν x1 x2 = some res) : Met l y_MO_pour (Cond.code y_MO_pour prog_7_method_41_code 11 (Option.some Jvm.ClassFile.FieldType.int) :: lw_ok) rm_MO_pour (va_Pc [.ref (adr 63), .int x1, .int x2] (Wd D adr cA μ ν)) (QI D adr cA res.1 μ res.2) 0 0 (AA adr) :=
  met_of (own := "LakeReliefModel") rfl rfl (Nat.le_of_ble_eq_true rfl) (fun p e s m below meth c C hG hP hS ls hl => w_MO_pour x1 x2  C hG hf (fun pc ls H locs hd hP hS => ret_i C.1 C.2.1 C.2.2.2.2.2.1 C.2.2.2.2.2.2 hG hd hP hS) hP hS hl)
end X_MO_pour
