section X_MO_common
variable {p : Program} {l : Launch} {e : Env} {s : State} {m : MethodId} {args : Array Value} {below : List Frame} {meth : Method} {c : Code} {Q : State → Prop}
variable {D : va_G} {adr : Nat → Nat} {cA : Nat → ClassId} {μ ν : Mem}
theorem d_MO_common_0 : decode prog_7_method_42_code 0 = .ok (.iload_n 0, 1) := by decide +kernel
theorem d_MO_common_1 : decode prog_7_method_42_code 1 = .ok (.ifCond .ge 8, 3) := by decide +kernel
theorem d_MO_common_4 : decode prog_7_method_42_code 4 = .ok (.iload_n 0, 1) := by decide +kernel
theorem d_MO_common_5 : decode prog_7_method_42_code 5 = .ok (.ineg, 1) := by decide +kernel
theorem d_MO_common_6 : decode prog_7_method_42_code 6 = .ok (.goto 4, 3) := by decide +kernel
theorem d_MO_common_9 : decode prog_7_method_42_code 9 = .ok (.iload_n 0, 1) := by decide +kernel
theorem d_MO_common_10 : decode prog_7_method_42_code 10 = .ok (.istore_n 2, 1) := by decide +kernel
theorem d_MO_common_11 : decode prog_7_method_42_code 11 = .ok (.iload_n 1, 1) := by decide +kernel
theorem d_MO_common_12 : decode prog_7_method_42_code 12 = .ok (.istore_n 3, 1) := by decide +kernel
theorem d_MO_common_13 : decode prog_7_method_42_code 13 = .ok (.iload_n 3, 1) := by decide +kernel
theorem d_MO_common_14 : decode prog_7_method_42_code 14 = .ok (.ifCond .eq 16, 3) := by decide +kernel
theorem d_MO_common_17 : decode prog_7_method_42_code 17 = .ok (.iload_n 2, 1) := by decide +kernel
theorem d_MO_common_18 : decode prog_7_method_42_code 18 = .ok (.iload_n 3, 1) := by decide +kernel
theorem d_MO_common_19 : decode prog_7_method_42_code 19 = .ok (.irem, 1) := by decide +kernel
theorem d_MO_common_20 : decode prog_7_method_42_code 20 = .ok (.istore 4, 2) := by decide +kernel
theorem d_MO_common_22 : decode prog_7_method_42_code 22 = .ok (.iload_n 3, 1) := by decide +kernel
theorem d_MO_common_23 : decode prog_7_method_42_code 23 = .ok (.istore_n 2, 1) := by decide +kernel
theorem d_MO_common_24 : decode prog_7_method_42_code 24 = .ok (.iload 4, 2) := by decide +kernel
theorem d_MO_common_26 : decode prog_7_method_42_code 26 = .ok (.istore_n 3, 1) := by decide +kernel
theorem d_MO_common_27 : decode prog_7_method_42_code 27 = .ok (.goto (-14), 3) := by decide +kernel
theorem d_MO_common_30 : decode prog_7_method_42_code 30 = .ok (.iload_n 2, 1) := by decide +kernel
theorem d_MO_common_31 : decode prog_7_method_42_code 31 = .ok (.ireturn, 1) := by decide +kernel
set_option maxHeartbeats 4000000 in
set_option maxRecDepth 100000 in
theorem w_MO_common_L13   (C : Cx prog_7_method_42_code 5 "LakeReliefModel" (Option.some Jvm.ClassFile.FieldType.int) p s m args meth c) (hG : Geo D adr cA s) (v : Int32) (hE : ∀ (H : Heap) (locs : List Loc) (ls : Array Slot), va_P D cls (wld adr cA μ ν) H → va_S (AA adr) s.heap H locs → lv_has ls 5 [(2, .int v)] → W p l e rm_MO_common s m args below meth c H locs 0 0 Q (F0 m 30 ls [])) : ∀ (n : Nat) (y2 : Int32) (y3 : Int32), f_MO_common_L13 n y2 y3 = some v → ∀ {H : Heap} {locs : List Loc} {ls : Array Slot}, va_P D cls (wld adr cA μ ν) H → va_S (AA adr) s.heap H locs → lv_has ls 5 [(2, .int y2), (3, .int y3)] → W p l e rm_MO_common s m args below meth c H locs 0 0 Q (F0 m 13 ls []) := by
  obtain ⟨hx, hb, hml, hown, hts, hr, hlocks⟩ := id C
  intro n
  induction n with
  | zero => intro y2 y3 hf; rw [f_MO_common_L13.eq_1] at hf; cases hf
  | succ n ih =>
    intro y2 y3 hf H locs ls hP hS hl
    rw [f_MO_common_L13.eq_2] at hf
    refine lv_iload_n hx hb d_MO_common_13 rfl (lv_at hl 1 rfl) ?_
    refine lv_if_eq (tgt := 30) hx hb d_MO_common_14 (by decide) (fun hc => ?_) (fun hc => ?_)
    · replace hf := if_p hc hf
      obtain rfl := Option.some.inj hf
      exact hE _ _ _ hP hS (lv_sub hl [0] rfl)
    · replace hf := if_n hc hf
      refine lv_iload_n hx hb d_MO_common_17 rfl (lv_at hl 0 rfl) ?_
      refine lv_iload_n hx hb d_MO_common_18 rfl (lv_at hl 1 rfl) ?_
      replace hf := Zg_some hf
      obtain ⟨hz2, hf⟩ := hf
      refine lv_irem hx hb d_MO_common_19 hz2 ?_
      refine lv_istore (lv' := [(4, .int (y2 - y2 / y3 * y3)), (2, .int y2), (3, .int y3)]) hx hb d_MO_common_20 hl (by decide) rfl (fun ls hl => ?_)
      refine lv_iload_n hx hb d_MO_common_22 rfl (lv_at hl 2 rfl) ?_
      refine lv_istore_n (lv' := [(2, .int y3), (4, .int (y2 - y2 / y3 * y3)), (3, .int y3)]) hx hb d_MO_common_23 rfl hl (by decide) rfl (fun ls hl => ?_)
      refine lv_iload hx hb d_MO_common_24 (lv_at hl 1 rfl) ?_
      refine lv_istore_n (lv' := [(3, .int (y2 - y2 / y3 * y3)), (2, .int y3), (4, .int (y2 - y2 / y3 * y3))]) hx hb d_MO_common_26 rfl hl (by decide) rfl (fun ls hl => ?_)
      refine lv_goto (tgt := 13) hx hb d_MO_common_27 (by decide) ?_
      exact ih _ _ hf hP hS (lv_sub hl [1, 0] rfl)
set_option maxHeartbeats 4000000 in
set_option maxRecDepth 100000 in
theorem w_MO_common (x0 : Int32) (x1 : Int32)  (C : Cx prog_7_method_42_code 5 "LakeReliefModel" (Option.some Jvm.ClassFile.FieldType.int) p s m args meth c) (hG : Geo D adr cA s) {res : Int32} (hf : f_MO_common x0 x1 = some res) (hq : ∀ (pc : Nat) (ls : Array Slot) (H : Heap) (locs : List Loc), decode prog_7_method_42_code pc = .ok (.ireturn, 1) → va_P D cls (wld adr cA μ ν) H → va_S (AA adr) s.heap H locs → W p l e rm_MO_common s m args below meth c H locs 0 0 Q (F0 m pc ls [.int res])) {H : Heap} {locs : List Loc} {ls : Array Slot} (hP : va_P D cls (wld adr cA μ ν) H) (hS : va_S (AA adr) s.heap H locs) (hl : lv_has ls 5 [(0, .int x0), (1, .int x1)]) : W p l e rm_MO_common s m args below meth c H locs 0 0 Q (F0 m 0 ls []) := by
  obtain ⟨hx, hb, hml, hown, hts, hr, hlocks⟩ := id C
  unfold f_MO_common at hf
  refine lv_iload_n hx hb d_MO_common_0 rfl (lv_at hl 0 rfl) ?_
  replace hf := B_some hf
  obtain ⟨v1, hv1, hf⟩ := hf
  have hJ : ∀ (H : Heap) (locs : List Loc) (ls : Array Slot), va_P D cls (wld adr cA μ ν) H → va_S (AA adr) s.heap H locs → lv_has ls 5 [(1, .int x1)] → W p l e rm_MO_common s m args below meth c H locs 0 0 Q (F0 m 10 ls [.int v1]) := by
    clear hv1
    intro H locs ls hP hS hl
    refine lv_istore_n (lv' := [(2, .int v1), (1, .int x1)]) hx hb d_MO_common_10 rfl hl (by decide) rfl (fun ls hl => ?_)
    refine lv_iload_n hx hb d_MO_common_11 rfl (lv_at hl 1 rfl) ?_
    refine lv_istore_n (lv' := [(3, .int x1), (2, .int v1), (1, .int x1)]) hx hb d_MO_common_12 rfl hl (by decide) rfl (fun ls hl => ?_)
    replace hf := B_some hf
    obtain ⟨v3, hv3, hf⟩ := hf
    refine w_MO_common_L13   C hG v3 ?_ FU _ _ hv3 hP hS (lv_sub hl [1, 0] rfl)
    clear hv3 hP hS hl
    intro H locs ls hP hS hl
    refine lv_iload_n hx hb d_MO_common_30 rfl (lv_at hl 0 rfl) ?_
    obtain rfl := Option.some.inj hf
    exact hq _ _ _ _ d_MO_common_31 hP hS
  clear hf
  have hf := hv1
  clear hv1
  refine lv_if_ge (tgt := 9) hx hb d_MO_common_1 (by decide) (fun hc => ?_) (fun hc => ?_)
  · replace hf := if_p hc hf
    refine lv_iload_n hx hb d_MO_common_9 rfl (lv_at hl 0 rfl) ?_
    obtain rfl := Option.some.inj hf
    exact hJ _ _ _ hP hS (lv_sub hl [1] rfl)
  · replace hf := if_n hc hf
    refine lv_iload_n hx hb d_MO_common_4 rfl (lv_at hl 0 rfl) ?_
    refine lv_ineg hx hb d_MO_common_5 ?_
    refine lv_goto (tgt := 10) hx hb d_MO_common_6 (by decide) ?_
    obtain rfl := Option.some.inj hf
    exact hJ _ _ _ hP hS (lv_sub hl [1] rfl)
theorem c_MO_common (l : Launch) (D : va_G) (adr : Nat → Nat) (cA : Nat → ClassId) (μ ν : Mem) (x0 : Int32) (x1 : Int32)  {res : Int32} (hf : f_MO_common x0 x1 = some res) : Met l y_MO_common (Cond.code y_MO_common prog_7_method_42_code 5 (Option.some Jvm.ClassFile.FieldType.int) :: lw_ok) rm_MO_common (va_Pc [.int x0, .int x1] (Wd D adr cA μ ν)) (QI D adr cA res μ ν) 0 0 (AA adr) :=
  met_of (own := "LakeReliefModel") rfl rfl (Nat.le_of_ble_eq_true rfl) (fun p e s m below meth c C hG hP hS ls hl => w_MO_common x0 x1  C hG hf (fun pc ls H locs hd hP hS => ret_i C.1 C.2.1 C.2.2.2.2.2.1 C.2.2.2.2.2.2 hG hd hP hS) hP hS hl)
end X_MO_common
section X_MO_layHeights
variable {p : Program} {l : Launch} {e : Env} {s : State} {m : MethodId} {args : Array Value} {below : List Frame} {meth : Method} {c : Code} {Q : State → Prop}
variable {D : va_G} {adr : Nat → Nat} {cA : Nat → ClassId} {μ ν : Mem}
theorem d_MO_layHeights_0 : decode prog_7_method_43_code 0 = .ok (.iconst 0, 1) := by decide +kernel
theorem d_MO_layHeights_1 : decode prog_7_method_43_code 1 = .ok (.istore_n 2, 1) := by decide +kernel
theorem d_MO_layHeights_2 : decode prog_7_method_43_code 2 = .ok (.iconst 0, 1) := by decide +kernel
theorem d_MO_layHeights_3 : decode prog_7_method_43_code 3 = .ok (.istore_n 3, 1) := by decide +kernel
theorem d_MO_layHeights_4 : decode prog_7_method_43_code 4 = .ok (.iload_n 3, 1) := by decide +kernel
theorem d_MO_layHeights_5 : decode prog_7_method_43_code 5 = .ok (.aload_n 0, 1) := by decide +kernel
theorem d_MO_layHeights_6 : decode prog_7_method_43_code 6 = .ok (.getfield 102, 3) := by decide +kernel
theorem d_MO_layHeights_9 : decode prog_7_method_43_code 9 = .ok (.if_icmp .ge 82, 3) := by decide +kernel
theorem d_MO_layHeights_12 : decode prog_7_method_43_code 12 = .ok (.aload_n 0, 1) := by decide +kernel
theorem d_MO_layHeights_13 : decode prog_7_method_43_code 13 = .ok (.iload_n 1, 1) := by decide +kernel
theorem d_MO_layHeights_14 : decode prog_7_method_43_code 14 = .ok (.iload_n 3, 1) := by decide +kernel
theorem d_MO_layHeights_15 : decode prog_7_method_43_code 15 = .ok (.invokevirtual 180, 3) := by decide +kernel
theorem d_MO_layHeights_18 : decode prog_7_method_43_code 18 = .ok (.ifCond .eq 67, 3) := by decide +kernel
theorem d_MO_layHeights_21 : decode prog_7_method_43_code 21 = .ok (.iload_n 2, 1) := by decide +kernel
theorem d_MO_layHeights_22 : decode prog_7_method_43_code 22 = .ok (.istore 4, 2) := by decide +kernel
theorem d_MO_layHeights_24 : decode prog_7_method_43_code 24 = .ok (.iload 4, 2) := by decide +kernel
theorem d_MO_layHeights_26 : decode prog_7_method_43_code 26 = .ok (.ifCond .le 43, 3) := by decide +kernel
theorem d_MO_layHeights_29 : decode prog_7_method_43_code 29 = .ok (.aload_n 0, 1) := by decide +kernel
theorem d_MO_layHeights_30 : decode prog_7_method_43_code 30 = .ok (.getfield 72, 3) := by decide +kernel
theorem d_MO_layHeights_33 : decode prog_7_method_43_code 33 = .ok (.iload 4, 2) := by decide +kernel
theorem d_MO_layHeights_35 : decode prog_7_method_43_code 35 = .ok (.iconst 1, 1) := by decide +kernel
theorem d_MO_layHeights_36 : decode prog_7_method_43_code 36 = .ok (.isub, 1) := by decide +kernel
theorem d_MO_layHeights_37 : decode prog_7_method_43_code 37 = .ok (.iaload, 1) := by decide +kernel
theorem d_MO_layHeights_38 : decode prog_7_method_43_code 38 = .ok (.aload_n 0, 1) := by decide +kernel
theorem d_MO_layHeights_39 : decode prog_7_method_43_code 39 = .ok (.getfield 23, 3) := by decide +kernel
theorem d_MO_layHeights_42 : decode prog_7_method_43_code 42 = .ok (.iload_n 3, 1) := by decide +kernel
theorem d_MO_layHeights_43 : decode prog_7_method_43_code 43 = .ok (.iaload, 1) := by decide +kernel
theorem d_MO_layHeights_44 : decode prog_7_method_43_code 44 = .ok (.if_icmp .le 25, 3) := by decide +kernel
theorem d_MO_layHeights_47 : decode prog_7_method_43_code 47 = .ok (.aload_n 0, 1) := by decide +kernel
theorem d_MO_layHeights_48 : decode prog_7_method_43_code 48 = .ok (.getfield 72, 3) := by decide +kernel
theorem d_MO_layHeights_51 : decode prog_7_method_43_code 51 = .ok (.iload 4, 2) := by decide +kernel
theorem d_MO_layHeights_53 : decode prog_7_method_43_code 53 = .ok (.aload_n 0, 1) := by decide +kernel
theorem d_MO_layHeights_54 : decode prog_7_method_43_code 54 = .ok (.getfield 72, 3) := by decide +kernel
theorem d_MO_layHeights_57 : decode prog_7_method_43_code 57 = .ok (.iload 4, 2) := by decide +kernel
theorem d_MO_layHeights_59 : decode prog_7_method_43_code 59 = .ok (.iconst 1, 1) := by decide +kernel
theorem d_MO_layHeights_60 : decode prog_7_method_43_code 60 = .ok (.isub, 1) := by decide +kernel
theorem d_MO_layHeights_61 : decode prog_7_method_43_code 61 = .ok (.iaload, 1) := by decide +kernel
theorem d_MO_layHeights_62 : decode prog_7_method_43_code 62 = .ok (.iastore, 1) := by decide +kernel
theorem d_MO_layHeights_63 : decode prog_7_method_43_code 63 = .ok (.iinc 4 (-1), 3) := by decide +kernel
theorem d_MO_layHeights_66 : decode prog_7_method_43_code 66 = .ok (.goto (-42), 3) := by decide +kernel
theorem d_MO_layHeights_69 : decode prog_7_method_43_code 69 = .ok (.aload_n 0, 1) := by decide +kernel
theorem d_MO_layHeights_70 : decode prog_7_method_43_code 70 = .ok (.getfield 72, 3) := by decide +kernel
theorem d_MO_layHeights_73 : decode prog_7_method_43_code 73 = .ok (.iload 4, 2) := by decide +kernel
theorem d_MO_layHeights_75 : decode prog_7_method_43_code 75 = .ok (.aload_n 0, 1) := by decide +kernel
theorem d_MO_layHeights_76 : decode prog_7_method_43_code 76 = .ok (.getfield 23, 3) := by decide +kernel
theorem d_MO_layHeights_79 : decode prog_7_method_43_code 79 = .ok (.iload_n 3, 1) := by decide +kernel
theorem d_MO_layHeights_80 : decode prog_7_method_43_code 80 = .ok (.iaload, 1) := by decide +kernel
theorem d_MO_layHeights_81 : decode prog_7_method_43_code 81 = .ok (.iastore, 1) := by decide +kernel
theorem d_MO_layHeights_82 : decode prog_7_method_43_code 82 = .ok (.iinc 2 1, 3) := by decide +kernel
theorem d_MO_layHeights_85 : decode prog_7_method_43_code 85 = .ok (.iinc 3 1, 3) := by decide +kernel
theorem d_MO_layHeights_88 : decode prog_7_method_43_code 88 = .ok (.goto (-84), 3) := by decide +kernel
theorem d_MO_layHeights_91 : decode prog_7_method_43_code 91 = .ok (.iload_n 2, 1) := by decide +kernel
theorem d_MO_layHeights_92 : decode prog_7_method_43_code 92 = .ok (.ireturn, 1) := by decide +kernel
set_option maxHeartbeats 4000000 in
set_option maxRecDepth 100000 in
theorem w_MO_layHeights_L24 (y1 : Int32) (y2 : Int32) (y3 : Int32)  (C : Cx prog_7_method_43_code 5 "LakeReliefModel" (Option.some Jvm.ClassFile.FieldType.int) p s m args meth c) (hG : Geo D adr cA s) (v : Int32 × Mem) (hE : ∀ (H : Heap) (locs : List Loc) (ls : Array Slot), va_P D cls (wld adr cA μ v.2) H → va_S (AA adr) s.heap H locs → lv_has ls 5 [(0, .ref (adr 63)), (1, .int y1), (2, .int y2), (3, .int y3), (4, .int v.1)] → W p l e rm_MO_layHeights s m args below meth c H locs 0 0 Q (F0 m 69 ls [])) : ∀ (n : Nat) (ν : Mem) (y4 : Int32), f_MO_layHeights_L24 y1 y2 y3 n ν y4 = some v → ∀ {H : Heap} {locs : List Loc} {ls : Array Slot}, va_P D cls (wld adr cA μ ν) H → va_S (AA adr) s.heap H locs → lv_has ls 5 [(0, .ref (adr 63)), (1, .int y1), (2, .int y2), (3, .int y3), (4, .int y4)] → W p l e rm_MO_layHeights s m args below meth c H locs 0 0 Q (F0 m 24 ls []) := by
  obtain ⟨hx, hb, hml, hown, hts, hr, hlocks⟩ := id C
  intro n
  induction n with
  | zero => intro ν y4 hf; rw [f_MO_layHeights_L24.eq_1] at hf; cases hf
  | succ n ih =>
    intro ν y4 hf H locs ls hP hS hl
    rw [f_MO_layHeights_L24.eq_2] at hf
    refine lv_iload hx hb d_MO_layHeights_24 (lv_at hl 4 rfl) ?_
    refine lv_if_le (tgt := 69) hx hb d_MO_layHeights_26 (by decide) (fun hc => ?_) (fun hc => ?_)
    · replace hf := if_p hc hf
      obtain rfl := Option.some.inj hf
      exact hE _ _ _ hP hS (lv_sub hl [0, 1, 2, 3, 4] rfl)
    · replace hf := if_n hc hf
      refine lv_aload_n hx hb d_MO_layHeights_29 rfl (lv_at hl 0 rfl) ?_
      refine g_MO_heights hx hb hts hown hG hP (hts _ in_588) d_MO_layHeights_30 ?_
      refine lv_iload hx hb d_MO_layHeights_33 (lv_at hl 4 rfl) ?_
      refine lv_iconst (v := 1) hx hb d_MO_layHeights_35 (by decide) ?_
      refine lv_isub hx hb d_MO_layHeights_36 ?_
      replace hf := G_some hf
      obtain ⟨hi3, hf⟩ := hf
      refine r_iald hx hb hG hP 84 64 (f := ν.1 84) (by decide) (wc_M (by decide) rfl) hi3 d_MO_layHeights_37 ?_
      refine lv_aload_n hx hb d_MO_layHeights_38 rfl (lv_at hl 0 rfl) ?_
      refine g_MO_height hx hb hts hown hG hP (hts _ in_568) d_MO_layHeights_39 ?_
      refine lv_iload_n hx hb d_MO_layHeights_42 rfl (lv_at hl 3 rfl) ?_
      replace hf := G_some hf
      obtain ⟨hi4, hf⟩ := hf
      refine r_iald hx hb hG hP 68 64 (f := ν.1 68) (by decide) (wc_M (by decide) rfl) hi4 d_MO_layHeights_43 ?_
      refine lv_icmp_le (tgt := 69) hx hb d_MO_layHeights_44 (by decide) (fun hc => ?_) (fun hc => ?_)
      · replace hf := if_p hc hf
        obtain rfl := Option.some.inj hf
        exact hE _ _ _ hP hS (lv_sub hl [0, 1, 2, 3, 4] rfl)
      · replace hf := if_n hc hf
        refine lv_aload_n hx hb d_MO_layHeights_47 rfl (lv_at hl 0 rfl) ?_
        refine g_MO_heights hx hb hts hown hG hP (hts _ in_588) d_MO_layHeights_48 ?_
        refine lv_iload hx hb d_MO_layHeights_51 (lv_at hl 4 rfl) ?_
        refine lv_aload_n hx hb d_MO_layHeights_53 rfl (lv_at hl 0 rfl) ?_
        refine g_MO_heights hx hb hts hown hG hP (hts _ in_588) d_MO_layHeights_54 ?_
        refine lv_iload hx hb d_MO_layHeights_57 (lv_at hl 4 rfl) ?_
        refine lv_iconst (v := 1) hx hb d_MO_layHeights_59 (by decide) ?_
        refine lv_isub hx hb d_MO_layHeights_60 ?_
        replace hf := G_some hf
        obtain ⟨hi5, hf⟩ := hf
        refine r_iald hx hb hG hP 84 64 (f := ν.1 84) (by decide) (wc_M (by decide) rfl) hi5 d_MO_layHeights_61 ?_
        replace hf := G_some hf
        obtain ⟨hi6, hf⟩ := hf
        refine rM_iast hx hb hG hP hS 84 64 (by decide) (by decide) (fun _ _ => rfl) hi6 d_MO_layHeights_62 (fun H locs hP hS => ?_)
        refine lv_iinc (v := (y4 + (-1))) (lv' := [(4, .int (y4 + (-1))), (0, .ref (adr 63)), (1, .int y1), (2, .int y2), (3, .int y3)]) hx hb d_MO_layHeights_63 hl (k := 4) rfl rfl (by decide) rfl (fun ls hl => ?_)
        refine lv_goto (tgt := 24) hx hb d_MO_layHeights_66 (by decide) ?_
        exact ih _ _ hf hP hS (lv_sub hl [1, 2, 3, 4, 0] rfl)
set_option maxHeartbeats 4000000 in
set_option maxRecDepth 100000 in
theorem w_MO_layHeights_L4 (y1 : Int32)  (C : Cx prog_7_method_43_code 5 "LakeReliefModel" (Option.some Jvm.ClassFile.FieldType.int) p s m args meth c) (hG : Geo D adr cA s) (v : Int32 × Mem) (hE : ∀ (H : Heap) (locs : List Loc) (ls : Array Slot), va_P D cls (wld adr cA μ v.2) H → va_S (AA adr) s.heap H locs → lv_has ls 5 [(2, .int v.1)] → W p l e rm_MO_layHeights s m args below meth c H locs 0 0 Q (F0 m 91 ls [])) : ∀ (n : Nat) (ν : Mem) (y2 : Int32) (y3 : Int32), f_MO_layHeights_L4 y1 n ν y2 y3 = some v → ∀ {H : Heap} {locs : List Loc} {ls : Array Slot}, va_P D cls (wld adr cA μ ν) H → va_S (AA adr) s.heap H locs → lv_has ls 5 [(0, .ref (adr 63)), (1, .int y1), (2, .int y2), (3, .int y3)] → W p l e rm_MO_layHeights s m args below meth c H locs 0 0 Q (F0 m 4 ls []) := by
  obtain ⟨hx, hb, hml, hown, hts, hr, hlocks⟩ := id C
  intro n
  induction n with
  | zero => intro ν y2 y3 hf; rw [f_MO_layHeights_L4.eq_1] at hf; cases hf
  | succ n ih =>
    intro ν y2 y3 hf H locs ls hP hS hl
    rw [f_MO_layHeights_L4.eq_2] at hf
    refine lv_iload_n hx hb d_MO_layHeights_4 rfl (lv_at hl 3 rfl) ?_
    refine lv_aload_n hx hb d_MO_layHeights_5 rfl (lv_at hl 0 rfl) ?_
    refine g_MO_fields hx hb hts hown hG hP (hts _ in_566) d_MO_layHeights_6 ?_
    refine lv_icmp_ge (tgt := 91) hx hb d_MO_layHeights_9 (by decide) (fun hc => ?_) (fun hc => ?_)
    · replace hf := if_p hc hf
      obtain rfl := Option.some.inj hf
      exact hE _ _ _ hP hS (lv_sub hl [2] rfl)
    · replace hf := if_n hc hf
      refine lv_aload_n hx hb d_MO_layHeights_12 rfl (lv_at hl 0 rfl) ?_
      refine lv_iload_n hx hb d_MO_layHeights_13 rfl (lv_at hl 1 rfl) ?_
      refine lv_iload_n hx hb d_MO_layHeights_14 rfl (lv_at hl 3 rfl) ?_
      replace hf := B_some hf
      obtain ⟨v1, hv1, hf⟩ := hf
      refine ki (kv (As := [.int y1, .int y3]) (rest := []) ⟨hx, hb, hml, hown, hts⟩ (cw_MO_180 hts ⟨Nat.le_of_ble_eq_true rfl, Nat.le_of_ble_eq_true rfl⟩) (c_MO_isOf l D adr cA μ ν y1 y3 hv1) hG hP (rc_o (q := 63) (ci := 5) hG hP (by decide) (wc_M (by decide) rfl) rfl) rfl hl.1 (Nat.le_of_ble_eq_true rfl) d_MO_layHeights_15) hS (fun H locs hP hS => ?_)
      replace hf := B_some hf
      obtain ⟨v2, hv2, hf⟩ := hf
      have hJ : ∀ (H : Heap) (locs : List Loc) (ls : Array Slot), va_P D cls (wld adr cA μ v2.2) H → va_S (AA adr) s.heap H locs → lv_has ls 5 [(0, .ref (adr 63)), (1, .int y1), (2, .int v2.1), (3, .int y3)] → W p l e rm_MO_layHeights s m args below meth c H locs 0 0 Q (F0 m 85 ls []) := by
        clear hv2
        intro H locs ls hP hS hl
        refine lv_iinc (v := (y3 + 1)) (lv' := [(3, .int (y3 + 1)), (0, .ref (adr 63)), (1, .int y1), (2, .int v2.1)]) hx hb d_MO_layHeights_85 hl (k := 3) rfl rfl (by decide) rfl (fun ls hl => ?_)
        refine lv_goto (tgt := 4) hx hb d_MO_layHeights_88 (by decide) ?_
        exact ih _ _ _ hf hP hS (lv_sub hl [1, 2, 3, 0] rfl)
      clear hf
      have hf := hv2
      clear hv2
      refine lv_if_eq (tgt := 85) hx hb d_MO_layHeights_18 (by decide) (fun hc => ?_) (fun hc => ?_)
      · replace hf := if_p hc hf
        obtain rfl := Option.some.inj hf
        exact hJ _ _ _ hP hS (lv_sub hl [0, 1, 2, 3] rfl)
      · replace hf := if_n hc hf
        refine lv_iload_n hx hb d_MO_layHeights_21 rfl (lv_at hl 2 rfl) ?_
        refine lv_istore (lv' := [(4, .int y2), (0, .ref (adr 63)), (1, .int y1), (2, .int y2), (3, .int y3)]) hx hb d_MO_layHeights_22 hl (by decide) rfl (fun ls hl => ?_)
        replace hf := B_some hf
        obtain ⟨v7, hv7, hf⟩ := hf
        refine w_MO_layHeights_L24 y1 y2 y3  C hG v7 ?_ FU _ _ hv7 hP hS (lv_sub hl [1, 2, 3, 4, 0] rfl)
        clear hv7 hP hS hl
        intro H locs ls hP hS hl
        refine lv_aload_n hx hb d_MO_layHeights_69 rfl (lv_at hl 0 rfl) ?_
        refine g_MO_heights hx hb hts hown hG hP (hts _ in_588) d_MO_layHeights_70 ?_
        refine lv_iload hx hb d_MO_layHeights_73 (lv_at hl 4 rfl) ?_
        refine lv_aload_n hx hb d_MO_layHeights_75 rfl (lv_at hl 0 rfl) ?_
        refine g_MO_height hx hb hts hown hG hP (hts _ in_568) d_MO_layHeights_76 ?_
        refine lv_iload_n hx hb d_MO_layHeights_79 rfl (lv_at hl 3 rfl) ?_
        replace hf := G_some hf
        obtain ⟨hi8, hf⟩ := hf
        refine r_iald hx hb hG hP 68 64 (f := v7.2.1 68) (by decide) (wc_M (by decide) rfl) hi8 d_MO_layHeights_80 ?_
        replace hf := G_some hf
        obtain ⟨hi9, hf⟩ := hf
        refine rM_iast hx hb hG hP hS 84 64 (by decide) (by decide) (fun _ _ => rfl) hi9 d_MO_layHeights_81 (fun H locs hP hS => ?_)
        refine lv_iinc (v := (y2 + 1)) (lv' := [(2, .int (y2 + 1)), (0, .ref (adr 63)), (1, .int y1), (3, .int y3), (4, .int v7.1)]) hx hb d_MO_layHeights_82 hl (k := 2) rfl rfl (by decide) rfl (fun ls hl => ?_)
        obtain rfl := Option.some.inj hf
        exact hJ _ _ _ hP hS (lv_sub hl [1, 2, 0, 3] rfl)
set_option maxHeartbeats 4000000 in
set_option maxRecDepth 100000 in
theorem w_MO_layHeights (x1 : Int32)  (C : Cx prog_7_method_43_code 5 "LakeReliefModel" (Option.some Jvm.ClassFile.FieldType.int) p s m args meth c) (hG : Geo D adr cA s) {res : Int32 × Mem} (hf : f_MO_layHeights ν x1 = some res) (hq : ∀ (pc : Nat) (ls : Array Slot) (H : Heap) (locs : List Loc), decode prog_7_method_43_code pc = .ok (.ireturn, 1) → va_P D cls (wld adr cA μ res.2) H → va_S (AA adr) s.heap H locs → W p l e rm_MO_layHeights s m args below meth c H locs 0 0 Q (F0 m pc ls [.int res.1])) {H : Heap} {locs : List Loc} {ls : Array Slot} (hP : va_P D cls (wld adr cA μ ν) H) (hS : va_S (AA adr) s.heap H locs) (hl : lv_has ls 5 [(0, .ref (adr 63)), (1, .int x1)]) : W p l e rm_MO_layHeights s m args below meth c H locs 0 0 Q (F0 m 0 ls []) := by
  obtain ⟨hx, hb, hml, hown, hts, hr, hlocks⟩ := id C
  unfold f_MO_layHeights at hf
  refine lv_iconst (v := 0) hx hb d_MO_layHeights_0 (by decide) ?_
  refine lv_istore_n (lv' := [(2, .int 0), (0, .ref (adr 63)), (1, .int x1)]) hx hb d_MO_layHeights_1 rfl hl (by decide) rfl (fun ls hl => ?_)
  refine lv_iconst (v := 0) hx hb d_MO_layHeights_2 (by decide) ?_
  refine lv_istore_n (lv' := [(3, .int 0), (2, .int 0), (0, .ref (adr 63)), (1, .int x1)]) hx hb d_MO_layHeights_3 rfl hl (by decide) rfl (fun ls hl => ?_)
  replace hf := B_some hf
  obtain ⟨v10, hv10, hf⟩ := hf
  refine w_MO_layHeights_L4 x1  C hG v10 ?_ FU _ _ _ hv10 hP hS (lv_sub hl [2, 3, 1, 0] rfl)
  clear hv10 hP hS hl
  intro H locs ls hP hS hl
  refine lv_iload_n hx hb d_MO_layHeights_91 rfl (lv_at hl 0 rfl) ?_
  obtain rfl := Option.some.inj hf
  exact hq _ _ _ _ d_MO_layHeights_92 hP hS
theorem c_MO_layHeights (l : Launch) (D : va_G) (adr : Nat → Nat) (cA : Nat → ClassId) (μ ν : Mem) (x1 : Int32)  {res : Int32 × Mem} (hf : f_MO_layHeights ν x1 = some res) : Met l y_MO_layHeights (Cond.code y_MO_layHeights prog_7_method_43_code 5 (Option.some Jvm.ClassFile.FieldType.int) :: lw_ok) rm_MO_layHeights (va_Pc [.ref (adr 63), .int x1] (Wd D adr cA μ ν)) (QI D adr cA res.1 μ res.2) 0 0 (AA adr) :=
  met_of (own := "LakeReliefModel") rfl rfl (Nat.le_of_ble_eq_true rfl) (fun p e s m below meth c C hG hP hS ls hl => w_MO_layHeights x1  C hG hf (fun pc ls H locs hd hP hS => ret_i C.1 C.2.1 C.2.2.2.2.2.1 C.2.2.2.2.2.2 hG hd hP hS) hP hS hl)
end X_MO_layHeights
section X_MO_level
variable {p : Program} {l : Launch} {e : Env} {s : State} {m : MethodId} {args : Array Value} {below : List Frame} {meth : Method} {c : Code} {Q : State → Prop}
variable {D : va_G} {adr : Nat → Nat} {cA : Nat → ClassId} {μ ν : Mem}
theorem d_MO_level_0 : decode prog_7_method_44_code 0 = .ok (.aload_n 0, 1) := by decide +kernel
theorem d_MO_level_1 : decode prog_7_method_44_code 1 = .ok (.getfield 156, 3) := by decide +kernel
theorem d_MO_level_4 : decode prog_7_method_44_code 4 = .ok (.ifCond .ne 6, 3) := by decide +kernel
theorem d_MO_level_7 : decode prog_7_method_44_code 7 = .ok (.ldc 183, 2) := by decide +kernel
theorem d_MO_level_9 : decode prog_7_method_44_code 9 = .ok (.ireturn, 1) := by decide +kernel
theorem d_MO_level_10 : decode prog_7_method_44_code 10 = .ok (.aload_n 0, 1) := by decide +kernel
theorem d_MO_level_11 : decode prog_7_method_44_code 11 = .ok (.iload_n 1, 1) := by decide +kernel
theorem d_MO_level_12 : decode prog_7_method_44_code 12 = .ok (.invokevirtual 196, 3) := by decide +kernel
theorem d_MO_level_15 : decode prog_7_method_44_code 15 = .ok (.ifCond .eq 22, 3) := by decide +kernel
theorem d_MO_level_18 : decode prog_7_method_44_code 18 = .ok (.aload_n 0, 1) := by decide +kernel
theorem d_MO_level_19 : decode prog_7_method_44_code 19 = .ok (.getfield 54, 3) := by decide +kernel
theorem d_MO_level_22 : decode prog_7_method_44_code 22 = .ok (.iload_n 1, 1) := by decide +kernel
theorem d_MO_level_23 : decode prog_7_method_44_code 23 = .ok (.baload, 1) := by decide +kernel
theorem d_MO_level_24 : decode prog_7_method_44_code 24 = .ok (.ifCond .eq 13, 3) := by decide +kernel
theorem d_MO_level_27 : decode prog_7_method_44_code 27 = .ok (.iload_n 2, 1) := by decide +kernel
theorem d_MO_level_28 : decode prog_7_method_44_code 28 = .ok (.i2l, 1) := by decide +kernel
theorem d_MO_level_29 : decode prog_7_method_44_code 29 = .ok (.lconst 0, 1) := by decide +kernel
theorem d_MO_level_30 : decode prog_7_method_44_code 30 = .ok (.lconst 1, 1) := by decide +kernel
theorem d_MO_level_31 : decode prog_7_method_44_code 31 = .ok (.invokestatic 80, 3) := by decide +kernel
theorem d_MO_level_34 : decode prog_7_method_44_code 34 = .ok (.ifCond .ne 6, 3) := by decide +kernel
theorem d_MO_level_37 : decode prog_7_method_44_code 37 = .ok (.ldc 189, 2) := by decide +kernel
theorem d_MO_level_39 : decode prog_7_method_44_code 39 = .ok (.ireturn, 1) := by decide +kernel
theorem d_MO_level_40 : decode prog_7_method_44_code 40 = .ok (.aload_n 0, 1) := by decide +kernel
theorem d_MO_level_41 : decode prog_7_method_44_code 41 = .ok (.iload_n 1, 1) := by decide +kernel
theorem d_MO_level_42 : decode prog_7_method_44_code 42 = .ok (.invokevirtual 217, 3) := by decide +kernel
theorem d_MO_level_45 : decode prog_7_method_44_code 45 = .ok (.istore_n 3, 1) := by decide +kernel
theorem d_MO_level_46 : decode prog_7_method_44_code 46 = .ok (.aload_n 0, 1) := by decide +kernel
theorem d_MO_level_47 : decode prog_7_method_44_code 47 = .ok (.getfield 57, 3) := by decide +kernel
theorem d_MO_level_50 : decode prog_7_method_44_code 50 = .ok (.iload_n 1, 1) := by decide +kernel
theorem d_MO_level_51 : decode prog_7_method_44_code 51 = .ok (.iaload, 1) := by decide +kernel
theorem d_MO_level_52 : decode prog_7_method_44_code 52 = .ok (.istore 4, 2) := by decide +kernel
theorem d_MO_level_54 : decode prog_7_method_44_code 54 = .ok (.iconst 0, 1) := by decide +kernel
theorem d_MO_level_55 : decode prog_7_method_44_code 55 = .ok (.istore 5, 2) := by decide +kernel
theorem d_MO_level_57 : decode prog_7_method_44_code 57 = .ok (.iload 4, 2) := by decide +kernel
theorem d_MO_level_59 : decode prog_7_method_44_code 59 = .ok (.aload_n 0, 1) := by decide +kernel
theorem d_MO_level_60 : decode prog_7_method_44_code 60 = .ok (.getfield 72, 3) := by decide +kernel
theorem d_MO_level_63 : decode prog_7_method_44_code 63 = .ok (.iload 5, 2) := by decide +kernel
theorem d_MO_level_65 : decode prog_7_method_44_code 65 = .ok (.iaload, 1) := by decide +kernel
theorem d_MO_level_66 : decode prog_7_method_44_code 66 = .ok (.iadd, 1) := by decide +kernel
theorem d_MO_level_67 : decode prog_7_method_44_code 67 = .ok (.istore 4, 2) := by decide +kernel
theorem d_MO_level_69 : decode prog_7_method_44_code 69 = .ok (.iinc 5 1, 3) := by decide +kernel
theorem d_MO_level_72 : decode prog_7_method_44_code 72 = .ok (.iload 5, 2) := by decide +kernel
theorem d_MO_level_74 : decode prog_7_method_44_code 74 = .ok (.iload_n 3, 1) := by decide +kernel
theorem d_MO_level_75 : decode prog_7_method_44_code 75 = .ok (.if_icmp .ge 22, 3) := by decide +kernel
theorem d_MO_level_78 : decode prog_7_method_44_code 78 = .ok (.iload 4, 2) := by decide +kernel
theorem d_MO_level_80 : decode prog_7_method_44_code 80 = .ok (.i2l, 1) := by decide +kernel
theorem d_MO_level_81 : decode prog_7_method_44_code 81 = .ok (.iload 5, 2) := by decide +kernel
theorem d_MO_level_83 : decode prog_7_method_44_code 83 = .ok (.i2l, 1) := by decide +kernel
theorem d_MO_level_84 : decode prog_7_method_44_code 84 = .ok (.aload_n 0, 1) := by decide +kernel
theorem d_MO_level_85 : decode prog_7_method_44_code 85 = .ok (.getfield 72, 3) := by decide +kernel
theorem d_MO_level_88 : decode prog_7_method_44_code 88 = .ok (.iload 5, 2) := by decide +kernel
theorem d_MO_level_90 : decode prog_7_method_44_code 90 = .ok (.iaload, 1) := by decide +kernel
theorem d_MO_level_91 : decode prog_7_method_44_code 91 = .ok (.i2l, 1) := by decide +kernel
theorem d_MO_level_92 : decode prog_7_method_44_code 92 = .ok (.lmul, 1) := by decide +kernel
theorem d_MO_level_93 : decode prog_7_method_44_code 93 = .ok (.lcmp, 1) := by decide +kernel
theorem d_MO_level_94 : decode prog_7_method_44_code 94 = .ok (.ifCond .gt (-37), 3) := by decide +kernel
theorem d_MO_level_97 : decode prog_7_method_44_code 97 = .ok (.iload 4, 2) := by decide +kernel
theorem d_MO_level_99 : decode prog_7_method_44_code 99 = .ok (.iload 5, 2) := by decide +kernel
theorem d_MO_level_101 : decode prog_7_method_44_code 101 = .ok (.invokestatic 220, 3) := by decide +kernel
theorem d_MO_level_104 : decode prog_7_method_44_code 104 = .ok (.istore 6, 2) := by decide +kernel
theorem d_MO_level_106 : decode prog_7_method_44_code 106 = .ok (.iload_n 2, 1) := by decide +kernel
theorem d_MO_level_107 : decode prog_7_method_44_code 107 = .ok (.ifCond .ne 11, 3) := by decide +kernel
theorem d_MO_level_110 : decode prog_7_method_44_code 110 = .ok (.iload 4, 2) := by decide +kernel
theorem d_MO_level_112 : decode prog_7_method_44_code 112 = .ok (.iload 6, 2) := by decide +kernel
theorem d_MO_level_114 : decode prog_7_method_44_code 114 = .ok (.idiv, 1) := by decide +kernel
theorem d_MO_level_115 : decode prog_7_method_44_code 115 = .ok (.goto 8, 3) := by decide +kernel
theorem d_MO_level_118 : decode prog_7_method_44_code 118 = .ok (.iload 5, 2) := by decide +kernel
theorem d_MO_level_120 : decode prog_7_method_44_code 120 = .ok (.iload 6, 2) := by decide +kernel
theorem d_MO_level_122 : decode prog_7_method_44_code 122 = .ok (.idiv, 1) := by decide +kernel
theorem d_MO_level_123 : decode prog_7_method_44_code 123 = .ok (.ireturn, 1) := by decide +kernel
set_option maxHeartbeats 4000000 in
set_option maxRecDepth 100000 in
theorem w_MO_level_L57 (y2 : Int32) (y3 : Int32)  (C : Cx prog_7_method_44_code 7 "LakeReliefModel" (Option.some Jvm.ClassFile.FieldType.int) p s m args meth c) (hG : Geo D adr cA s) (v : Int32 × Int32) (hE : ∀ (H : Heap) (locs : List Loc) (ls : Array Slot), va_P D cls (wld adr cA μ ν) H → va_S (AA adr) s.heap H locs → lv_has ls 7 [(2, .int y2), (4, .int v.1), (5, .int v.2)] → W p l e rm_MO_level s m args below meth c H locs 0 0 Q (F0 m 97 ls [])) : ∀ (n : Nat) (y4 : Int32) (y5 : Int32), f_MO_level_L57 ν y2 y3 n y4 y5 = some v → ∀ {H : Heap} {locs : List Loc} {ls : Array Slot}, va_P D cls (wld adr cA μ ν) H → va_S (AA adr) s.heap H locs → lv_has ls 7 [(0, .ref (adr 63)), (2, .int y2), (3, .int y3), (4, .int y4), (5, .int y5)] → W p l e rm_MO_level s m args below meth c H locs 0 0 Q (F0 m 57 ls []) := by
  obtain ⟨hx, hb, hml, hown, hts, hr, hlocks⟩ := id C
  intro n
  induction n with
  | zero => intro y4 y5 hf; rw [f_MO_level_L57.eq_1] at hf; cases hf
  | succ n ih =>
    intro y4 y5 hf H locs ls hP hS hl
    rw [f_MO_level_L57.eq_2] at hf
    refine lv_iload hx hb d_MO_level_57 (lv_at hl 3 rfl) ?_
    refine lv_aload_n hx hb d_MO_level_59 rfl (lv_at hl 0 rfl) ?_
    refine g_MO_heights hx hb hts hown hG hP (hts _ in_588) d_MO_level_60 ?_
    refine lv_iload hx hb d_MO_level_63 (lv_at hl 4 rfl) ?_
    replace hf := G_some hf
    obtain ⟨hi5, hf⟩ := hf
    refine r_iald hx hb hG hP 84 64 (f := ν.1 84) (by decide) (wc_M (by decide) rfl) hi5 d_MO_level_65 ?_
    refine lv_iadd hx hb d_MO_level_66 ?_
    refine lv_istore (lv' := [(4, .int (y4 + (ν.1 84 y5.toNatClampNeg))), (0, .ref (adr 63)), (2, .int y2), (3, .int y3), (5, .int y5)]) hx hb d_MO_level_67 hl (by decide) rfl (fun ls hl => ?_)
    refine lv_iinc (v := (y5 + 1)) (lv' := [(5, .int (y5 + 1)), (4, .int (y4 + (ν.1 84 y5.toNatClampNeg))), (0, .ref (adr 63)), (2, .int y2), (3, .int y3)]) hx hb d_MO_level_69 hl (k := 4) rfl rfl (by decide) rfl (fun ls hl => ?_)
    refine lv_iload hx hb d_MO_level_72 (lv_at hl 0 rfl) ?_
    refine lv_iload_n hx hb d_MO_level_74 rfl (lv_at hl 4 rfl) ?_
    refine lv_icmp_ge (tgt := 97) hx hb d_MO_level_75 (by decide) (fun hc => ?_) (fun hc => ?_)
    · replace hf := if_p hc hf
      obtain rfl := Option.some.inj hf
      exact hE _ _ _ hP hS (lv_sub hl [3, 1, 0] rfl)
    · replace hf := if_n hc hf
      refine lv_iload hx hb d_MO_level_78 (lv_at hl 1 rfl) ?_
      refine lv_i2l hx hb d_MO_level_80 rfl ?_
      refine lv_iload hx hb d_MO_level_81 (lv_at hl 0 rfl) ?_
      refine lv_i2l hx hb d_MO_level_83 rfl ?_
      refine lv_aload_n hx hb d_MO_level_84 rfl (lv_at hl 2 rfl) ?_
      refine g_MO_heights hx hb hts hown hG hP (hts _ in_588) d_MO_level_85 ?_
      refine lv_iload hx hb d_MO_level_88 (lv_at hl 0 rfl) ?_
      replace hf := G_some hf
      obtain ⟨hi6, hf⟩ := hf
      refine r_iald hx hb hG hP 84 64 (f := ν.1 84) (by decide) (wc_M (by decide) rfl) hi6 d_MO_level_90 ?_
      refine lv_i2l hx hb d_MO_level_91 rfl ?_
      refine lv_lmul hx hb d_MO_level_92 ?_
      refine W.lcmp hx hb d_MO_level_93 ?_
      refine lv_if_gt (tgt := 57) hx hb d_MO_level_94 (by decide) (fun hc => ?_) (fun hc => ?_)
      · replace hf := if_p hc hf
        exact ih _ _ hf hP hS (lv_sub hl [2, 3, 4, 1, 0] rfl)
      · replace hf := if_n hc hf
        obtain rfl := Option.some.inj hf
        exact hE _ _ _ hP hS (lv_sub hl [3, 1, 0] rfl)
set_option maxHeartbeats 4000000 in
set_option maxRecDepth 100000 in
theorem w_MO_level (x1 : Int32) (x2 : Int32)  (C : Cx prog_7_method_44_code 7 "LakeReliefModel" (Option.some Jvm.ClassFile.FieldType.int) p s m args meth c) (hG : Geo D adr cA s) {res : Int32 × Mem} (hf : f_MO_level ν x1 x2 = some res) (hq : ∀ (pc : Nat) (ls : Array Slot) (H : Heap) (locs : List Loc), decode prog_7_method_44_code pc = .ok (.ireturn, 1) → va_P D cls (wld adr cA μ res.2) H → va_S (AA adr) s.heap H locs → W p l e rm_MO_level s m args below meth c H locs 0 0 Q (F0 m pc ls [.int res.1])) {H : Heap} {locs : List Loc} {ls : Array Slot} (hP : va_P D cls (wld adr cA μ ν) H) (hS : va_S (AA adr) s.heap H locs) (hl : lv_has ls 7 [(0, .ref (adr 63)), (1, .int x1), (2, .int x2)]) : W p l e rm_MO_level s m args below meth c H locs 0 0 Q (F0 m 0 ls []) := by
  obtain ⟨hx, hb, hml, hown, hts, hr, hlocks⟩ := id C
  unfold f_MO_level at hf
  refine lv_aload_n hx hb d_MO_level_0 rfl (lv_at hl 0 rfl) ?_
  refine g_MO_isLaid hx hb hts hown hG hP (hts _ in_564) d_MO_level_1 ?_
  refine lv_if_ne (tgt := 10) hx hb d_MO_level_4 (by decide) (fun hc => ?_) (fun hc => ?_)
  · replace hf := if_n hc hf
    refine lv_aload_n hx hb d_MO_level_10 rfl (lv_at hl 0 rfl) ?_
    refine lv_iload_n hx hb d_MO_level_11 rfl (lv_at hl 1 rfl) ?_
    replace hf := B_some hf
    obtain ⟨v1, hv1, hf⟩ := hf
    refine ki (kv (As := [.int x1]) (rest := []) ⟨hx, hb, hml, hown, hts⟩ (cw_MO_196 hts ⟨Nat.le_of_ble_eq_true rfl, Nat.le_of_ble_eq_true rfl⟩) (c_MO_isLake l D adr cA μ ν x1 hv1) hG hP (rc_o (q := 63) (ci := 5) hG hP (by decide) (wc_M (by decide) rfl) rfl) rfl hl.1 (Nat.le_of_ble_eq_true rfl) d_MO_level_12) hS (fun H locs hP hS => ?_)
    refine lv_if_eq (tgt := 37) hx hb d_MO_level_15 (by decide) (fun hc => ?_) (fun hc => ?_)
    · replace hf := if_p hc hf
      refine lv_ldc (v := (-2000001)) hx hb hown (hts _ in_759) d_MO_level_37 ?_
      obtain rfl := Option.some.inj hf
      exact hq _ _ _ _ d_MO_level_39 hP hS
    · replace hf := if_n hc hf
      refine lv_aload_n hx hb d_MO_level_18 rfl (lv_at hl 0 rfl) ?_
      refine g_MO_isThere hx hb hts hown hG hP (hts _ in_579) d_MO_level_19 ?_
      refine lv_iload_n hx hb d_MO_level_22 rfl (lv_at hl 1 rfl) ?_
      replace hf := G_some hf
      obtain ⟨hi2, hf⟩ := hf
      refine r_zald hx hb hG hP 78 64 (f := ν.1 78) (by decide) (wc_M (by decide) rfl) hi2 d_MO_level_23 ?_
      refine lv_if_eq (tgt := 37) hx hb d_MO_level_24 (by decide) (fun hc => ?_) (fun hc => ?_)
      · replace hf := if_p hc hf
        refine lv_ldc (v := (-2000001)) hx hb hown (hts _ in_759) d_MO_level_37 ?_
        obtain rfl := Option.some.inj hf
        exact hq _ _ _ _ d_MO_level_39 hP hS
      · replace hf := if_n hc hf
        refine lv_iload_n hx hb d_MO_level_27 rfl (lv_at hl 2 rfl) ?_
        refine lv_i2l hx hb d_MO_level_28 rfl ?_
        refine lv_lconst (v := 0) hx hb d_MO_level_29 (by decide) ?_
        refine lv_lconst (v := 1) hx hb d_MO_level_30 (by decide) ?_
        refine ki (ks (As := [.long x2.toInt64, .long 0, .long 1]) (rest := []) ⟨hx, hb, hml, hown, hts⟩ (cw_MO_80 hts ⟨Nat.le_of_ble_eq_true rfl, Nat.le_of_ble_eq_true rfl⟩) (c_MO_in l D adr cA μ ν x2.toInt64 0 1) hG hP rfl hl.1 (Nat.le_of_ble_eq_true rfl) d_MO_level_31) hS (fun H locs hP hS => ?_)
        refine lv_if_ne (tgt := 40) hx hb d_MO_level_34 (by decide) (fun hc => ?_) (fun hc => ?_)
        · replace hf := if_n hc hf
          refine lv_aload_n hx hb d_MO_level_40 rfl (lv_at hl 0 rfl) ?_
          refine lv_iload_n hx hb d_MO_level_41 rfl (lv_at hl 1 rfl) ?_
          replace hf := B_some hf
          obtain ⟨v3, hv3, hf⟩ := hf
          refine ki (kv (As := [.int x1]) (rest := []) ⟨hx, hb, hml, hown, hts⟩ (cw_MO_217 hts ⟨Nat.le_of_ble_eq_true rfl, Nat.le_of_ble_eq_true rfl⟩) (c_MO_layHeights l D adr cA μ ν x1 hv3) hG hP (rc_o (q := 63) (ci := 5) hG hP (by decide) (wc_M (by decide) rfl) rfl) rfl hl.1 (Nat.le_of_ble_eq_true rfl) d_MO_level_42) hS (fun H locs hP hS => ?_)
          refine lv_istore_n (lv' := [(3, .int v3.1), (0, .ref (adr 63)), (1, .int x1), (2, .int x2)]) hx hb d_MO_level_45 rfl hl (by decide) rfl (fun ls hl => ?_)
          refine lv_aload_n hx hb d_MO_level_46 rfl (lv_at hl 1 rfl) ?_
          refine g_MO_water hx hb hts hown hG hP (hts _ in_580) d_MO_level_47 ?_
          refine lv_iload_n hx hb d_MO_level_50 rfl (lv_at hl 2 rfl) ?_
          replace hf := G_some hf
          obtain ⟨hi4, hf⟩ := hf
          refine r_iald hx hb hG hP 79 64 (f := v3.2.1 79) (by decide) (wc_M (by decide) rfl) hi4 d_MO_level_51 ?_
          refine lv_istore (lv' := [(4, .int (v3.2.1 79 x1.toNatClampNeg)), (3, .int v3.1), (0, .ref (adr 63)), (1, .int x1), (2, .int x2)]) hx hb d_MO_level_52 hl (by decide) rfl (fun ls hl => ?_)
          refine lv_iconst (v := 0) hx hb d_MO_level_54 (by decide) ?_
          refine lv_istore (lv' := [(5, .int 0), (4, .int (v3.2.1 79 x1.toNatClampNeg)), (3, .int v3.1), (0, .ref (adr 63)), (1, .int x1), (2, .int x2)]) hx hb d_MO_level_55 hl (by decide) rfl (fun ls hl => ?_)
          replace hf := B_some hf
          obtain ⟨v7, hv7, hf⟩ := hf
          refine w_MO_level_L57 x2 v3.1  C hG v7 ?_ FU _ _ hv7 hP hS (lv_sub hl [3, 5, 2, 1, 0] rfl)
          clear hv7 hP hS hl
          intro H locs ls hP hS hl
          refine lv_iload hx hb d_MO_level_97 (lv_at hl 1 rfl) ?_
          refine lv_iload hx hb d_MO_level_99 (lv_at hl 2 rfl) ?_
          replace hf := B_some hf
          obtain ⟨v8, hv8, hf⟩ := hf
          refine ki (ks (As := [.int v7.1, .int v7.2]) (rest := []) ⟨hx, hb, hml, hown, hts⟩ (cw_MO_220 hts ⟨Nat.le_of_ble_eq_true rfl, Nat.le_of_ble_eq_true rfl⟩) (c_MO_common l D adr cA μ v3.2 v7.1 v7.2 hv8) hG hP rfl hl.1 (Nat.le_of_ble_eq_true rfl) d_MO_level_101) hS (fun H locs hP hS => ?_)
          refine lv_istore (lv' := [(6, .int v8), (2, .int x2), (4, .int v7.1), (5, .int v7.2)]) hx hb d_MO_level_104 hl (by decide) rfl (fun ls hl => ?_)
          refine lv_iload_n hx hb d_MO_level_106 rfl (lv_at hl 1 rfl) ?_
          refine lv_if_ne (tgt := 118) hx hb d_MO_level_107 (by decide) (fun hc => ?_) (fun hc => ?_)
          · replace hf := if_n hc hf
            refine lv_iload hx hb d_MO_level_118 (lv_at hl 3 rfl) ?_
            refine lv_iload hx hb d_MO_level_120 (lv_at hl 0 rfl) ?_
            replace hf := Zg_some hf
            obtain ⟨hz9, hf⟩ := hf
            refine lv_idiv hx hb d_MO_level_122 hz9 ?_
            obtain rfl := Option.some.inj hf
            exact hq _ _ _ _ d_MO_level_123 hP hS
          · replace hf := if_p hc hf
            refine lv_iload hx hb d_MO_level_110 (lv_at hl 2 rfl) ?_
            refine lv_iload hx hb d_MO_level_112 (lv_at hl 0 rfl) ?_
            replace hf := Zg_some hf
            obtain ⟨hz10, hf⟩ := hf
            refine lv_idiv hx hb d_MO_level_114 hz10 ?_
            refine lv_goto (tgt := 123) hx hb d_MO_level_115 (by decide) ?_
            obtain rfl := Option.some.inj hf
            exact hq _ _ _ _ d_MO_level_123 hP hS
        · replace hf := if_p hc hf
          refine lv_ldc (v := (-2000001)) hx hb hown (hts _ in_759) d_MO_level_37 ?_
          obtain rfl := Option.some.inj hf
          exact hq _ _ _ _ d_MO_level_39 hP hS
  · replace hf := if_p hc hf
    refine lv_ldc (v := (-2000002)) hx hb hown (hts _ in_753) d_MO_level_7 ?_
    obtain rfl := Option.some.inj hf
    exact hq _ _ _ _ d_MO_level_9 hP hS
theorem c_MO_level (l : Launch) (D : va_G) (adr : Nat → Nat) (cA : Nat → ClassId) (μ ν : Mem) (x1 : Int32) (x2 : Int32)  {res : Int32 × Mem} (hf : f_MO_level ν x1 x2 = some res) : Met l y_MO_level (Cond.code y_MO_level prog_7_method_44_code 7 (Option.some Jvm.ClassFile.FieldType.int) :: lw_ok) rm_MO_level (va_Pc [.ref (adr 63), .int x1, .int x2] (Wd D adr cA μ ν)) (QI D adr cA res.1 μ res.2) 0 0 (AA adr) :=
  met_of (own := "LakeReliefModel") rfl rfl (Nat.le_of_ble_eq_true rfl) (fun p e s m below meth c C hG hP hS ls hl => w_MO_level x1 x2  C hG hf (fun pc ls H locs hd hP hS => ret_i C.1 C.2.1 C.2.2.2.2.2.1 C.2.2.2.2.2.2 hG hd hP hS) hP hS hl)
end X_MO_level
section X_MO_rise
variable {p : Program} {l : Launch} {e : Env} {s : State} {m : MethodId} {args : Array Value} {below : List Frame} {meth : Method} {c : Code} {Q : State → Prop}
variable {D : va_G} {adr : Nat → Nat} {cA : Nat → ClassId} {μ ν : Mem}
theorem d_MO_rise_0 : decode prog_7_method_45_code 0 = .ok (.aload_n 0, 1) := by decide +kernel
theorem d_MO_rise_1 : decode prog_7_method_45_code 1 = .ok (.getfield 156, 3) := by decide +kernel
theorem d_MO_rise_4 : decode prog_7_method_45_code 4 = .ok (.ifCond .ne 6, 3) := by decide +kernel
theorem d_MO_rise_7 : decode prog_7_method_45_code 7 = .ok (.bipush (-2), 2) := by decide +kernel
theorem d_MO_rise_9 : decode prog_7_method_45_code 9 = .ok (.ireturn, 1) := by decide +kernel
theorem d_MO_rise_10 : decode prog_7_method_45_code 10 = .ok (.iload_n 1, 1) := by decide +kernel
theorem d_MO_rise_11 : decode prog_7_method_45_code 11 = .ok (.i2l, 1) := by decide +kernel
theorem d_MO_rise_12 : decode prog_7_method_45_code 12 = .ok (.ldc2_w 152, 3) := by decide +kernel
theorem d_MO_rise_15 : decode prog_7_method_45_code 15 = .ok (.ldc2_w 223, 3) := by decide +kernel
theorem d_MO_rise_18 : decode prog_7_method_45_code 18 = .ok (.invokestatic 80, 3) := by decide +kernel
theorem d_MO_rise_21 : decode prog_7_method_45_code 21 = .ok (.ifCond .ne 5, 3) := by decide +kernel
theorem d_MO_rise_24 : decode prog_7_method_45_code 24 = .ok (.iconst (-1), 1) := by decide +kernel
theorem d_MO_rise_25 : decode prog_7_method_45_code 25 = .ok (.ireturn, 1) := by decide +kernel
theorem d_MO_rise_26 : decode prog_7_method_45_code 26 = .ok (.iconst 0, 1) := by decide +kernel
theorem d_MO_rise_27 : decode prog_7_method_45_code 27 = .ok (.istore_n 2, 1) := by decide +kernel
theorem d_MO_rise_28 : decode prog_7_method_45_code 28 = .ok (.iconst 0, 1) := by decide +kernel
theorem d_MO_rise_29 : decode prog_7_method_45_code 29 = .ok (.istore_n 3, 1) := by decide +kernel
theorem d_MO_rise_30 : decode prog_7_method_45_code 30 = .ok (.iload_n 3, 1) := by decide +kernel
theorem d_MO_rise_31 : decode prog_7_method_45_code 31 = .ok (.aload_n 0, 1) := by decide +kernel
theorem d_MO_rise_32 : decode prog_7_method_45_code 32 = .ok (.getfield 102, 3) := by decide +kernel
theorem d_MO_rise_35 : decode prog_7_method_45_code 35 = .ok (.if_icmp .ge 36, 3) := by decide +kernel
theorem d_MO_rise_38 : decode prog_7_method_45_code 38 = .ok (.iload_n 2, 1) := by decide +kernel
theorem d_MO_rise_39 : decode prog_7_method_45_code 39 = .ok (.aload_n 0, 1) := by decide +kernel
theorem d_MO_rise_40 : decode prog_7_method_45_code 40 = .ok (.getfield 19, 3) := by decide +kernel
theorem d_MO_rise_43 : decode prog_7_method_45_code 43 = .ok (.iload_n 3, 1) := by decide +kernel
theorem d_MO_rise_44 : decode prog_7_method_45_code 44 = .ok (.baload, 1) := by decide +kernel
theorem d_MO_rise_45 : decode prog_7_method_45_code 45 = .ok (.ifCond .ne 17, 3) := by decide +kernel
theorem d_MO_rise_48 : decode prog_7_method_45_code 48 = .ok (.aload_n 0, 1) := by decide +kernel
theorem d_MO_rise_49 : decode prog_7_method_45_code 49 = .ok (.getfield 32, 3) := by decide +kernel
theorem d_MO_rise_52 : decode prog_7_method_45_code 52 = .ok (.iload_n 3, 1) := by decide +kernel
theorem d_MO_rise_53 : decode prog_7_method_45_code 53 = .ok (.iaload, 1) := by decide +kernel
theorem d_MO_rise_54 : decode prog_7_method_45_code 54 = .ok (.iload_n 1, 1) := by decide +kernel
theorem d_MO_rise_55 : decode prog_7_method_45_code 55 = .ok (.if_icmp .ge 7, 3) := by decide +kernel
theorem d_MO_rise_58 : decode prog_7_method_45_code 58 = .ok (.iconst 1, 1) := by decide +kernel
theorem d_MO_rise_59 : decode prog_7_method_45_code 59 = .ok (.goto 4, 3) := by decide +kernel
theorem d_MO_rise_62 : decode prog_7_method_45_code 62 = .ok (.iconst 0, 1) := by decide +kernel
theorem d_MO_rise_63 : decode prog_7_method_45_code 63 = .ok (.iadd, 1) := by decide +kernel
theorem d_MO_rise_64 : decode prog_7_method_45_code 64 = .ok (.istore_n 2, 1) := by decide +kernel
theorem d_MO_rise_65 : decode prog_7_method_45_code 65 = .ok (.iinc 3 1, 3) := by decide +kernel
theorem d_MO_rise_68 : decode prog_7_method_45_code 68 = .ok (.goto (-38), 3) := by decide +kernel
theorem d_MO_rise_71 : decode prog_7_method_45_code 71 = .ok (.iload_n 2, 1) := by decide +kernel
theorem d_MO_rise_72 : decode prog_7_method_45_code 72 = .ok (.ireturn, 1) := by decide +kernel
set_option maxHeartbeats 4000000 in
set_option maxRecDepth 100000 in
theorem w_MO_rise_L30 (y1 : Int32)  (C : Cx prog_7_method_45_code 4 "LakeReliefModel" (Option.some Jvm.ClassFile.FieldType.int) p s m args meth c) (hG : Geo D adr cA s) (v : Int32) (hE : ∀ (H : Heap) (locs : List Loc) (ls : Array Slot), va_P D cls (wld adr cA μ ν) H → va_S (AA adr) s.heap H locs → lv_has ls 4 [(2, .int v)] → W p l e rm_MO_rise s m args below meth c H locs 0 0 Q (F0 m 71 ls [])) : ∀ (n : Nat) (y2 : Int32) (y3 : Int32), f_MO_rise_L30 ν y1 n y2 y3 = some v → ∀ {H : Heap} {locs : List Loc} {ls : Array Slot}, va_P D cls (wld adr cA μ ν) H → va_S (AA adr) s.heap H locs → lv_has ls 4 [(0, .ref (adr 63)), (1, .int y1), (2, .int y2), (3, .int y3)] → W p l e rm_MO_rise s m args below meth c H locs 0 0 Q (F0 m 30 ls []) := by
  obtain ⟨hx, hb, hml, hown, hts, hr, hlocks⟩ := id C
  intro n
  induction n with
  | zero => intro y2 y3 hf; rw [f_MO_rise_L30.eq_1] at hf; cases hf
  | succ n ih =>
    intro y2 y3 hf H locs ls hP hS hl
    rw [f_MO_rise_L30.eq_2] at hf
    refine lv_iload_n hx hb d_MO_rise_30 rfl (lv_at hl 3 rfl) ?_
    refine lv_aload_n hx hb d_MO_rise_31 rfl (lv_at hl 0 rfl) ?_
    refine g_MO_fields hx hb hts hown hG hP (hts _ in_566) d_MO_rise_32 ?_
    refine lv_icmp_ge (tgt := 71) hx hb d_MO_rise_35 (by decide) (fun hc => ?_) (fun hc => ?_)
    · replace hf := if_p hc hf
      obtain rfl := Option.some.inj hf
      exact hE _ _ _ hP hS (lv_sub hl [2] rfl)
    · replace hf := if_n hc hf
      refine lv_iload_n hx hb d_MO_rise_38 rfl (lv_at hl 2 rfl) ?_
      refine lv_aload_n hx hb d_MO_rise_39 rfl (lv_at hl 0 rfl) ?_
      refine g_MO_isSea hx hb hts hown hG hP (hts _ in_567) d_MO_rise_40 ?_
      refine lv_iload_n hx hb d_MO_rise_43 rfl (lv_at hl 3 rfl) ?_
      replace hf := G_some hf
      obtain ⟨hi1, hf⟩ := hf
      refine r_zald hx hb hG hP 67 64 (f := ν.1 67) (by decide) (wc_M (by decide) rfl) hi1 d_MO_rise_44 ?_
      replace hf := B_some hf
      obtain ⟨v2, hv2, hf⟩ := hf
      have hJ : ∀ (H : Heap) (locs : List Loc) (ls : Array Slot), va_P D cls (wld adr cA μ ν) H → va_S (AA adr) s.heap H locs → lv_has ls 4 [(0, .ref (adr 63)), (1, .int y1), (3, .int y3)] → W p l e rm_MO_rise s m args below meth c H locs 0 0 Q (F0 m 63 ls [.int v2, .int y2]) := by
        clear hv2
        intro H locs ls hP hS hl
        refine lv_iadd hx hb d_MO_rise_63 ?_
        refine lv_istore_n (lv' := [(2, .int (y2 + v2)), (0, .ref (adr 63)), (1, .int y1), (3, .int y3)]) hx hb d_MO_rise_64 rfl hl (by decide) rfl (fun ls hl => ?_)
        refine lv_iinc (v := (y3 + 1)) (lv' := [(3, .int (y3 + 1)), (2, .int (y2 + v2)), (0, .ref (adr 63)), (1, .int y1)]) hx hb d_MO_rise_65 hl (k := 3) rfl rfl (by decide) rfl (fun ls hl => ?_)
        refine lv_goto (tgt := 30) hx hb d_MO_rise_68 (by decide) ?_
        exact ih _ _ hf hP hS (lv_sub hl [2, 3, 1, 0] rfl)
      clear hf
      have hf := hv2
      clear hv2
      refine lv_if_ne (tgt := 62) hx hb d_MO_rise_45 (by decide) (fun hc => ?_) (fun hc => ?_)
      · replace hf := if_n hc hf
        refine lv_iconst (v := 0) hx hb d_MO_rise_62 (by decide) ?_
        obtain rfl := Option.some.inj hf
        exact hJ _ _ _ hP hS (lv_sub hl [0, 1, 3] rfl)
      · replace hf := if_p hc hf
        refine lv_aload_n hx hb d_MO_rise_48 rfl (lv_at hl 0 rfl) ?_
        refine g_MO_fill hx hb hts hown hG hP (hts _ in_571) d_MO_rise_49 ?_
        refine lv_iload_n hx hb d_MO_rise_52 rfl (lv_at hl 3 rfl) ?_
        replace hf := G_some hf
        obtain ⟨hi3, hf⟩ := hf
        refine r_iald hx hb hG hP 71 64 (f := ν.1 71) (by decide) (wc_M (by decide) rfl) hi3 d_MO_rise_53 ?_
        refine lv_iload_n hx hb d_MO_rise_54 rfl (lv_at hl 1 rfl) ?_
        refine lv_icmp_ge (tgt := 62) hx hb d_MO_rise_55 (by decide) (fun hc => ?_) (fun hc => ?_)
        · replace hf := if_p hc hf
          refine lv_iconst (v := 0) hx hb d_MO_rise_62 (by decide) ?_
          obtain rfl := Option.some.inj hf
          exact hJ _ _ _ hP hS (lv_sub hl [0, 1, 3] rfl)
        · replace hf := if_n hc hf
          refine lv_iconst (v := 1) hx hb d_MO_rise_58 (by decide) ?_
          refine lv_goto (tgt := 63) hx hb d_MO_rise_59 (by decide) ?_
          obtain rfl := Option.some.inj hf
          exact hJ _ _ _ hP hS (lv_sub hl [0, 1, 3] rfl)
set_option maxHeartbeats 4000000 in
set_option maxRecDepth 100000 in
theorem w_MO_rise (x1 : Int32)  (C : Cx prog_7_method_45_code 4 "LakeReliefModel" (Option.some Jvm.ClassFile.FieldType.int) p s m args meth c) (hG : Geo D adr cA s) {res : Int32} (hf : f_MO_rise ν x1 = some res) (hq : ∀ (pc : Nat) (ls : Array Slot) (H : Heap) (locs : List Loc), decode prog_7_method_45_code pc = .ok (.ireturn, 1) → va_P D cls (wld adr cA μ ν) H → va_S (AA adr) s.heap H locs → W p l e rm_MO_rise s m args below meth c H locs 0 0 Q (F0 m pc ls [.int res])) {H : Heap} {locs : List Loc} {ls : Array Slot} (hP : va_P D cls (wld adr cA μ ν) H) (hS : va_S (AA adr) s.heap H locs) (hl : lv_has ls 4 [(0, .ref (adr 63)), (1, .int x1)]) : W p l e rm_MO_rise s m args below meth c H locs 0 0 Q (F0 m 0 ls []) := by
  obtain ⟨hx, hb, hml, hown, hts, hr, hlocks⟩ := id C
  unfold f_MO_rise at hf
  refine lv_aload_n hx hb d_MO_rise_0 rfl (lv_at hl 0 rfl) ?_
  refine g_MO_isLaid hx hb hts hown hG hP (hts _ in_564) d_MO_rise_1 ?_
  refine lv_if_ne (tgt := 10) hx hb d_MO_rise_4 (by decide) (fun hc => ?_) (fun hc => ?_)
  · replace hf := if_n hc hf
    refine lv_iload_n hx hb d_MO_rise_10 rfl (lv_at hl 1 rfl) ?_
    refine lv_i2l hx hb d_MO_rise_11 rfl ?_
    refine lv_ldc2 (v := (-1000000)) hx hb hown (hts _ in_694) d_MO_rise_12 ?_
    refine lv_ldc2 (v := 1000001) hx hb hown (hts _ in_837) d_MO_rise_15 ?_
    refine ki (ks (As := [.long x1.toInt64, .long (-1000000), .long 1000001]) (rest := []) ⟨hx, hb, hml, hown, hts⟩ (cw_MO_80 hts ⟨Nat.le_of_ble_eq_true rfl, Nat.le_of_ble_eq_true rfl⟩) (c_MO_in l D adr cA μ ν x1.toInt64 (-1000000) 1000001) hG hP rfl hl.1 (Nat.le_of_ble_eq_true rfl) d_MO_rise_18) hS (fun H locs hP hS => ?_)
    refine lv_if_ne (tgt := 26) hx hb d_MO_rise_21 (by decide) (fun hc => ?_) (fun hc => ?_)
    · replace hf := if_n hc hf
      refine lv_iconst (v := 0) hx hb d_MO_rise_26 (by decide) ?_
      refine lv_istore_n (lv' := [(2, .int 0), (0, .ref (adr 63)), (1, .int x1)]) hx hb d_MO_rise_27 rfl hl (by decide) rfl (fun ls hl => ?_)
      refine lv_iconst (v := 0) hx hb d_MO_rise_28 (by decide) ?_
      refine lv_istore_n (lv' := [(3, .int 0), (2, .int 0), (0, .ref (adr 63)), (1, .int x1)]) hx hb d_MO_rise_29 rfl hl (by decide) rfl (fun ls hl => ?_)
      replace hf := B_some hf
      obtain ⟨v4, hv4, hf⟩ := hf
      refine w_MO_rise_L30 x1  C hG v4 ?_ FU _ _ hv4 hP hS (lv_sub hl [2, 3, 1, 0] rfl)
      clear hv4 hP hS hl
      intro H locs ls hP hS hl
      refine lv_iload_n hx hb d_MO_rise_71 rfl (lv_at hl 0 rfl) ?_
      obtain rfl := Option.some.inj hf
      exact hq _ _ _ _ d_MO_rise_72 hP hS
    · replace hf := if_p hc hf
      refine lv_iconst (v := (-1)) hx hb d_MO_rise_24 (by decide) ?_
      obtain rfl := Option.some.inj hf
      exact hq _ _ _ _ d_MO_rise_25 hP hS
  · replace hf := if_p hc hf
    refine lv_bipush (v := (-2)) hx hb d_MO_rise_7 (by decide) ?_
    obtain rfl := Option.some.inj hf
    exact hq _ _ _ _ d_MO_rise_9 hP hS
theorem c_MO_rise (l : Launch) (D : va_G) (adr : Nat → Nat) (cA : Nat → ClassId) (μ ν : Mem) (x1 : Int32)  {res : Int32} (hf : f_MO_rise ν x1 = some res) : Met l y_MO_rise (Cond.code y_MO_rise prog_7_method_45_code 4 (Option.some Jvm.ClassFile.FieldType.int) :: lw_ok) rm_MO_rise (va_Pc [.ref (adr 63), .int x1] (Wd D adr cA μ ν)) (QI D adr cA res μ ν) 0 0 (AA adr) :=
  met_of (own := "LakeReliefModel") rfl rfl (Nat.le_of_ble_eq_true rfl) (fun p e s m below meth c C hG hP hS ls hl => w_MO_rise x1  C hG hf (fun pc ls H locs hd hP hS => ret_i C.1 C.2.1 C.2.2.2.2.2.1 C.2.2.2.2.2.2 hG hd hP hS) hP hS hl)
end X_MO_rise
section X_MO_islands
variable {p : Program} {l : Launch} {e : Env} {s : State} {m : MethodId} {args : Array Value} {below : List Frame} {meth : Method} {c : Code} {Q : State → Prop}
variable {D : va_G} {adr : Nat → Nat} {cA : Nat → ClassId} {μ ν : Mem}
theorem d_MO_islands_0 : decode prog_7_method_46_code 0 = .ok (.aload_n 0, 1) := by decide +kernel
theorem d_MO_islands_1 : decode prog_7_method_46_code 1 = .ok (.getfield 156, 3) := by decide +kernel
theorem d_MO_islands_4 : decode prog_7_method_46_code 4 = .ok (.ifCond .ne 6, 3) := by decide +kernel
theorem d_MO_islands_7 : decode prog_7_method_46_code 7 = .ok (.bipush (-2), 2) := by decide +kernel
theorem d_MO_islands_9 : decode prog_7_method_46_code 9 = .ok (.ireturn, 1) := by decide +kernel
theorem d_MO_islands_10 : decode prog_7_method_46_code 10 = .ok (.iload_n 1, 1) := by decide +kernel
theorem d_MO_islands_11 : decode prog_7_method_46_code 11 = .ok (.i2l, 1) := by decide +kernel
theorem d_MO_islands_12 : decode prog_7_method_46_code 12 = .ok (.ldc2_w 152, 3) := by decide +kernel
theorem d_MO_islands_15 : decode prog_7_method_46_code 15 = .ok (.ldc2_w 223, 3) := by decide +kernel
theorem d_MO_islands_18 : decode prog_7_method_46_code 18 = .ok (.invokestatic 80, 3) := by decide +kernel
theorem d_MO_islands_21 : decode prog_7_method_46_code 21 = .ok (.ifCond .ne 5, 3) := by decide +kernel
theorem d_MO_islands_24 : decode prog_7_method_46_code 24 = .ok (.iconst (-1), 1) := by decide +kernel
theorem d_MO_islands_25 : decode prog_7_method_46_code 25 = .ok (.ireturn, 1) := by decide +kernel
theorem d_MO_islands_26 : decode prog_7_method_46_code 26 = .ok (.iconst 0, 1) := by decide +kernel
theorem d_MO_islands_27 : decode prog_7_method_46_code 27 = .ok (.istore_n 2, 1) := by decide +kernel
theorem d_MO_islands_28 : decode prog_7_method_46_code 28 = .ok (.iload_n 2, 1) := by decide +kernel
theorem d_MO_islands_29 : decode prog_7_method_46_code 29 = .ok (.aload_n 0, 1) := by decide +kernel
theorem d_MO_islands_30 : decode prog_7_method_46_code 30 = .ok (.getfield 102, 3) := by decide +kernel
theorem d_MO_islands_33 : decode prog_7_method_46_code 33 = .ok (.if_icmp .ge 40, 3) := by decide +kernel
theorem d_MO_islands_36 : decode prog_7_method_46_code 36 = .ok (.aload_n 0, 1) := by decide +kernel
theorem d_MO_islands_37 : decode prog_7_method_46_code 37 = .ok (.getfield 75, 3) := by decide +kernel
theorem d_MO_islands_40 : decode prog_7_method_46_code 40 = .ok (.iload_n 2, 1) := by decide +kernel
theorem d_MO_islands_41 : decode prog_7_method_46_code 41 = .ok (.aload_n 0, 1) := by decide +kernel
theorem d_MO_islands_42 : decode prog_7_method_46_code 42 = .ok (.getfield 19, 3) := by decide +kernel
theorem d_MO_islands_45 : decode prog_7_method_46_code 45 = .ok (.iload_n 2, 1) := by decide +kernel
theorem d_MO_islands_46 : decode prog_7_method_46_code 46 = .ok (.baload, 1) := by decide +kernel
theorem d_MO_islands_47 : decode prog_7_method_46_code 47 = .ok (.ifCond .ne 13, 3) := by decide +kernel
theorem d_MO_islands_50 : decode prog_7_method_46_code 50 = .ok (.aload_n 0, 1) := by decide +kernel
theorem d_MO_islands_51 : decode prog_7_method_46_code 51 = .ok (.getfield 32, 3) := by decide +kernel
theorem d_MO_islands_54 : decode prog_7_method_46_code 54 = .ok (.iload_n 2, 1) := by decide +kernel
theorem d_MO_islands_55 : decode prog_7_method_46_code 55 = .ok (.iaload, 1) := by decide +kernel
theorem d_MO_islands_56 : decode prog_7_method_46_code 56 = .ok (.iload_n 1, 1) := by decide +kernel
theorem d_MO_islands_57 : decode prog_7_method_46_code 57 = .ok (.if_icmp .ge 8, 3) := by decide +kernel
theorem d_MO_islands_60 : decode prog_7_method_46_code 60 = .ok (.bipush (-3), 2) := by decide +kernel
theorem d_MO_islands_62 : decode prog_7_method_46_code 62 = .ok (.goto 4, 3) := by decide +kernel
theorem d_MO_islands_65 : decode prog_7_method_46_code 65 = .ok (.iload_n 2, 1) := by decide +kernel
theorem d_MO_islands_66 : decode prog_7_method_46_code 66 = .ok (.iastore, 1) := by decide +kernel
theorem d_MO_islands_67 : decode prog_7_method_46_code 67 = .ok (.iinc 2 1, 3) := by decide +kernel
theorem d_MO_islands_70 : decode prog_7_method_46_code 70 = .ok (.goto (-42), 3) := by decide +kernel
theorem d_MO_islands_73 : decode prog_7_method_46_code 73 = .ok (.iconst 1, 1) := by decide +kernel
theorem d_MO_islands_74 : decode prog_7_method_46_code 74 = .ok (.istore_n 2, 1) := by decide +kernel
theorem d_MO_islands_75 : decode prog_7_method_46_code 75 = .ok (.iload_n 2, 1) := by decide +kernel
theorem d_MO_islands_76 : decode prog_7_method_46_code 76 = .ok (.ifCond .eq 105, 3) := by decide +kernel
theorem d_MO_islands_79 : decode prog_7_method_46_code 79 = .ok (.iconst 0, 1) := by decide +kernel
theorem d_MO_islands_80 : decode prog_7_method_46_code 80 = .ok (.istore_n 2, 1) := by decide +kernel
theorem d_MO_islands_81 : decode prog_7_method_46_code 81 = .ok (.iconst 0, 1) := by decide +kernel
theorem d_MO_islands_82 : decode prog_7_method_46_code 82 = .ok (.istore_n 3, 1) := by decide +kernel
theorem d_MO_islands_83 : decode prog_7_method_46_code 83 = .ok (.iload_n 3, 1) := by decide +kernel
theorem d_MO_islands_84 : decode prog_7_method_46_code 84 = .ok (.aload_n 0, 1) := by decide +kernel
theorem d_MO_islands_85 : decode prog_7_method_46_code 85 = .ok (.getfield 102, 3) := by decide +kernel
theorem d_MO_islands_88 : decode prog_7_method_46_code 88 = .ok (.if_icmp .ge 90, 3) := by decide +kernel
theorem d_MO_islands_91 : decode prog_7_method_46_code 91 = .ok (.iconst 0, 1) := by decide +kernel
theorem d_MO_islands_92 : decode prog_7_method_46_code 92 = .ok (.istore 4, 2) := by decide +kernel
theorem d_MO_islands_94 : decode prog_7_method_46_code 94 = .ok (.iload 4, 2) := by decide +kernel
theorem d_MO_islands_96 : decode prog_7_method_46_code 96 = .ok (.iconst 4, 1) := by decide +kernel
theorem d_MO_islands_97 : decode prog_7_method_46_code 97 = .ok (.if_icmp .ge 75, 3) := by decide +kernel
theorem d_MO_islands_100 : decode prog_7_method_46_code 100 = .ok (.aload_n 0, 1) := by decide +kernel
theorem d_MO_islands_101 : decode prog_7_method_46_code 101 = .ok (.getfield 75, 3) := by decide +kernel
theorem d_MO_islands_104 : decode prog_7_method_46_code 104 = .ok (.iload_n 3, 1) := by decide +kernel
theorem d_MO_islands_105 : decode prog_7_method_46_code 105 = .ok (.iaload, 1) := by decide +kernel
theorem d_MO_islands_106 : decode prog_7_method_46_code 106 = .ok (.ifCond .lt 66, 3) := by decide +kernel
theorem d_MO_islands_109 : decode prog_7_method_46_code 109 = .ok (.aload_n 0, 1) := by decide +kernel
theorem d_MO_islands_110 : decode prog_7_method_46_code 110 = .ok (.iload_n 3, 1) := by decide +kernel
theorem d_MO_islands_111 : decode prog_7_method_46_code 111 = .ok (.iload 4, 2) := by decide +kernel
theorem d_MO_islands_113 : decode prog_7_method_46_code 113 = .ok (.invokevirtual 105, 3) := by decide +kernel
theorem d_MO_islands_116 : decode prog_7_method_46_code 116 = .ok (.istore 5, 2) := by decide +kernel
theorem d_MO_islands_118 : decode prog_7_method_46_code 118 = .ok (.iload 5, 2) := by decide +kernel
theorem d_MO_islands_120 : decode prog_7_method_46_code 120 = .ok (.bipush 64, 2) := by decide +kernel
theorem d_MO_islands_122 : decode prog_7_method_46_code 122 = .ok (.if_icmp .eq 44, 3) := by decide +kernel
theorem d_MO_islands_125 : decode prog_7_method_46_code 125 = .ok (.aload_n 0, 1) := by decide +kernel
theorem d_MO_islands_126 : decode prog_7_method_46_code 126 = .ok (.getfield 75, 3) := by decide +kernel
theorem d_MO_islands_129 : decode prog_7_method_46_code 129 = .ok (.iload 5, 2) := by decide +kernel
theorem d_MO_islands_131 : decode prog_7_method_46_code 131 = .ok (.iaload, 1) := by decide +kernel
theorem d_MO_islands_132 : decode prog_7_method_46_code 132 = .ok (.ifCond .lt 34, 3) := by decide +kernel
theorem d_MO_islands_135 : decode prog_7_method_46_code 135 = .ok (.aload_n 0, 1) := by decide +kernel
theorem d_MO_islands_136 : decode prog_7_method_46_code 136 = .ok (.getfield 75, 3) := by decide +kernel
theorem d_MO_islands_139 : decode prog_7_method_46_code 139 = .ok (.iload 5, 2) := by decide +kernel
theorem d_MO_islands_141 : decode prog_7_method_46_code 141 = .ok (.iaload, 1) := by decide +kernel
theorem d_MO_islands_142 : decode prog_7_method_46_code 142 = .ok (.aload_n 0, 1) := by decide +kernel
theorem d_MO_islands_143 : decode prog_7_method_46_code 143 = .ok (.getfield 75, 3) := by decide +kernel
theorem d_MO_islands_146 : decode prog_7_method_46_code 146 = .ok (.iload_n 3, 1) := by decide +kernel
theorem d_MO_islands_147 : decode prog_7_method_46_code 147 = .ok (.iaload, 1) := by decide +kernel
theorem d_MO_islands_148 : decode prog_7_method_46_code 148 = .ok (.if_icmp .ge 18, 3) := by decide +kernel
theorem d_MO_islands_151 : decode prog_7_method_46_code 151 = .ok (.aload_n 0, 1) := by decide +kernel
theorem d_MO_islands_152 : decode prog_7_method_46_code 152 = .ok (.getfield 75, 3) := by decide +kernel
theorem d_MO_islands_155 : decode prog_7_method_46_code 155 = .ok (.iload_n 3, 1) := by decide +kernel
theorem d_MO_islands_156 : decode prog_7_method_46_code 156 = .ok (.aload_n 0, 1) := by decide +kernel
theorem d_MO_islands_157 : decode prog_7_method_46_code 157 = .ok (.getfield 75, 3) := by decide +kernel
theorem d_MO_islands_160 : decode prog_7_method_46_code 160 = .ok (.iload 5, 2) := by decide +kernel
theorem d_MO_islands_162 : decode prog_7_method_46_code 162 = .ok (.iaload, 1) := by decide +kernel
theorem d_MO_islands_163 : decode prog_7_method_46_code 163 = .ok (.iastore, 1) := by decide +kernel
theorem d_MO_islands_164 : decode prog_7_method_46_code 164 = .ok (.iconst 1, 1) := by decide +kernel
theorem d_MO_islands_165 : decode prog_7_method_46_code 165 = .ok (.istore_n 2, 1) := by decide +kernel
theorem d_MO_islands_166 : decode prog_7_method_46_code 166 = .ok (.iinc 4 1, 3) := by decide +kernel
theorem d_MO_islands_169 : decode prog_7_method_46_code 169 = .ok (.goto (-75), 3) := by decide +kernel
theorem d_MO_islands_172 : decode prog_7_method_46_code 172 = .ok (.iinc 3 1, 3) := by decide +kernel
theorem d_MO_islands_175 : decode prog_7_method_46_code 175 = .ok (.goto (-92), 3) := by decide +kernel
theorem d_MO_islands_178 : decode prog_7_method_46_code 178 = .ok (.goto (-103), 3) := by decide +kernel
theorem d_MO_islands_181 : decode prog_7_method_46_code 181 = .ok (.iconst 0, 1) := by decide +kernel
theorem d_MO_islands_182 : decode prog_7_method_46_code 182 = .ok (.istore_n 3, 1) := by decide +kernel
theorem d_MO_islands_183 : decode prog_7_method_46_code 183 = .ok (.iconst 0, 1) := by decide +kernel
theorem d_MO_islands_184 : decode prog_7_method_46_code 184 = .ok (.istore 4, 2) := by decide +kernel
theorem d_MO_islands_186 : decode prog_7_method_46_code 186 = .ok (.iload 4, 2) := by decide +kernel
theorem d_MO_islands_188 : decode prog_7_method_46_code 188 = .ok (.aload_n 0, 1) := by decide +kernel
theorem d_MO_islands_189 : decode prog_7_method_46_code 189 = .ok (.getfield 102, 3) := by decide +kernel
theorem d_MO_islands_192 : decode prog_7_method_46_code 192 = .ok (.if_icmp .ge 29, 3) := by decide +kernel
theorem d_MO_islands_195 : decode prog_7_method_46_code 195 = .ok (.iload_n 3, 1) := by decide +kernel
theorem d_MO_islands_196 : decode prog_7_method_46_code 196 = .ok (.aload_n 0, 1) := by decide +kernel
theorem d_MO_islands_197 : decode prog_7_method_46_code 197 = .ok (.getfield 75, 3) := by decide +kernel
theorem d_MO_islands_200 : decode prog_7_method_46_code 200 = .ok (.iload 4, 2) := by decide +kernel
theorem d_MO_islands_202 : decode prog_7_method_46_code 202 = .ok (.iaload, 1) := by decide +kernel
theorem d_MO_islands_203 : decode prog_7_method_46_code 203 = .ok (.iload 4, 2) := by decide +kernel
theorem d_MO_islands_205 : decode prog_7_method_46_code 205 = .ok (.if_icmp .ne 7, 3) := by decide +kernel
theorem d_MO_islands_208 : decode prog_7_method_46_code 208 = .ok (.iconst 1, 1) := by decide +kernel
theorem d_MO_islands_209 : decode prog_7_method_46_code 209 = .ok (.goto 4, 3) := by decide +kernel
theorem d_MO_islands_212 : decode prog_7_method_46_code 212 = .ok (.iconst 0, 1) := by decide +kernel
theorem d_MO_islands_213 : decode prog_7_method_46_code 213 = .ok (.iadd, 1) := by decide +kernel
theorem d_MO_islands_214 : decode prog_7_method_46_code 214 = .ok (.istore_n 3, 1) := by decide +kernel
theorem d_MO_islands_215 : decode prog_7_method_46_code 215 = .ok (.iinc 4 1, 3) := by decide +kernel
theorem d_MO_islands_218 : decode prog_7_method_46_code 218 = .ok (.goto (-32), 3) := by decide +kernel
theorem d_MO_islands_221 : decode prog_7_method_46_code 221 = .ok (.iload_n 3, 1) := by decide +kernel
theorem d_MO_islands_222 : decode prog_7_method_46_code 222 = .ok (.ireturn, 1) := by decide +kernel
set_option maxHeartbeats 4000000 in
set_option maxRecDepth 100000 in
theorem w_MO_islands_L28 (y1 : Int32)  (C : Cx prog_7_method_46_code 6 "LakeReliefModel" (Option.some Jvm.ClassFile.FieldType.int) p s m args meth c) (hG : Geo D adr cA s) (v : Mem) (hE : ∀ (H : Heap) (locs : List Loc) (ls : Array Slot), va_P D cls (wld adr cA μ v) H → va_S (AA adr) s.heap H locs → lv_has ls 6 [(0, .ref (adr 63))] → W p l e rm_MO_islands s m args below meth c H locs 0 0 Q (F0 m 73 ls [])) : ∀ (n : Nat) (ν : Mem) (y2 : Int32), f_MO_islands_L28 y1 n ν y2 = some v → ∀ {H : Heap} {locs : List Loc} {ls : Array Slot}, va_P D cls (wld adr cA μ ν) H → va_S (AA adr) s.heap H locs → lv_has ls 6 [(0, .ref (adr 63)), (1, .int y1), (2, .int y2)] → W p l e rm_MO_islands s m args below meth c H locs 0 0 Q (F0 m 28 ls []) := by
  obtain ⟨hx, hb, hml, hown, hts, hr, hlocks⟩ := id C
  intro n
  induction n with
  | zero => intro ν y2 hf; rw [f_MO_islands_L28.eq_1] at hf; cases hf
  | succ n ih =>
    intro ν y2 hf H locs ls hP hS hl
    rw [f_MO_islands_L28.eq_2] at hf
    refine lv_iload_n hx hb d_MO_islands_28 rfl (lv_at hl 2 rfl) ?_
    refine lv_aload_n hx hb d_MO_islands_29 rfl (lv_at hl 0 rfl) ?_
    refine g_MO_fields hx hb hts hown hG hP (hts _ in_566) d_MO_islands_30 ?_
    refine lv_icmp_ge (tgt := 73) hx hb d_MO_islands_33 (by decide) (fun hc => ?_) (fun hc => ?_)
    · replace hf := if_p hc hf
      obtain rfl := Option.some.inj hf
      exact hE _ _ _ hP hS (lv_sub hl [0] rfl)
    · replace hf := if_n hc hf
      refine lv_aload_n hx hb d_MO_islands_36 rfl (lv_at hl 0 rfl) ?_
      refine g_MO_island hx hb hts hown hG hP (hts _ in_589) d_MO_islands_37 ?_
      refine lv_iload_n hx hb d_MO_islands_40 rfl (lv_at hl 2 rfl) ?_
      refine lv_aload_n hx hb d_MO_islands_41 rfl (lv_at hl 0 rfl) ?_
      refine g_MO_isSea hx hb hts hown hG hP (hts _ in_567) d_MO_islands_42 ?_
      refine lv_iload_n hx hb d_MO_islands_45 rfl (lv_at hl 2 rfl) ?_
      replace hf := G_some hf
      obtain ⟨hi1, hf⟩ := hf
      refine r_zald hx hb hG hP 67 64 (f := ν.1 67) (by decide) (wc_M (by decide) rfl) hi1 d_MO_islands_46 ?_
      replace hf := B_some hf
      obtain ⟨v2, hv2, hf⟩ := hf
      have hJ : ∀ (H : Heap) (locs : List Loc) (ls : Array Slot), va_P D cls (wld adr cA μ ν) H → va_S (AA adr) s.heap H locs → lv_has ls 6 [(0, .ref (adr 63)), (1, .int y1), (2, .int y2)] → W p l e rm_MO_islands s m args below meth c H locs 0 0 Q (F0 m 66 ls [.int v2, .int y2, .ref (adr 85)]) := by
        clear hv2
        intro H locs ls hP hS hl
        replace hf := G_some hf
        obtain ⟨hi4, hf⟩ := hf
        refine rM_iast hx hb hG hP hS 85 64 (by decide) (by decide) (fun _ _ => rfl) hi4 d_MO_islands_66 (fun H locs hP hS => ?_)
        refine lv_iinc (v := (y2 + 1)) (lv' := [(2, .int (y2 + 1)), (0, .ref (adr 63)), (1, .int y1)]) hx hb d_MO_islands_67 hl (k := 2) rfl rfl (by decide) rfl (fun ls hl => ?_)
        refine lv_goto (tgt := 28) hx hb d_MO_islands_70 (by decide) ?_
        exact ih _ _ hf hP hS (lv_sub hl [1, 2, 0] rfl)
      clear hf
      have hf := hv2
      clear hv2
      refine lv_if_ne (tgt := 60) hx hb d_MO_islands_47 (by decide) (fun hc => ?_) (fun hc => ?_)
      · replace hf := if_n hc hf
        refine lv_bipush (v := (-3)) hx hb d_MO_islands_60 (by decide) ?_
        refine lv_goto (tgt := 66) hx hb d_MO_islands_62 (by decide) ?_
        obtain rfl := Option.some.inj hf
        exact hJ _ _ _ hP hS (lv_sub hl [0, 1, 2] rfl)
      · replace hf := if_p hc hf
        refine lv_aload_n hx hb d_MO_islands_50 rfl (lv_at hl 0 rfl) ?_
        refine g_MO_fill hx hb hts hown hG hP (hts _ in_571) d_MO_islands_51 ?_
        refine lv_iload_n hx hb d_MO_islands_54 rfl (lv_at hl 2 rfl) ?_
        replace hf := G_some hf
        obtain ⟨hi3, hf⟩ := hf
        refine r_iald hx hb hG hP 71 64 (f := ν.1 71) (by decide) (wc_M (by decide) rfl) hi3 d_MO_islands_55 ?_
        refine lv_iload_n hx hb d_MO_islands_56 rfl (lv_at hl 1 rfl) ?_
        refine lv_icmp_ge (tgt := 65) hx hb d_MO_islands_57 (by decide) (fun hc => ?_) (fun hc => ?_)
        · replace hf := if_p hc hf
          refine lv_iload_n hx hb d_MO_islands_65 rfl (lv_at hl 2 rfl) ?_
          obtain rfl := Option.some.inj hf
          exact hJ _ _ _ hP hS (lv_sub hl [0, 1, 2] rfl)
        · replace hf := if_n hc hf
          refine lv_bipush (v := (-3)) hx hb d_MO_islands_60 (by decide) ?_
          refine lv_goto (tgt := 66) hx hb d_MO_islands_62 (by decide) ?_
          obtain rfl := Option.some.inj hf
          exact hJ _ _ _ hP hS (lv_sub hl [0, 1, 2] rfl)
set_option maxHeartbeats 4000000 in
set_option maxRecDepth 100000 in
theorem w_MO_islands_L94 (y3 : Int32)  (C : Cx prog_7_method_46_code 6 "LakeReliefModel" (Option.some Jvm.ClassFile.FieldType.int) p s m args meth c) (hG : Geo D adr cA s) (v : Int32 × Mem) (hE : ∀ (H : Heap) (locs : List Loc) (ls : Array Slot), va_P D cls (wld adr cA μ v.2) H → va_S (AA adr) s.heap H locs → lv_has ls 6 [(0, .ref (adr 63)), (2, .int v.1), (3, .int y3)] → W p l e rm_MO_islands s m args below meth c H locs 0 0 Q (F0 m 172 ls [])) : ∀ (n : Nat) (ν : Mem) (y2 : Int32) (y4 : Int32), f_MO_islands_L94 y3 n ν y2 y4 = some v → ∀ {H : Heap} {locs : List Loc} {ls : Array Slot}, va_P D cls (wld adr cA μ ν) H → va_S (AA adr) s.heap H locs → lv_has ls 6 [(0, .ref (adr 63)), (2, .int y2), (3, .int y3), (4, .int y4)] → W p l e rm_MO_islands s m args below meth c H locs 0 0 Q (F0 m 94 ls []) := by
  obtain ⟨hx, hb, hml, hown, hts, hr, hlocks⟩ := id C
  intro n
  induction n with
  | zero => intro ν y2 y4 hf; rw [f_MO_islands_L94.eq_1] at hf; cases hf
  | succ n ih =>
    intro ν y2 y4 hf H locs ls hP hS hl
    rw [f_MO_islands_L94.eq_2] at hf
    refine lv_iload hx hb d_MO_islands_94 (lv_at hl 3 rfl) ?_
    refine lv_iconst (v := 4) hx hb d_MO_islands_96 (by decide) ?_
    refine lv_icmp_ge (tgt := 172) hx hb d_MO_islands_97 (by decide) (fun hc => ?_) (fun hc => ?_)
    · replace hf := if_p hc hf
      obtain rfl := Option.some.inj hf
      exact hE _ _ _ hP hS (lv_sub hl [0, 1, 2] rfl)
    · replace hf := if_n hc hf
      refine lv_aload_n hx hb d_MO_islands_100 rfl (lv_at hl 0 rfl) ?_
      refine g_MO_island hx hb hts hown hG hP (hts _ in_589) d_MO_islands_101 ?_
      refine lv_iload_n hx hb d_MO_islands_104 rfl (lv_at hl 2 rfl) ?_
      replace hf := G_some hf
      obtain ⟨hi6, hf⟩ := hf
      refine r_iald hx hb hG hP 85 64 (f := ν.1 85) (by decide) (wc_M (by decide) rfl) hi6 d_MO_islands_105 ?_
      refine lv_if_lt (tgt := 172) hx hb d_MO_islands_106 (by decide) (fun hc => ?_) (fun hc => ?_)
      · replace hf := if_p hc hf
        obtain rfl := Option.some.inj hf
        exact hE _ _ _ hP hS (lv_sub hl [0, 1, 2] rfl)
      · replace hf := if_n hc hf
        refine lv_aload_n hx hb d_MO_islands_109 rfl (lv_at hl 0 rfl) ?_
        refine lv_iload_n hx hb d_MO_islands_110 rfl (lv_at hl 2 rfl) ?_
        refine lv_iload hx hb d_MO_islands_111 (lv_at hl 3 rfl) ?_
        replace hf := B_some hf
        obtain ⟨v7, hv7, hf⟩ := hf
        refine ki (kv (As := [.int y3, .int y4]) (rest := []) ⟨hx, hb, hml, hown, hts⟩ (cw_MO_105 hts ⟨Nat.le_of_ble_eq_true rfl, Nat.le_of_ble_eq_true rfl⟩) (c_MO_beside l D adr cA μ ν y3 y4 hv7) hG hP (rc_o (q := 63) (ci := 5) hG hP (by decide) (wc_M (by decide) rfl) rfl) rfl hl.1 (Nat.le_of_ble_eq_true rfl) d_MO_islands_113) hS (fun H locs hP hS => ?_)
        refine lv_istore (lv' := [(5, .int v7), (0, .ref (adr 63)), (2, .int y2), (3, .int y3), (4, .int y4)]) hx hb d_MO_islands_116 hl (by decide) rfl (fun ls hl => ?_)
        refine lv_iload hx hb d_MO_islands_118 (lv_at hl 0 rfl) ?_
        refine lv_bipush (v := 64) hx hb d_MO_islands_120 (by decide) ?_
        replace hf := B_some hf
        obtain ⟨v8, hv8, hf⟩ := hf
        have hJ : ∀ (H : Heap) (locs : List Loc) (ls : Array Slot), va_P D cls (wld adr cA μ v8.2) H → va_S (AA adr) s.heap H locs → lv_has ls 6 [(0, .ref (adr 63)), (2, .int v8.1), (3, .int y3), (4, .int y4)] → W p l e rm_MO_islands s m args below meth c H locs 0 0 Q (F0 m 166 ls []) := by
          clear hv8
          intro H locs ls hP hS hl
          refine lv_iinc (v := (y4 + 1)) (lv' := [(4, .int (y4 + 1)), (0, .ref (adr 63)), (2, .int v8.1), (3, .int y3)]) hx hb d_MO_islands_166 hl (k := 3) rfl rfl (by decide) rfl (fun ls hl => ?_)
          refine lv_goto (tgt := 94) hx hb d_MO_islands_169 (by decide) ?_
          exact ih _ _ _ hf hP hS (lv_sub hl [1, 2, 3, 0] rfl)
        clear hf
        have hf := hv8
        clear hv8
        refine lv_icmp_eq (tgt := 166) hx hb d_MO_islands_122 (by decide) (fun hc => ?_) (fun hc => ?_)
        · replace hf := if_p hc hf
          obtain rfl := Option.some.inj hf
          exact hJ _ _ _ hP hS (lv_sub hl [1, 2, 3, 4] rfl)
        · replace hf := if_n hc hf
          refine lv_aload_n hx hb d_MO_islands_125 rfl (lv_at hl 1 rfl) ?_
          refine g_MO_island hx hb hts hown hG hP (hts _ in_589) d_MO_islands_126 ?_
          refine lv_iload hx hb d_MO_islands_129 (lv_at hl 0 rfl) ?_
          replace hf := G_some hf
          obtain ⟨hi9, hf⟩ := hf
          refine r_iald hx hb hG hP 85 64 (f := ν.1 85) (by decide) (wc_M (by decide) rfl) hi9 d_MO_islands_131 ?_
          refine lv_if_lt (tgt := 166) hx hb d_MO_islands_132 (by decide) (fun hc => ?_) (fun hc => ?_)
          · replace hf := if_p hc hf
            obtain rfl := Option.some.inj hf
            exact hJ _ _ _ hP hS (lv_sub hl [1, 2, 3, 4] rfl)
          · replace hf := if_n hc hf
            refine lv_aload_n hx hb d_MO_islands_135 rfl (lv_at hl 1 rfl) ?_
            refine g_MO_island hx hb hts hown hG hP (hts _ in_589) d_MO_islands_136 ?_
            refine lv_iload hx hb d_MO_islands_139 (lv_at hl 0 rfl) ?_
            replace hf := G_some hf
            obtain ⟨hi10, hf⟩ := hf
            refine r_iald hx hb hG hP 85 64 (f := ν.1 85) (by decide) (wc_M (by decide) rfl) hi10 d_MO_islands_141 ?_
            refine lv_aload_n hx hb d_MO_islands_142 rfl (lv_at hl 1 rfl) ?_
            refine g_MO_island hx hb hts hown hG hP (hts _ in_589) d_MO_islands_143 ?_
            refine lv_iload_n hx hb d_MO_islands_146 rfl (lv_at hl 3 rfl) ?_
            replace hf := G_some hf
            obtain ⟨hi11, hf⟩ := hf
            refine r_iald hx hb hG hP 85 64 (f := ν.1 85) (by decide) (wc_M (by decide) rfl) hi11 d_MO_islands_147 ?_
            refine lv_icmp_ge (tgt := 166) hx hb d_MO_islands_148 (by decide) (fun hc => ?_) (fun hc => ?_)
            · replace hf := if_p hc hf
              obtain rfl := Option.some.inj hf
              exact hJ _ _ _ hP hS (lv_sub hl [1, 2, 3, 4] rfl)
            · replace hf := if_n hc hf
              refine lv_aload_n hx hb d_MO_islands_151 rfl (lv_at hl 1 rfl) ?_
              refine g_MO_island hx hb hts hown hG hP (hts _ in_589) d_MO_islands_152 ?_
              refine lv_iload_n hx hb d_MO_islands_155 rfl (lv_at hl 3 rfl) ?_
              refine lv_aload_n hx hb d_MO_islands_156 rfl (lv_at hl 1 rfl) ?_
              refine g_MO_island hx hb hts hown hG hP (hts _ in_589) d_MO_islands_157 ?_
              refine lv_iload hx hb d_MO_islands_160 (lv_at hl 0 rfl) ?_
              replace hf := G_some hf
              obtain ⟨hi12, hf⟩ := hf
              refine r_iald hx hb hG hP 85 64 (f := ν.1 85) (by decide) (wc_M (by decide) rfl) hi12 d_MO_islands_162 ?_
              replace hf := G_some hf
              obtain ⟨hi13, hf⟩ := hf
              refine rM_iast hx hb hG hP hS 85 64 (by decide) (by decide) (fun _ _ => rfl) hi13 d_MO_islands_163 (fun H locs hP hS => ?_)
              refine lv_iconst (v := 1) hx hb d_MO_islands_164 (by decide) ?_
              refine lv_istore_n (lv' := [(2, .int 1), (5, .int v7), (0, .ref (adr 63)), (3, .int y3), (4, .int y4)]) hx hb d_MO_islands_165 rfl hl (by decide) rfl (fun ls hl => ?_)
              obtain rfl := Option.some.inj hf
              exact hJ _ _ _ hP hS (lv_sub hl [2, 0, 3, 4] rfl)
set_option maxHeartbeats 4000000 in
set_option maxRecDepth 100000 in
theorem w_MO_islands_L83   (C : Cx prog_7_method_46_code 6 "LakeReliefModel" (Option.some Jvm.ClassFile.FieldType.int) p s m args meth c) (hG : Geo D adr cA s) (v : Int32 × Mem) (hE : ∀ (H : Heap) (locs : List Loc) (ls : Array Slot), va_P D cls (wld adr cA μ v.2) H → va_S (AA adr) s.heap H locs → lv_has ls 6 [(0, .ref (adr 63)), (2, .int v.1)] → W p l e rm_MO_islands s m args below meth c H locs 0 0 Q (F0 m 178 ls [])) : ∀ (n : Nat) (ν : Mem) (y2 : Int32) (y3 : Int32), f_MO_islands_L83 n ν y2 y3 = some v → ∀ {H : Heap} {locs : List Loc} {ls : Array Slot}, va_P D cls (wld adr cA μ ν) H → va_S (AA adr) s.heap H locs → lv_has ls 6 [(0, .ref (adr 63)), (2, .int y2), (3, .int y3)] → W p l e rm_MO_islands s m args below meth c H locs 0 0 Q (F0 m 83 ls []) := by
  obtain ⟨hx, hb, hml, hown, hts, hr, hlocks⟩ := id C
  intro n
  induction n with
  | zero => intro ν y2 y3 hf; rw [f_MO_islands_L83.eq_1] at hf; cases hf
  | succ n ih =>
    intro ν y2 y3 hf H locs ls hP hS hl
    rw [f_MO_islands_L83.eq_2] at hf
    refine lv_iload_n hx hb d_MO_islands_83 rfl (lv_at hl 2 rfl) ?_
    refine lv_aload_n hx hb d_MO_islands_84 rfl (lv_at hl 0 rfl) ?_
    refine g_MO_fields hx hb hts hown hG hP (hts _ in_566) d_MO_islands_85 ?_
    refine lv_icmp_ge (tgt := 178) hx hb d_MO_islands_88 (by decide) (fun hc => ?_) (fun hc => ?_)
    · replace hf := if_p hc hf
      obtain rfl := Option.some.inj hf
      exact hE _ _ _ hP hS (lv_sub hl [0, 1] rfl)
    · replace hf := if_n hc hf
      refine lv_iconst (v := 0) hx hb d_MO_islands_91 (by decide) ?_
      refine lv_istore (lv' := [(4, .int 0), (0, .ref (adr 63)), (2, .int y2), (3, .int y3)]) hx hb d_MO_islands_92 hl (by decide) rfl (fun ls hl => ?_)
      replace hf := B_some hf
      obtain ⟨v14, hv14, hf⟩ := hf
      refine w_MO_islands_L94 y3  C hG v14 ?_ FU _ _ _ hv14 hP hS (lv_sub hl [1, 2, 3, 0] rfl)
      clear hv14 hP hS hl
      intro H locs ls hP hS hl
      refine lv_iinc (v := (y3 + 1)) (lv' := [(3, .int (y3 + 1)), (0, .ref (adr 63)), (2, .int v14.1)]) hx hb d_MO_islands_172 hl (k := 2) rfl rfl (by decide) rfl (fun ls hl => ?_)
      refine lv_goto (tgt := 83) hx hb d_MO_islands_175 (by decide) ?_
      exact ih _ _ _ hf hP hS (lv_sub hl [1, 2, 0] rfl)
set_option maxHeartbeats 4000000 in
set_option maxRecDepth 100000 in
theorem w_MO_islands_L75   (C : Cx prog_7_method_46_code 6 "LakeReliefModel" (Option.some Jvm.ClassFile.FieldType.int) p s m args meth c) (hG : Geo D adr cA s) (v : Mem) (hE : ∀ (H : Heap) (locs : List Loc) (ls : Array Slot), va_P D cls (wld adr cA μ v) H → va_S (AA adr) s.heap H locs → lv_has ls 6 [(0, .ref (adr 63))] → W p l e rm_MO_islands s m args below meth c H locs 0 0 Q (F0 m 181 ls [])) : ∀ (n : Nat) (ν : Mem) (y2 : Int32), f_MO_islands_L75 n ν y2 = some v → ∀ {H : Heap} {locs : List Loc} {ls : Array Slot}, va_P D cls (wld adr cA μ ν) H → va_S (AA adr) s.heap H locs → lv_has ls 6 [(0, .ref (adr 63)), (2, .int y2)] → W p l e rm_MO_islands s m args below meth c H locs 0 0 Q (F0 m 75 ls []) := by
  obtain ⟨hx, hb, hml, hown, hts, hr, hlocks⟩ := id C
  intro n
  induction n with
  | zero => intro ν y2 hf; rw [f_MO_islands_L75.eq_1] at hf; cases hf
  | succ n ih =>
    intro ν y2 hf H locs ls hP hS hl
    rw [f_MO_islands_L75.eq_2] at hf
    refine lv_iload_n hx hb d_MO_islands_75 rfl (lv_at hl 1 rfl) ?_
    refine lv_if_eq (tgt := 181) hx hb d_MO_islands_76 (by decide) (fun hc => ?_) (fun hc => ?_)
    · replace hf := if_p hc hf
      obtain rfl := Option.some.inj hf
      exact hE _ _ _ hP hS (lv_sub hl [0] rfl)
    · replace hf := if_n hc hf
      refine lv_iconst (v := 0) hx hb d_MO_islands_79 (by decide) ?_
      refine lv_istore_n (lv' := [(2, .int 0), (0, .ref (adr 63))]) hx hb d_MO_islands_80 rfl hl (by decide) rfl (fun ls hl => ?_)
      refine lv_iconst (v := 0) hx hb d_MO_islands_81 (by decide) ?_
      refine lv_istore_n (lv' := [(3, .int 0), (2, .int 0), (0, .ref (adr 63))]) hx hb d_MO_islands_82 rfl hl (by decide) rfl (fun ls hl => ?_)
      replace hf := B_some hf
      obtain ⟨v15, hv15, hf⟩ := hf
      refine w_MO_islands_L83   C hG v15 ?_ FU _ _ _ hv15 hP hS (lv_sub hl [2, 1, 0] rfl)
      clear hv15 hP hS hl
      intro H locs ls hP hS hl
      refine lv_goto (tgt := 75) hx hb d_MO_islands_178 (by decide) ?_
      exact ih _ _ hf hP hS (lv_sub hl [0, 1] rfl)
set_option maxHeartbeats 4000000 in
set_option maxRecDepth 100000 in
theorem w_MO_islands_L186   (C : Cx prog_7_method_46_code 6 "LakeReliefModel" (Option.some Jvm.ClassFile.FieldType.int) p s m args meth c) (hG : Geo D adr cA s) (v : Int32) (hE : ∀ (H : Heap) (locs : List Loc) (ls : Array Slot), va_P D cls (wld adr cA μ ν) H → va_S (AA adr) s.heap H locs → lv_has ls 6 [(3, .int v)] → W p l e rm_MO_islands s m args below meth c H locs 0 0 Q (F0 m 221 ls [])) : ∀ (n : Nat) (y3 : Int32) (y4 : Int32), f_MO_islands_L186 ν n y3 y4 = some v → ∀ {H : Heap} {locs : List Loc} {ls : Array Slot}, va_P D cls (wld adr cA μ ν) H → va_S (AA adr) s.heap H locs → lv_has ls 6 [(0, .ref (adr 63)), (3, .int y3), (4, .int y4)] → W p l e rm_MO_islands s m args below meth c H locs 0 0 Q (F0 m 186 ls []) := by
  obtain ⟨hx, hb, hml, hown, hts, hr, hlocks⟩ := id C
  intro n
  induction n with
  | zero => intro y3 y4 hf; rw [f_MO_islands_L186.eq_1] at hf; cases hf
  | succ n ih =>
    intro y3 y4 hf H locs ls hP hS hl
    rw [f_MO_islands_L186.eq_2] at hf
    refine lv_iload hx hb d_MO_islands_186 (lv_at hl 2 rfl) ?_
    refine lv_aload_n hx hb d_MO_islands_188 rfl (lv_at hl 0 rfl) ?_
    refine g_MO_fields hx hb hts hown hG hP (hts _ in_566) d_MO_islands_189 ?_
    refine lv_icmp_ge (tgt := 221) hx hb d_MO_islands_192 (by decide) (fun hc => ?_) (fun hc => ?_)
    · replace hf := if_p hc hf
      obtain rfl := Option.some.inj hf
      exact hE _ _ _ hP hS (lv_sub hl [1] rfl)
    · replace hf := if_n hc hf
      refine lv_iload_n hx hb d_MO_islands_195 rfl (lv_at hl 1 rfl) ?_
      refine lv_aload_n hx hb d_MO_islands_196 rfl (lv_at hl 0 rfl) ?_
      refine g_MO_island hx hb hts hown hG hP (hts _ in_589) d_MO_islands_197 ?_
      refine lv_iload hx hb d_MO_islands_200 (lv_at hl 2 rfl) ?_
      replace hf := G_some hf
      obtain ⟨hi17, hf⟩ := hf
      refine r_iald hx hb hG hP 85 64 (f := ν.1 85) (by decide) (wc_M (by decide) rfl) hi17 d_MO_islands_202 ?_
      refine lv_iload hx hb d_MO_islands_203 (lv_at hl 2 rfl) ?_
      replace hf := B_some hf
      obtain ⟨v18, hv18, hf⟩ := hf
      have hJ : ∀ (H : Heap) (locs : List Loc) (ls : Array Slot), va_P D cls (wld adr cA μ ν) H → va_S (AA adr) s.heap H locs → lv_has ls 6 [(0, .ref (adr 63)), (4, .int y4)] → W p l e rm_MO_islands s m args below meth c H locs 0 0 Q (F0 m 213 ls [.int v18, .int y3]) := by
        clear hv18
        intro H locs ls hP hS hl
        refine lv_iadd hx hb d_MO_islands_213 ?_
        refine lv_istore_n (lv' := [(3, .int (y3 + v18)), (0, .ref (adr 63)), (4, .int y4)]) hx hb d_MO_islands_214 rfl hl (by decide) rfl (fun ls hl => ?_)
        refine lv_iinc (v := (y4 + 1)) (lv' := [(4, .int (y4 + 1)), (3, .int (y3 + v18)), (0, .ref (adr 63))]) hx hb d_MO_islands_215 hl (k := 2) rfl rfl (by decide) rfl (fun ls hl => ?_)
        refine lv_goto (tgt := 186) hx hb d_MO_islands_218 (by decide) ?_
        exact ih _ _ hf hP hS (lv_sub hl [2, 1, 0] rfl)
      clear hf
      have hf := hv18
      clear hv18
      refine lv_icmp_ne (tgt := 212) hx hb d_MO_islands_205 (by decide) (fun hc => ?_) (fun hc => ?_)
      · replace hf := if_n hc hf
        refine lv_iconst (v := 0) hx hb d_MO_islands_212 (by decide) ?_
        obtain rfl := Option.some.inj hf
        exact hJ _ _ _ hP hS (lv_sub hl [0, 2] rfl)
      · replace hf := if_p hc hf
        refine lv_iconst (v := 1) hx hb d_MO_islands_208 (by decide) ?_
        refine lv_goto (tgt := 213) hx hb d_MO_islands_209 (by decide) ?_
        obtain rfl := Option.some.inj hf
        exact hJ _ _ _ hP hS (lv_sub hl [0, 2] rfl)
set_option maxHeartbeats 4000000 in
set_option maxRecDepth 100000 in
theorem w_MO_islands (x1 : Int32)  (C : Cx prog_7_method_46_code 6 "LakeReliefModel" (Option.some Jvm.ClassFile.FieldType.int) p s m args meth c) (hG : Geo D adr cA s) {res : Int32 × Mem} (hf : f_MO_islands ν x1 = some res) (hq : ∀ (pc : Nat) (ls : Array Slot) (H : Heap) (locs : List Loc), decode prog_7_method_46_code pc = .ok (.ireturn, 1) → va_P D cls (wld adr cA μ res.2) H → va_S (AA adr) s.heap H locs → W p l e rm_MO_islands s m args below meth c H locs 0 0 Q (F0 m pc ls [.int res.1])) {H : Heap} {locs : List Loc} {ls : Array Slot} (hP : va_P D cls (wld adr cA μ ν) H) (hS : va_S (AA adr) s.heap H locs) (hl : lv_has ls 6 [(0, .ref (adr 63)), (1, .int x1)]) : W p l e rm_MO_islands s m args below meth c H locs 0 0 Q (F0 m 0 ls []) := by
  obtain ⟨hx, hb, hml, hown, hts, hr, hlocks⟩ := id C
  unfold f_MO_islands at hf
  refine lv_aload_n hx hb d_MO_islands_0 rfl (lv_at hl 0 rfl) ?_
  refine g_MO_isLaid hx hb hts hown hG hP (hts _ in_564) d_MO_islands_1 ?_
  refine lv_if_ne (tgt := 10) hx hb d_MO_islands_4 (by decide) (fun hc => ?_) (fun hc => ?_)
  · replace hf := if_n hc hf
    refine lv_iload_n hx hb d_MO_islands_10 rfl (lv_at hl 1 rfl) ?_
    refine lv_i2l hx hb d_MO_islands_11 rfl ?_
    refine lv_ldc2 (v := (-1000000)) hx hb hown (hts _ in_694) d_MO_islands_12 ?_
    refine lv_ldc2 (v := 1000001) hx hb hown (hts _ in_837) d_MO_islands_15 ?_
    refine ki (ks (As := [.long x1.toInt64, .long (-1000000), .long 1000001]) (rest := []) ⟨hx, hb, hml, hown, hts⟩ (cw_MO_80 hts ⟨Nat.le_of_ble_eq_true rfl, Nat.le_of_ble_eq_true rfl⟩) (c_MO_in l D adr cA μ ν x1.toInt64 (-1000000) 1000001) hG hP rfl hl.1 (Nat.le_of_ble_eq_true rfl) d_MO_islands_18) hS (fun H locs hP hS => ?_)
    refine lv_if_ne (tgt := 26) hx hb d_MO_islands_21 (by decide) (fun hc => ?_) (fun hc => ?_)
    · replace hf := if_n hc hf
      refine lv_iconst (v := 0) hx hb d_MO_islands_26 (by decide) ?_
      refine lv_istore_n (lv' := [(2, .int 0), (0, .ref (adr 63)), (1, .int x1)]) hx hb d_MO_islands_27 rfl hl (by decide) rfl (fun ls hl => ?_)
      replace hf := B_some hf
      obtain ⟨v5, hv5, hf⟩ := hf
      refine w_MO_islands_L28 x1  C hG v5 ?_ FU _ _ hv5 hP hS (lv_sub hl [1, 2, 0] rfl)
      clear hv5 hP hS hl
      intro H locs ls hP hS hl
      refine lv_iconst (v := 1) hx hb d_MO_islands_73 (by decide) ?_
      refine lv_istore_n (lv' := [(2, .int 1), (0, .ref (adr 63))]) hx hb d_MO_islands_74 rfl hl (by decide) rfl (fun ls hl => ?_)
      replace hf := B_some hf
      obtain ⟨v16, hv16, hf⟩ := hf
      refine w_MO_islands_L75   C hG v16 ?_ FU _ _ hv16 hP hS (lv_sub hl [1, 0] rfl)
      clear hv16 hP hS hl
      intro H locs ls hP hS hl
      refine lv_iconst (v := 0) hx hb d_MO_islands_181 (by decide) ?_
      refine lv_istore_n (lv' := [(3, .int 0), (0, .ref (adr 63))]) hx hb d_MO_islands_182 rfl hl (by decide) rfl (fun ls hl => ?_)
      refine lv_iconst (v := 0) hx hb d_MO_islands_183 (by decide) ?_
      refine lv_istore (lv' := [(4, .int 0), (3, .int 0), (0, .ref (adr 63))]) hx hb d_MO_islands_184 hl (by decide) rfl (fun ls hl => ?_)
      replace hf := B_some hf
      obtain ⟨v19, hv19, hf⟩ := hf
      refine w_MO_islands_L186   C hG v19 ?_ FU _ _ hv19 hP hS (lv_sub hl [2, 1, 0] rfl)
      clear hv19 hP hS hl
      intro H locs ls hP hS hl
      refine lv_iload_n hx hb d_MO_islands_221 rfl (lv_at hl 0 rfl) ?_
      obtain rfl := Option.some.inj hf
      exact hq _ _ _ _ d_MO_islands_222 hP hS
    · replace hf := if_p hc hf
      refine lv_iconst (v := (-1)) hx hb d_MO_islands_24 (by decide) ?_
      obtain rfl := Option.some.inj hf
      exact hq _ _ _ _ d_MO_islands_25 hP hS
  · replace hf := if_p hc hf
    refine lv_bipush (v := (-2)) hx hb d_MO_islands_7 (by decide) ?_
    obtain rfl := Option.some.inj hf
    exact hq _ _ _ _ d_MO_islands_9 hP hS
theorem c_MO_islands (l : Launch) (D : va_G) (adr : Nat → Nat) (cA : Nat → ClassId) (μ ν : Mem) (x1 : Int32)  {res : Int32 × Mem} (hf : f_MO_islands ν x1 = some res) : Met l y_MO_islands (Cond.code y_MO_islands prog_7_method_46_code 6 (Option.some Jvm.ClassFile.FieldType.int) :: lw_ok) rm_MO_islands (va_Pc [.ref (adr 63), .int x1] (Wd D adr cA μ ν)) (QI D adr cA res.1 μ res.2) 0 0 (AA adr) :=
  met_of (own := "LakeReliefModel") rfl rfl (Nat.le_of_ble_eq_true rfl) (fun p e s m below meth c C hG hP hS ls hl => w_MO_islands x1  C hG hf (fun pc ls H locs hd hP hS => ret_i C.1 C.2.1 C.2.2.2.2.2.1 C.2.2.2.2.2.2 hG hd hP hS) hP hS hl)
end X_MO_islands
