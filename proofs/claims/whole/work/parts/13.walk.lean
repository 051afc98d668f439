section X_RE_insertByHeight
variable {p : Program} {l : Launch} {e : Env} {s : State} {m : MethodId} {args : Array Value} {below : List Frame} {meth : Method} {c : Code} {Q : State → Prop}
variable {D : va_G} {adr : Nat → Nat} {cA : Nat → ClassId} {μ ν : Mem}
theorem d_RE_insertByHeight_0 : decode prog_4_method_11_code 0 = .ok (.iload_n 2, 1) := by decide +kernel
theorem d_RE_insertByHeight_1 : decode prog_4_method_11_code 1 = .ok (.istore_n 3, 1) := by decide +kernel
theorem d_RE_insertByHeight_2 : decode prog_4_method_11_code 2 = .ok (.iload_n 3, 1) := by decide +kernel
theorem d_RE_insertByHeight_3 : decode prog_4_method_11_code 3 = .ok (.ifCond .le 39, 3) := by decide +kernel
theorem d_RE_insertByHeight_6 : decode prog_4_method_11_code 6 = .ok (.aload_n 0, 1) := by decide +kernel
theorem d_RE_insertByHeight_7 : decode prog_4_method_11_code 7 = .ok (.iload_n 1, 1) := by decide +kernel
theorem d_RE_insertByHeight_8 : decode prog_4_method_11_code 8 = .ok (.aload_n 0, 1) := by decide +kernel
theorem d_RE_insertByHeight_9 : decode prog_4_method_11_code 9 = .ok (.getfield 24, 3) := by decide +kernel
theorem d_RE_insertByHeight_12 : decode prog_4_method_11_code 12 = .ok (.iload_n 3, 1) := by decide +kernel
theorem d_RE_insertByHeight_13 : decode prog_4_method_11_code 13 = .ok (.iconst 1, 1) := by decide +kernel
theorem d_RE_insertByHeight_14 : decode prog_4_method_11_code 14 = .ok (.isub, 1) := by decide +kernel
theorem d_RE_insertByHeight_15 : decode prog_4_method_11_code 15 = .ok (.iaload, 1) := by decide +kernel
theorem d_RE_insertByHeight_16 : decode prog_4_method_11_code 16 = .ok (.invokevirtual 82, 3) := by decide +kernel
theorem d_RE_insertByHeight_19 : decode prog_4_method_11_code 19 = .ok (.ifCond .eq 23, 3) := by decide +kernel
theorem d_RE_insertByHeight_22 : decode prog_4_method_11_code 22 = .ok (.aload_n 0, 1) := by decide +kernel
theorem d_RE_insertByHeight_23 : decode prog_4_method_11_code 23 = .ok (.getfield 24, 3) := by decide +kernel
theorem d_RE_insertByHeight_26 : decode prog_4_method_11_code 26 = .ok (.iload_n 3, 1) := by decide +kernel
theorem d_RE_insertByHeight_27 : decode prog_4_method_11_code 27 = .ok (.aload_n 0, 1) := by decide +kernel
theorem d_RE_insertByHeight_28 : decode prog_4_method_11_code 28 = .ok (.getfield 24, 3) := by decide +kernel
theorem d_RE_insertByHeight_31 : decode prog_4_method_11_code 31 = .ok (.iload_n 3, 1) := by decide +kernel
theorem d_RE_insertByHeight_32 : decode prog_4_method_11_code 32 = .ok (.iconst 1, 1) := by decide +kernel
theorem d_RE_insertByHeight_33 : decode prog_4_method_11_code 33 = .ok (.isub, 1) := by decide +kernel
theorem d_RE_insertByHeight_34 : decode prog_4_method_11_code 34 = .ok (.iaload, 1) := by decide +kernel
theorem d_RE_insertByHeight_35 : decode prog_4_method_11_code 35 = .ok (.iastore, 1) := by decide +kernel
theorem d_RE_insertByHeight_36 : decode prog_4_method_11_code 36 = .ok (.iinc 3 (-1), 3) := by decide +kernel
theorem d_RE_insertByHeight_39 : decode prog_4_method_11_code 39 = .ok (.goto (-37), 3) := by decide +kernel
theorem d_RE_insertByHeight_42 : decode prog_4_method_11_code 42 = .ok (.aload_n 0, 1) := by decide +kernel
theorem d_RE_insertByHeight_43 : decode prog_4_method_11_code 43 = .ok (.getfield 24, 3) := by decide +kernel
theorem d_RE_insertByHeight_46 : decode prog_4_method_11_code 46 = .ok (.iload_n 3, 1) := by decide +kernel
theorem d_RE_insertByHeight_47 : decode prog_4_method_11_code 47 = .ok (.iload_n 1, 1) := by decide +kernel
theorem d_RE_insertByHeight_48 : decode prog_4_method_11_code 48 = .ok (.iastore, 1) := by decide +kernel
theorem d_RE_insertByHeight_49 : decode prog_4_method_11_code 49 = .ok (.return_, 1) := by decide +kernel
set_option maxHeartbeats 4000000 in
set_option maxRecDepth 100000 in
theorem w_RE_insertByHeight_L2 (y1 : Int32)  (C : Cx prog_4_method_11_code 4 "LakeRelief$Relief" (Option.none : Option Jvm.ClassFile.FieldType) p s m args meth c) (hG : Geo D adr cA s) (v : Int32 × Mem) (hE : ∀ (H : Heap) (locs : List Loc) (ls : Array Slot), va_P D cls (wld adr cA v.2 ν) H → va_S (AA adr) s.heap H locs → lv_has ls 4 [(0, .ref (adr 18)), (1, .int y1), (3, .int v.1)] → W p l e rm_RE_insertByHeight s m args below meth c H locs 0 0 Q (F0 m 42 ls [])) : ∀ (n : Nat) (μ : Mem) (y3 : Int32), f_RE_insertByHeight_L2 y1 n μ y3 = some v → ∀ {H : Heap} {locs : List Loc} {ls : Array Slot}, va_P D cls (wld adr cA μ ν) H → va_S (AA adr) s.heap H locs → lv_has ls 4 [(0, .ref (adr 18)), (1, .int y1), (3, .int y3)] → W p l e rm_RE_insertByHeight s m args below meth c H locs 0 0 Q (F0 m 2 ls []) := by
  obtain ⟨hx, hb, hml, hown, hts, hr, hlocks⟩ := id C
  intro n
  induction n with
  | zero => intro μ y3 hf; rw [f_RE_insertByHeight_L2.eq_1] at hf; cases hf
  | succ n ih =>
    intro μ y3 hf H locs ls hP hS hl
    rw [f_RE_insertByHeight_L2.eq_2] at hf
    refine lv_iload_n hx hb d_RE_insertByHeight_2 rfl (lv_at hl 2 rfl) ?_
    refine lv_if_le (tgt := 42) hx hb d_RE_insertByHeight_3 (by decide) (fun hc => ?_) (fun hc => ?_)
    · replace hf := if_p hc hf
      obtain rfl := Option.some.inj hf
      exact hE _ _ _ hP hS (lv_sub hl [0, 1, 2] rfl)
    · replace hf := if_n hc hf
      refine lv_aload_n hx hb d_RE_insertByHeight_6 rfl (lv_at hl 0 rfl) ?_
      refine lv_iload_n hx hb d_RE_insertByHeight_7 rfl (lv_at hl 1 rfl) ?_
      refine lv_aload_n hx hb d_RE_insertByHeight_8 rfl (lv_at hl 0 rfl) ?_
      refine g_RE_order hx hb hts hown hG hP (hts _ in_54) d_RE_insertByHeight_9 ?_
      refine lv_iload_n hx hb d_RE_insertByHeight_12 rfl (lv_at hl 2 rfl) ?_
      refine lv_iconst (v := 1) hx hb d_RE_insertByHeight_13 (by decide) ?_
      refine lv_isub hx hb d_RE_insertByHeight_14 ?_
      replace hf := G_some hf
      obtain ⟨hi1, hf⟩ := hf
      refine r_iald hx hb hG hP 23 64 (f := μ.1 23) (by decide) (wc_C (by decide) rfl) hi1 d_RE_insertByHeight_15 ?_
      replace hf := B_some hf
      obtain ⟨v2, hv2, hf⟩ := hf
      refine ki (kv (As := [.int y1, .int (μ.1 23 (y3 - 1).toNatClampNeg)]) (rest := []) ⟨hx, hb, hml, hown, hts⟩ (cw_RE_82 hts ⟨Nat.le_of_ble_eq_true rfl, Nat.le_of_ble_eq_true rfl⟩) (c_RE_isLower l D adr cA μ ν y1 (μ.1 23 (y3 - 1).toNatClampNeg) hv2) hG hP (rc_o (q := 18) (ci := 2) hG hP (by decide) (wc_C (by decide) rfl) rfl) rfl hl.1 (Nat.le_of_ble_eq_true rfl) d_RE_insertByHeight_16) hS (fun H locs hP hS => ?_)
      refine lv_if_eq (tgt := 42) hx hb d_RE_insertByHeight_19 (by decide) (fun hc => ?_) (fun hc => ?_)
      · replace hf := if_p hc hf
        obtain rfl := Option.some.inj hf
        exact hE _ _ _ hP hS (lv_sub hl [0, 1, 2] rfl)
      · replace hf := if_n hc hf
        refine lv_aload_n hx hb d_RE_insertByHeight_22 rfl (lv_at hl 0 rfl) ?_
        refine g_RE_order hx hb hts hown hG hP (hts _ in_54) d_RE_insertByHeight_23 ?_
        refine lv_iload_n hx hb d_RE_insertByHeight_26 rfl (lv_at hl 2 rfl) ?_
        refine lv_aload_n hx hb d_RE_insertByHeight_27 rfl (lv_at hl 0 rfl) ?_
        refine g_RE_order hx hb hts hown hG hP (hts _ in_54) d_RE_insertByHeight_28 ?_
        refine lv_iload_n hx hb d_RE_insertByHeight_31 rfl (lv_at hl 2 rfl) ?_
        refine lv_iconst (v := 1) hx hb d_RE_insertByHeight_32 (by decide) ?_
        refine lv_isub hx hb d_RE_insertByHeight_33 ?_
        replace hf := G_some hf
        obtain ⟨hi3, hf⟩ := hf
        refine r_iald hx hb hG hP 23 64 (f := μ.1 23) (by decide) (wc_C (by decide) rfl) hi3 d_RE_insertByHeight_34 ?_
        replace hf := G_some hf
        obtain ⟨hi4, hf⟩ := hf
        refine rC_iast hx hb hG hP hS 23 64 (by decide) (fun _ _ => rfl) hi4 d_RE_insertByHeight_35 (fun H locs hP hS => ?_)
        refine lv_iinc (v := (y3 + (-1))) (lv' := [(3, .int (y3 + (-1))), (0, .ref (adr 18)), (1, .int y1)]) hx hb d_RE_insertByHeight_36 hl (k := 2) rfl rfl (by decide) rfl (fun ls hl => ?_)
        refine lv_goto (tgt := 2) hx hb d_RE_insertByHeight_39 (by decide) ?_
        exact ih _ _ hf hP hS (lv_sub hl [1, 2, 0] rfl)
set_option maxHeartbeats 4000000 in
set_option maxRecDepth 100000 in
theorem w_RE_insertByHeight (x1 : Int32) (x2 : Int32)  (C : Cx prog_4_method_11_code 4 "LakeRelief$Relief" (Option.none : Option Jvm.ClassFile.FieldType) p s m args meth c) (hG : Geo D adr cA s) {res : Mem} (hf : f_RE_insertByHeight μ x1 x2 = some res) (hq : ∀ (pc : Nat) (ls : Array Slot) (H : Heap) (locs : List Loc), decode prog_4_method_11_code pc = .ok (.return_, 1) → va_P D cls (wld adr cA res ν) H → va_S (AA adr) s.heap H locs → W p l e rm_RE_insertByHeight s m args below meth c H locs 0 0 Q (F0 m pc ls [])) {H : Heap} {locs : List Loc} {ls : Array Slot} (hP : va_P D cls (wld adr cA μ ν) H) (hS : va_S (AA adr) s.heap H locs) (hl : lv_has ls 4 [(0, .ref (adr 18)), (1, .int x1), (2, .int x2)]) : W p l e rm_RE_insertByHeight s m args below meth c H locs 0 0 Q (F0 m 0 ls []) := by
  obtain ⟨hx, hb, hml, hown, hts, hr, hlocks⟩ := id C
  unfold f_RE_insertByHeight at hf
  refine lv_iload_n hx hb d_RE_insertByHeight_0 rfl (lv_at hl 2 rfl) ?_
  refine lv_istore_n (lv' := [(3, .int x2), (0, .ref (adr 18)), (1, .int x1), (2, .int x2)]) hx hb d_RE_insertByHeight_1 rfl hl (by decide) rfl (fun ls hl => ?_)
  replace hf := B_some hf
  obtain ⟨v5, hv5, hf⟩ := hf
  refine w_RE_insertByHeight_L2 x1  C hG v5 ?_ FU _ _ hv5 hP hS (lv_sub hl [1, 2, 0] rfl)
  clear hv5 hP hS hl
  intro H locs ls hP hS hl
  refine lv_aload_n hx hb d_RE_insertByHeight_42 rfl (lv_at hl 0 rfl) ?_
  refine g_RE_order hx hb hts hown hG hP (hts _ in_54) d_RE_insertByHeight_43 ?_
  refine lv_iload_n hx hb d_RE_insertByHeight_46 rfl (lv_at hl 2 rfl) ?_
  refine lv_iload_n hx hb d_RE_insertByHeight_47 rfl (lv_at hl 1 rfl) ?_
  replace hf := G_some hf
  obtain ⟨hi6, hf⟩ := hf
  refine rC_iast hx hb hG hP hS 23 64 (by decide) (fun _ _ => rfl) hi6 d_RE_insertByHeight_48 (fun H locs hP hS => ?_)
  obtain rfl := Option.some.inj hf
  exact hq _ _ _ _ d_RE_insertByHeight_49 hP hS
theorem c_RE_insertByHeight (l : Launch) (D : va_G) (adr : Nat → Nat) (cA : Nat → ClassId) (μ ν : Mem) (x1 : Int32) (x2 : Int32)  {res : Mem} (hf : f_RE_insertByHeight μ x1 x2 = some res) : Met l y_RE_insertByHeight (Cond.code y_RE_insertByHeight prog_4_method_11_code 4 (Option.none : Option Jvm.ClassFile.FieldType) :: lw_ok) rm_RE_insertByHeight (va_Pc [.ref (adr 18), .int x1, .int x2] (Wd D adr cA μ ν)) (QV D adr cA res ν) 0 0 (AA adr) :=
  met_of (own := "LakeRelief$Relief") rfl rfl (Nat.le_of_ble_eq_true rfl) (fun p e s m below meth c C hG hP hS ls hl => w_RE_insertByHeight x1 x2  C hG hf (fun pc ls H locs hd hP hS => ret_v C.1 C.2.1 C.2.2.2.2.2.1 C.2.2.2.2.2.2 hG hd hP hS) hP hS hl)
end X_RE_insertByHeight
section X_RE_sortLand
variable {p : Program} {l : Launch} {e : Env} {s : State} {m : MethodId} {args : Array Value} {below : List Frame} {meth : Method} {c : Code} {Q : State → Prop}
variable {D : va_G} {adr : Nat → Nat} {cA : Nat → ClassId} {μ ν : Mem}
theorem d_RE_sortLand_0 : decode prog_4_method_10_code 0 = .ok (.iconst 0, 1) := by decide +kernel
theorem d_RE_sortLand_1 : decode prog_4_method_10_code 1 = .ok (.istore_n 1, 1) := by decide +kernel
theorem d_RE_sortLand_2 : decode prog_4_method_10_code 2 = .ok (.iload_n 1, 1) := by decide +kernel
theorem d_RE_sortLand_3 : decode prog_4_method_10_code 3 = .ok (.aload_n 0, 1) := by decide +kernel
theorem d_RE_sortLand_4 : decode prog_4_method_10_code 4 = .ok (.getfield 37, 3) := by decide +kernel
theorem d_RE_sortLand_7 : decode prog_4_method_10_code 7 = .ok (.if_icmp .ge 36, 3) := by decide +kernel
theorem d_RE_sortLand_10 : decode prog_4_method_10_code 10 = .ok (.aload_n 0, 1) := by decide +kernel
theorem d_RE_sortLand_11 : decode prog_4_method_10_code 11 = .ok (.iload_n 1, 1) := by decide +kernel
theorem d_RE_sortLand_12 : decode prog_4_method_10_code 12 = .ok (.invokevirtual 75, 3) := by decide +kernel
theorem d_RE_sortLand_15 : decode prog_4_method_10_code 15 = .ok (.ifCond .eq 22, 3) := by decide +kernel
theorem d_RE_sortLand_18 : decode prog_4_method_10_code 18 = .ok (.aload_n 0, 1) := by decide +kernel
theorem d_RE_sortLand_19 : decode prog_4_method_10_code 19 = .ok (.iload_n 1, 1) := by decide +kernel
theorem d_RE_sortLand_20 : decode prog_4_method_10_code 20 = .ok (.aload_n 0, 1) := by decide +kernel
theorem d_RE_sortLand_21 : decode prog_4_method_10_code 21 = .ok (.getfield 40, 3) := by decide +kernel
theorem d_RE_sortLand_24 : decode prog_4_method_10_code 24 = .ok (.invokevirtual 78, 3) := by decide +kernel
theorem d_RE_sortLand_27 : decode prog_4_method_10_code 27 = .ok (.aload_n 0, 1) := by decide +kernel
theorem d_RE_sortLand_28 : decode prog_4_method_10_code 28 = .ok (.dup, 1) := by decide +kernel
theorem d_RE_sortLand_29 : decode prog_4_method_10_code 29 = .ok (.getfield 40, 3) := by decide +kernel
theorem d_RE_sortLand_32 : decode prog_4_method_10_code 32 = .ok (.iconst 1, 1) := by decide +kernel
theorem d_RE_sortLand_33 : decode prog_4_method_10_code 33 = .ok (.iadd, 1) := by decide +kernel
theorem d_RE_sortLand_34 : decode prog_4_method_10_code 34 = .ok (.putfield 40, 3) := by decide +kernel
theorem d_RE_sortLand_37 : decode prog_4_method_10_code 37 = .ok (.iinc 1 1, 3) := by decide +kernel
theorem d_RE_sortLand_40 : decode prog_4_method_10_code 40 = .ok (.goto (-38), 3) := by decide +kernel
theorem d_RE_sortLand_43 : decode prog_4_method_10_code 43 = .ok (.return_, 1) := by decide +kernel
set_option maxHeartbeats 4000000 in
set_option maxRecDepth 100000 in
theorem w_RE_sortLand_L2   (C : Cx prog_4_method_10_code 2 "LakeRelief$Relief" (Option.none : Option Jvm.ClassFile.FieldType) p s m args meth c) (hG : Geo D adr cA s) (v : Mem) (hE : ∀ (H : Heap) (locs : List Loc) (ls : Array Slot), va_P D cls (wld adr cA v ν) H → va_S (AA adr) s.heap H locs → lv_has ls 2 [] → W p l e rm_RE_sortLand s m args below meth c H locs 0 0 Q (F0 m 43 ls [])) : ∀ (n : Nat) (μ : Mem) (y1 : Int32), f_RE_sortLand_L2 n μ y1 = some v → ∀ {H : Heap} {locs : List Loc} {ls : Array Slot}, va_P D cls (wld adr cA μ ν) H → va_S (AA adr) s.heap H locs → lv_has ls 2 [(0, .ref (adr 18)), (1, .int y1)] → W p l e rm_RE_sortLand s m args below meth c H locs 0 0 Q (F0 m 2 ls []) := by
  obtain ⟨hx, hb, hml, hown, hts, hr, hlocks⟩ := id C
  intro n
  induction n with
  | zero => intro μ y1 hf; rw [f_RE_sortLand_L2.eq_1] at hf; cases hf
  | succ n ih =>
    intro μ y1 hf H locs ls hP hS hl
    rw [f_RE_sortLand_L2.eq_2] at hf
    refine lv_iload_n hx hb d_RE_sortLand_2 rfl (lv_at hl 1 rfl) ?_
    refine lv_aload_n hx hb d_RE_sortLand_3 rfl (lv_at hl 0 rfl) ?_
    refine g_RE_size hx hb hts hown hG hP (hts _ in_59) d_RE_sortLand_4 ?_
    refine lv_icmp_ge (tgt := 43) hx hb d_RE_sortLand_7 (by decide) (fun hc => ?_) (fun hc => ?_)
    · replace hf := if_p hc hf
      obtain rfl := Option.some.inj hf
      exact hE _ _ _ hP hS (lv_sub hl [] rfl)
    · replace hf := if_n hc hf
      refine lv_aload_n hx hb d_RE_sortLand_10 rfl (lv_at hl 0 rfl) ?_
      refine lv_iload_n hx hb d_RE_sortLand_11 rfl (lv_at hl 1 rfl) ?_
      refine ki (kv (As := [.int y1]) (rest := []) ⟨hx, hb, hml, hown, hts⟩ (cw_RE_75 hts ⟨Nat.le_of_ble_eq_true rfl, Nat.le_of_ble_eq_true rfl⟩) (c_RE_isLand l D adr cA μ ν y1) hG hP (rc_o (q := 18) (ci := 2) hG hP (by decide) (wc_C (by decide) rfl) rfl) rfl hl.1 (Nat.le_of_ble_eq_true rfl) d_RE_sortLand_12) hS (fun H locs hP hS => ?_)
      replace hf := B_some hf
      obtain ⟨v1, hv1, hf⟩ := hf
      have hJ : ∀ (H : Heap) (locs : List Loc) (ls : Array Slot), va_P D cls (wld adr cA v1 ν) H → va_S (AA adr) s.heap H locs → lv_has ls 2 [(0, .ref (adr 18)), (1, .int y1)] → W p l e rm_RE_sortLand s m args below meth c H locs 0 0 Q (F0 m 37 ls []) := by
        clear hv1
        intro H locs ls hP hS hl
        refine lv_iinc (v := (y1 + 1)) (lv' := [(1, .int (y1 + 1)), (0, .ref (adr 18))]) hx hb d_RE_sortLand_37 hl (k := 1) rfl rfl (by decide) rfl (fun ls hl => ?_)
        refine lv_goto (tgt := 2) hx hb d_RE_sortLand_40 (by decide) ?_
        exact ih _ _ hf hP hS (lv_sub hl [1, 0] rfl)
      clear hf
      have hf := hv1
      clear hv1
      refine lv_if_eq (tgt := 37) hx hb d_RE_sortLand_15 (by decide) (fun hc => ?_) (fun hc => ?_)
      · replace hf := if_p hc hf
        obtain rfl := Option.some.inj hf
        exact hJ _ _ _ hP hS (lv_sub hl [0, 1] rfl)
      · replace hf := if_n hc hf
        refine lv_aload_n hx hb d_RE_sortLand_18 rfl (lv_at hl 0 rfl) ?_
        refine lv_iload_n hx hb d_RE_sortLand_19 rfl (lv_at hl 1 rfl) ?_
        refine lv_aload_n hx hb d_RE_sortLand_20 rfl (lv_at hl 0 rfl) ?_
        refine g_RE_landCount hx hb hts hown hG hP (hts _ in_61) d_RE_sortLand_21 ?_
        replace hf := B_some hf
        obtain ⟨v2, hv2, hf⟩ := hf
        refine kw (kv (As := [.int y1, .int (μ.1 18 9)]) (rest := []) ⟨hx, hb, hml, hown, hts⟩ (cw_RE_78 hts ⟨Nat.le_of_ble_eq_true rfl, Nat.le_of_ble_eq_true rfl⟩) (c_RE_insertByHeight l D adr cA μ ν y1 (μ.1 18 9) hv2) hG hP (rc_o (q := 18) (ci := 2) hG hP (by decide) (wc_C (by decide) rfl) rfl) rfl hl.1 (Nat.le_of_ble_eq_true rfl) d_RE_sortLand_24) hS (fun H locs hP hS => ?_)
        refine lv_aload_n hx hb d_RE_sortLand_27 rfl (lv_at hl 0 rfl) ?_
        refine lv_dup hx hb d_RE_sortLand_28 rfl ?_
        refine g_RE_landCount hx hb hts hown hG hP (hts _ in_61) d_RE_sortLand_29 ?_
        refine lv_iconst (v := 1) hx hb d_RE_sortLand_32 (by decide) ?_
        refine lv_iadd hx hb d_RE_sortLand_33 ?_
        refine p_RE_landCount hx hb hts hown hG hP hS (hts _ in_61) d_RE_sortLand_34 (fun H locs hP hS => ?_)
        obtain rfl := Option.some.inj hf
        exact hJ _ _ _ hP hS (lv_sub hl [0, 1] rfl)
set_option maxHeartbeats 4000000 in
set_option maxRecDepth 100000 in
theorem w_RE_sortLand   (C : Cx prog_4_method_10_code 2 "LakeRelief$Relief" (Option.none : Option Jvm.ClassFile.FieldType) p s m args meth c) (hG : Geo D adr cA s) {res : Mem} (hf : f_RE_sortLand μ  = some res) (hq : ∀ (pc : Nat) (ls : Array Slot) (H : Heap) (locs : List Loc), decode prog_4_method_10_code pc = .ok (.return_, 1) → va_P D cls (wld adr cA res ν) H → va_S (AA adr) s.heap H locs → W p l e rm_RE_sortLand s m args below meth c H locs 0 0 Q (F0 m pc ls [])) {H : Heap} {locs : List Loc} {ls : Array Slot} (hP : va_P D cls (wld adr cA μ ν) H) (hS : va_S (AA adr) s.heap H locs) (hl : lv_has ls 2 [(0, .ref (adr 18))]) : W p l e rm_RE_sortLand s m args below meth c H locs 0 0 Q (F0 m 0 ls []) := by
  obtain ⟨hx, hb, hml, hown, hts, hr, hlocks⟩ := id C
  unfold f_RE_sortLand at hf
  refine lv_iconst (v := 0) hx hb d_RE_sortLand_0 (by decide) ?_
  refine lv_istore_n (lv' := [(1, .int 0), (0, .ref (adr 18))]) hx hb d_RE_sortLand_1 rfl hl (by decide) rfl (fun ls hl => ?_)
  replace hf := B_some hf
  obtain ⟨v3, hv3, hf⟩ := hf
  refine w_RE_sortLand_L2   C hG v3 ?_ FU _ _ hv3 hP hS (lv_sub hl [1, 0] rfl)
  clear hv3 hP hS hl
  intro H locs ls hP hS hl
  obtain rfl := Option.some.inj hf
  exact hq _ _ _ _ d_RE_sortLand_43 hP hS
theorem c_RE_sortLand (l : Launch) (D : va_G) (adr : Nat → Nat) (cA : Nat → ClassId) (μ ν : Mem)   {res : Mem} (hf : f_RE_sortLand μ  = some res) : Met l y_RE_sortLand (Cond.code y_RE_sortLand prog_4_method_10_code 2 (Option.none : Option Jvm.ClassFile.FieldType) :: lw_ok) rm_RE_sortLand (va_Pc [.ref (adr 18)] (Wd D adr cA μ ν)) (QV D adr cA res ν) 0 0 (AA adr) :=
  met_of (own := "LakeRelief$Relief") rfl rfl (Nat.le_of_ble_eq_true rfl) (fun p e s m below meth c C hG hP hS ls hl => w_RE_sortLand   C hG hf (fun pc ls H locs hd hP hS => ret_v C.1 C.2.1 C.2.2.2.2.2.1 C.2.2.2.2.2.2 hG hd hP hS) hP hS hl)
end X_RE_sortLand
section X_RE_downOf
variable {p : Program} {l : Launch} {e : Env} {s : State} {m : MethodId} {args : Array Value} {below : List Frame} {meth : Method} {c : Code} {Q : State → Prop}
variable {D : va_G} {adr : Nat → Nat} {cA : Nat → ClassId} {μ ν : Mem}
theorem d_RE_downOf_0 : decode prog_4_method_16_code 0 = .ok (.aload_n 0, 1) := by decide +kernel
theorem d_RE_downOf_1 : decode prog_4_method_16_code 1 = .ok (.iload_n 1, 1) := by decide +kernel
theorem d_RE_downOf_2 : decode prog_4_method_16_code 2 = .ok (.invokevirtual 93, 3) := by decide +kernel
theorem d_RE_downOf_5 : decode prog_4_method_16_code 5 = .ok (.ifCond .eq 6, 3) := by decide +kernel
theorem d_RE_downOf_8 : decode prog_4_method_16_code 8 = .ok (.bipush (-5), 2) := by decide +kernel
theorem d_RE_downOf_10 : decode prog_4_method_16_code 10 = .ok (.ireturn, 1) := by decide +kernel
theorem d_RE_downOf_11 : decode prog_4_method_16_code 11 = .ok (.aload_n 0, 1) := by decide +kernel
theorem d_RE_downOf_12 : decode prog_4_method_16_code 12 = .ok (.iload_n 1, 1) := by decide +kernel
theorem d_RE_downOf_13 : decode prog_4_method_16_code 13 = .ok (.aload_n 0, 1) := by decide +kernel
theorem d_RE_downOf_14 : decode prog_4_method_16_code 14 = .ok (.getfield 43, 3) := by decide +kernel
theorem d_RE_downOf_17 : decode prog_4_method_16_code 17 = .ok (.invokevirtual 96, 3) := by decide +kernel
theorem d_RE_downOf_20 : decode prog_4_method_16_code 20 = .ok (.istore_n 2, 1) := by decide +kernel
theorem d_RE_downOf_21 : decode prog_4_method_16_code 21 = .ok (.iload_n 2, 1) := by decide +kernel
theorem d_RE_downOf_22 : decode prog_4_method_16_code 22 = .ok (.bipush (-3), 2) := by decide +kernel
theorem d_RE_downOf_24 : decode prog_4_method_16_code 24 = .ok (.if_icmp .eq 12, 3) := by decide +kernel
theorem d_RE_downOf_27 : decode prog_4_method_16_code 27 = .ok (.aload_n 0, 1) := by decide +kernel
theorem d_RE_downOf_28 : decode prog_4_method_16_code 28 = .ok (.iload_n 1, 1) := by decide +kernel
theorem d_RE_downOf_29 : decode prog_4_method_16_code 29 = .ok (.iload_n 2, 1) := by decide +kernel
theorem d_RE_downOf_30 : decode prog_4_method_16_code 30 = .ok (.invokevirtual 82, 3) := by decide +kernel
theorem d_RE_downOf_33 : decode prog_4_method_16_code 33 = .ok (.ifCond .eq 8, 3) := by decide +kernel
theorem d_RE_downOf_36 : decode prog_4_method_16_code 36 = .ok (.bipush (-3), 2) := by decide +kernel
theorem d_RE_downOf_38 : decode prog_4_method_16_code 38 = .ok (.goto 4, 3) := by decide +kernel
theorem d_RE_downOf_41 : decode prog_4_method_16_code 41 = .ok (.iload_n 2, 1) := by decide +kernel
theorem d_RE_downOf_42 : decode prog_4_method_16_code 42 = .ok (.ireturn, 1) := by decide +kernel
set_option maxHeartbeats 4000000 in
set_option maxRecDepth 100000 in
theorem w_RE_downOf (x1 : Int32)  (C : Cx prog_4_method_16_code 3 "LakeRelief$Relief" (Option.some Jvm.ClassFile.FieldType.int) p s m args meth c) (hG : Geo D adr cA s) {res : Int32} (hf : f_RE_downOf μ x1 = some res) (hq : ∀ (pc : Nat) (ls : Array Slot) (H : Heap) (locs : List Loc), decode prog_4_method_16_code pc = .ok (.ireturn, 1) → va_P D cls (wld adr cA μ ν) H → va_S (AA adr) s.heap H locs → W p l e rm_RE_downOf s m args below meth c H locs 0 0 Q (F0 m pc ls [.int res])) {H : Heap} {locs : List Loc} {ls : Array Slot} (hP : va_P D cls (wld adr cA μ ν) H) (hS : va_S (AA adr) s.heap H locs) (hl : lv_has ls 3 [(0, .ref (adr 18)), (1, .int x1)]) : W p l e rm_RE_downOf s m args below meth c H locs 0 0 Q (F0 m 0 ls []) := by
  obtain ⟨hx, hb, hml, hown, hts, hr, hlocks⟩ := id C
  unfold f_RE_downOf at hf
  refine lv_aload_n hx hb d_RE_downOf_0 rfl (lv_at hl 0 rfl) ?_
  refine lv_iload_n hx hb d_RE_downOf_1 rfl (lv_at hl 1 rfl) ?_
  replace hf := B_some hf
  obtain ⟨v1, hv1, hf⟩ := hf
  refine ki (kv (As := [.int x1]) (rest := []) ⟨hx, hb, hml, hown, hts⟩ (cw_RE_93 hts ⟨Nat.le_of_ble_eq_true rfl, Nat.le_of_ble_eq_true rfl⟩) (c_RE_isBesideSea l D adr cA μ ν x1 hv1) hG hP (rc_o (q := 18) (ci := 2) hG hP (by decide) (wc_C (by decide) rfl) rfl) rfl hl.1 (Nat.le_of_ble_eq_true rfl) d_RE_downOf_2) hS (fun H locs hP hS => ?_)
  refine lv_if_eq (tgt := 11) hx hb d_RE_downOf_5 (by decide) (fun hc => ?_) (fun hc => ?_)
  · replace hf := if_p hc hf
    refine lv_aload_n hx hb d_RE_downOf_11 rfl (lv_at hl 0 rfl) ?_
    refine lv_iload_n hx hb d_RE_downOf_12 rfl (lv_at hl 1 rfl) ?_
    refine lv_aload_n hx hb d_RE_downOf_13 rfl (lv_at hl 0 rfl) ?_
    refine g_RE_land hx hb hts hown hG hP (hts _ in_64) d_RE_downOf_14 ?_
    replace hf := B_some hf
    obtain ⟨v2, hv2, hf⟩ := hf
    refine ki (kv (As := [.int x1, .long (μ.2 18 10)]) (rest := []) ⟨hx, hb, hml, hown, hts⟩ (cw_RE_96 hts ⟨Nat.le_of_ble_eq_true rfl, Nat.le_of_ble_eq_true rfl⟩) (c_RE_lowestBeside l D adr cA μ ν x1 (μ.2 18 10) hv2) hG hP (rc_o (q := 18) (ci := 2) hG hP (by decide) (wc_C (by decide) rfl) rfl) rfl hl.1 (Nat.le_of_ble_eq_true rfl) d_RE_downOf_17) hS (fun H locs hP hS => ?_)
    refine lv_istore_n (lv' := [(2, .int v2), (0, .ref (adr 18)), (1, .int x1)]) hx hb d_RE_downOf_20 rfl hl (by decide) rfl (fun ls hl => ?_)
    refine lv_iload_n hx hb d_RE_downOf_21 rfl (lv_at hl 0 rfl) ?_
    refine lv_bipush (v := (-3)) hx hb d_RE_downOf_22 (by decide) ?_
    refine lv_icmp_eq (tgt := 36) hx hb d_RE_downOf_24 (by decide) (fun hc => ?_) (fun hc => ?_)
    · replace hf := if_p hc hf
      refine lv_bipush (v := (-3)) hx hb d_RE_downOf_36 (by decide) ?_
      refine lv_goto (tgt := 42) hx hb d_RE_downOf_38 (by decide) ?_
      obtain rfl := Option.some.inj hf
      exact hq _ _ _ _ d_RE_downOf_42 hP hS
    · replace hf := if_n hc hf
      refine lv_aload_n hx hb d_RE_downOf_27 rfl (lv_at hl 1 rfl) ?_
      refine lv_iload_n hx hb d_RE_downOf_28 rfl (lv_at hl 2 rfl) ?_
      refine lv_iload_n hx hb d_RE_downOf_29 rfl (lv_at hl 0 rfl) ?_
      replace hf := B_some hf
      obtain ⟨v3, hv3, hf⟩ := hf
      refine ki (kv (As := [.int x1, .int v2]) (rest := []) ⟨hx, hb, hml, hown, hts⟩ (cw_RE_82 hts ⟨Nat.le_of_ble_eq_true rfl, Nat.le_of_ble_eq_true rfl⟩) (c_RE_isLower l D adr cA μ ν x1 v2 hv3) hG hP (rc_o (q := 18) (ci := 2) hG hP (by decide) (wc_C (by decide) rfl) rfl) rfl hl.1 (Nat.le_of_ble_eq_true rfl) d_RE_downOf_30) hS (fun H locs hP hS => ?_)
      refine lv_if_eq (tgt := 41) hx hb d_RE_downOf_33 (by decide) (fun hc => ?_) (fun hc => ?_)
      · replace hf := if_p hc hf
        refine lv_iload_n hx hb d_RE_downOf_41 rfl (lv_at hl 0 rfl) ?_
        obtain rfl := Option.some.inj hf
        exact hq _ _ _ _ d_RE_downOf_42 hP hS
      · replace hf := if_n hc hf
        refine lv_bipush (v := (-3)) hx hb d_RE_downOf_36 (by decide) ?_
        refine lv_goto (tgt := 42) hx hb d_RE_downOf_38 (by decide) ?_
        obtain rfl := Option.some.inj hf
        exact hq _ _ _ _ d_RE_downOf_42 hP hS
  · replace hf := if_n hc hf
    refine lv_bipush (v := (-5)) hx hb d_RE_downOf_8 (by decide) ?_
    obtain rfl := Option.some.inj hf
    exact hq _ _ _ _ d_RE_downOf_10 hP hS
theorem c_RE_downOf (l : Launch) (D : va_G) (adr : Nat → Nat) (cA : Nat → ClassId) (μ ν : Mem) (x1 : Int32)  {res : Int32} (hf : f_RE_downOf μ x1 = some res) : Met l y_RE_downOf (Cond.code y_RE_downOf prog_4_method_16_code 3 (Option.some Jvm.ClassFile.FieldType.int) :: lw_ok) rm_RE_downOf (va_Pc [.ref (adr 18), .int x1] (Wd D adr cA μ ν)) (QI D adr cA res μ ν) 0 0 (AA adr) :=
  met_of (own := "LakeRelief$Relief") rfl rfl (Nat.le_of_ble_eq_true rfl) (fun p e s m below meth c C hG hP hS ls hl => w_RE_downOf x1  C hG hf (fun pc ls H locs hd hP hS => ret_i C.1 C.2.1 C.2.2.2.2.2.1 C.2.2.2.2.2.2 hG hd hP hS) hP hS hl)
end X_RE_downOf
section X_RE_findWays
variable {p : Program} {l : Launch} {e : Env} {s : State} {m : MethodId} {args : Array Value} {below : List Frame} {meth : Method} {c : Code} {Q : State → Prop}
variable {D : va_G} {adr : Nat → Nat} {cA : Nat → ClassId} {μ ν : Mem}
theorem d_RE_findWays_0 : decode prog_4_method_15_code 0 = .ok (.iconst 0, 1) := by decide +kernel
theorem d_RE_findWays_1 : decode prog_4_method_15_code 1 = .ok (.istore_n 1, 1) := by decide +kernel
theorem d_RE_findWays_2 : decode prog_4_method_15_code 2 = .ok (.iload_n 1, 1) := by decide +kernel
theorem d_RE_findWays_3 : decode prog_4_method_15_code 3 = .ok (.aload_n 0, 1) := by decide +kernel
theorem d_RE_findWays_4 : decode prog_4_method_15_code 4 = .ok (.getfield 40, 3) := by decide +kernel
theorem d_RE_findWays_7 : decode prog_4_method_15_code 7 = .ok (.if_icmp .ge 62, 3) := by decide +kernel
theorem d_RE_findWays_10 : decode prog_4_method_15_code 10 = .ok (.aload_n 0, 1) := by decide +kernel
theorem d_RE_findWays_11 : decode prog_4_method_15_code 11 = .ok (.getfield 24, 3) := by decide +kernel
theorem d_RE_findWays_14 : decode prog_4_method_15_code 14 = .ok (.iload_n 1, 1) := by decide +kernel
theorem d_RE_findWays_15 : decode prog_4_method_15_code 15 = .ok (.iaload, 1) := by decide +kernel
theorem d_RE_findWays_16 : decode prog_4_method_15_code 16 = .ok (.istore_n 2, 1) := by decide +kernel
theorem d_RE_findWays_17 : decode prog_4_method_15_code 17 = .ok (.aload_n 0, 1) := by decide +kernel
theorem d_RE_findWays_18 : decode prog_4_method_15_code 18 = .ok (.iload_n 2, 1) := by decide +kernel
theorem d_RE_findWays_19 : decode prog_4_method_15_code 19 = .ok (.invokevirtual 90, 3) := by decide +kernel
theorem d_RE_findWays_22 : decode prog_4_method_15_code 22 = .ok (.istore_n 3, 1) := by decide +kernel
theorem d_RE_findWays_23 : decode prog_4_method_15_code 23 = .ok (.aload_n 0, 1) := by decide +kernel
theorem d_RE_findWays_24 : decode prog_4_method_15_code 24 = .ok (.getfield 15, 3) := by decide +kernel
theorem d_RE_findWays_27 : decode prog_4_method_15_code 27 = .ok (.iload_n 2, 1) := by decide +kernel
theorem d_RE_findWays_28 : decode prog_4_method_15_code 28 = .ok (.iload_n 3, 1) := by decide +kernel
theorem d_RE_findWays_29 : decode prog_4_method_15_code 29 = .ok (.iastore, 1) := by decide +kernel
theorem d_RE_findWays_30 : decode prog_4_method_15_code 30 = .ok (.aload_n 0, 1) := by decide +kernel
theorem d_RE_findWays_31 : decode prog_4_method_15_code 31 = .ok (.getfield 18, 3) := by decide +kernel
theorem d_RE_findWays_34 : decode prog_4_method_15_code 34 = .ok (.iload_n 2, 1) := by decide +kernel
theorem d_RE_findWays_35 : decode prog_4_method_15_code 35 = .ok (.iload_n 3, 1) := by decide +kernel
theorem d_RE_findWays_36 : decode prog_4_method_15_code 36 = .ok (.bipush (-3), 2) := by decide +kernel
theorem d_RE_findWays_38 : decode prog_4_method_15_code 38 = .ok (.if_icmp .ne 7, 3) := by decide +kernel
theorem d_RE_findWays_41 : decode prog_4_method_15_code 41 = .ok (.iload_n 2, 1) := by decide +kernel
theorem d_RE_findWays_42 : decode prog_4_method_15_code 42 = .ok (.goto 20, 3) := by decide +kernel
theorem d_RE_findWays_45 : decode prog_4_method_15_code 45 = .ok (.iload_n 3, 1) := by decide +kernel
theorem d_RE_findWays_46 : decode prog_4_method_15_code 46 = .ok (.bipush (-5), 2) := by decide +kernel
theorem d_RE_findWays_48 : decode prog_4_method_15_code 48 = .ok (.if_icmp .ne 8, 3) := by decide +kernel
theorem d_RE_findWays_51 : decode prog_4_method_15_code 51 = .ok (.bipush (-5), 2) := by decide +kernel
theorem d_RE_findWays_53 : decode prog_4_method_15_code 53 = .ok (.goto 9, 3) := by decide +kernel
theorem d_RE_findWays_56 : decode prog_4_method_15_code 56 = .ok (.aload_n 0, 1) := by decide +kernel
theorem d_RE_findWays_57 : decode prog_4_method_15_code 57 = .ok (.getfield 18, 3) := by decide +kernel
theorem d_RE_findWays_60 : decode prog_4_method_15_code 60 = .ok (.iload_n 3, 1) := by decide +kernel
theorem d_RE_findWays_61 : decode prog_4_method_15_code 61 = .ok (.iaload, 1) := by decide +kernel
theorem d_RE_findWays_62 : decode prog_4_method_15_code 62 = .ok (.iastore, 1) := by decide +kernel
theorem d_RE_findWays_63 : decode prog_4_method_15_code 63 = .ok (.iinc 1 1, 3) := by decide +kernel
theorem d_RE_findWays_66 : decode prog_4_method_15_code 66 = .ok (.goto (-64), 3) := by decide +kernel
theorem d_RE_findWays_69 : decode prog_4_method_15_code 69 = .ok (.return_, 1) := by decide +kernel
set_option maxHeartbeats 4000000 in
set_option maxRecDepth 100000 in
theorem w_RE_findWays_L2   (C : Cx prog_4_method_15_code 4 "LakeRelief$Relief" (Option.none : Option Jvm.ClassFile.FieldType) p s m args meth c) (hG : Geo D adr cA s) (v : Mem) (hE : ∀ (H : Heap) (locs : List Loc) (ls : Array Slot), va_P D cls (wld adr cA v ν) H → va_S (AA adr) s.heap H locs → lv_has ls 4 [] → W p l e rm_RE_findWays s m args below meth c H locs 0 0 Q (F0 m 69 ls [])) : ∀ (n : Nat) (μ : Mem) (y1 : Int32), f_RE_findWays_L2 n μ y1 = some v → ∀ {H : Heap} {locs : List Loc} {ls : Array Slot}, va_P D cls (wld adr cA μ ν) H → va_S (AA adr) s.heap H locs → lv_has ls 4 [(0, .ref (adr 18)), (1, .int y1)] → W p l e rm_RE_findWays s m args below meth c H locs 0 0 Q (F0 m 2 ls []) := by
  obtain ⟨hx, hb, hml, hown, hts, hr, hlocks⟩ := id C
  intro n
  induction n with
  | zero => intro μ y1 hf; rw [f_RE_findWays_L2.eq_1] at hf; cases hf
  | succ n ih =>
    intro μ y1 hf H locs ls hP hS hl
    rw [f_RE_findWays_L2.eq_2] at hf
    refine lv_iload_n hx hb d_RE_findWays_2 rfl (lv_at hl 1 rfl) ?_
    refine lv_aload_n hx hb d_RE_findWays_3 rfl (lv_at hl 0 rfl) ?_
    refine g_RE_landCount hx hb hts hown hG hP (hts _ in_61) d_RE_findWays_4 ?_
    refine lv_icmp_ge (tgt := 69) hx hb d_RE_findWays_7 (by decide) (fun hc => ?_) (fun hc => ?_)
    · replace hf := if_p hc hf
      obtain rfl := Option.some.inj hf
      exact hE _ _ _ hP hS (lv_sub hl [] rfl)
    · replace hf := if_n hc hf
      refine lv_aload_n hx hb d_RE_findWays_10 rfl (lv_at hl 0 rfl) ?_
      refine g_RE_order hx hb hts hown hG hP (hts _ in_54) d_RE_findWays_11 ?_
      refine lv_iload_n hx hb d_RE_findWays_14 rfl (lv_at hl 1 rfl) ?_
      replace hf := G_some hf
      obtain ⟨hi1, hf⟩ := hf
      refine r_iald hx hb hG hP 23 64 (f := μ.1 23) (by decide) (wc_C (by decide) rfl) hi1 d_RE_findWays_15 ?_
      refine lv_istore_n (lv' := [(2, .int (μ.1 23 y1.toNatClampNeg)), (0, .ref (adr 18)), (1, .int y1)]) hx hb d_RE_findWays_16 rfl hl (by decide) rfl (fun ls hl => ?_)
      refine lv_aload_n hx hb d_RE_findWays_17 rfl (lv_at hl 1 rfl) ?_
      refine lv_iload_n hx hb d_RE_findWays_18 rfl (lv_at hl 0 rfl) ?_
      replace hf := B_some hf
      obtain ⟨v2, hv2, hf⟩ := hf
      refine ki (kv (As := [.int (μ.1 23 y1.toNatClampNeg)]) (rest := []) ⟨hx, hb, hml, hown, hts⟩ (cw_RE_90 hts ⟨Nat.le_of_ble_eq_true rfl, Nat.le_of_ble_eq_true rfl⟩) (c_RE_downOf l D adr cA μ ν (μ.1 23 y1.toNatClampNeg) hv2) hG hP (rc_o (q := 18) (ci := 2) hG hP (by decide) (wc_C (by decide) rfl) rfl) rfl hl.1 (Nat.le_of_ble_eq_true rfl) d_RE_findWays_19) hS (fun H locs hP hS => ?_)
      refine lv_istore_n (lv' := [(3, .int v2), (2, .int (μ.1 23 y1.toNatClampNeg)), (0, .ref (adr 18)), (1, .int y1)]) hx hb d_RE_findWays_22 rfl hl (by decide) rfl (fun ls hl => ?_)
      refine lv_aload_n hx hb d_RE_findWays_23 rfl (lv_at hl 2 rfl) ?_
      refine g_RE_down hx hb hts hown hG hP (hts _ in_47) d_RE_findWays_24 ?_
      refine lv_iload_n hx hb d_RE_findWays_27 rfl (lv_at hl 1 rfl) ?_
      refine lv_iload_n hx hb d_RE_findWays_28 rfl (lv_at hl 0 rfl) ?_
      replace hf := G_some hf
      obtain ⟨hi3, hf⟩ := hf
      refine rC_iast hx hb hG hP hS 20 64 (by decide) (fun _ _ => rfl) hi3 d_RE_findWays_29 (fun H locs hP hS => ?_)
      refine lv_aload_n hx hb d_RE_findWays_30 rfl (lv_at hl 2 rfl) ?_
      refine g_RE_wayEnd hx hb hts hown hG hP (hts _ in_49) d_RE_findWays_31 ?_
      refine lv_iload_n hx hb d_RE_findWays_34 rfl (lv_at hl 1 rfl) ?_
      refine lv_iload_n hx hb d_RE_findWays_35 rfl (lv_at hl 0 rfl) ?_
      refine lv_bipush (v := (-3)) hx hb d_RE_findWays_36 (by decide) ?_
      replace hf := B_some hf
      obtain ⟨v4, hv4, hf⟩ := hf
      have hJ : ∀ (H : Heap) (locs : List Loc) (ls : Array Slot), va_P D cls (wld adr cA (sI μ 20 (μ.1 23 y1.toNatClampNeg).toNatClampNeg v2) ν) H → va_S (AA adr) s.heap H locs → lv_has ls 4 [(0, .ref (adr 18)), (1, .int y1)] → W p l e rm_RE_findWays s m args below meth c H locs 0 0 Q (F0 m 62 ls [.int v4, .int (μ.1 23 y1.toNatClampNeg), .ref (adr 21)]) := by
        clear hv4
        intro H locs ls hP hS hl
        replace hf := G_some hf
        obtain ⟨hi6, hf⟩ := hf
        refine rC_iast hx hb hG hP hS 21 64 (by decide) (fun _ _ => rfl) hi6 d_RE_findWays_62 (fun H locs hP hS => ?_)
        refine lv_iinc (v := (y1 + 1)) (lv' := [(1, .int (y1 + 1)), (0, .ref (adr 18))]) hx hb d_RE_findWays_63 hl (k := 1) rfl rfl (by decide) rfl (fun ls hl => ?_)
        refine lv_goto (tgt := 2) hx hb d_RE_findWays_66 (by decide) ?_
        exact ih _ _ hf hP hS (lv_sub hl [1, 0] rfl)
      clear hf
      have hf := hv4
      clear hv4
      refine lv_icmp_ne (tgt := 45) hx hb d_RE_findWays_38 (by decide) (fun hc => ?_) (fun hc => ?_)
      · replace hf := if_n hc hf
        refine lv_iload_n hx hb d_RE_findWays_45 rfl (lv_at hl 0 rfl) ?_
        refine lv_bipush (v := (-5)) hx hb d_RE_findWays_46 (by decide) ?_
        refine lv_icmp_ne (tgt := 56) hx hb d_RE_findWays_48 (by decide) (fun hc => ?_) (fun hc => ?_)
        · replace hf := if_n hc hf
          refine lv_aload_n hx hb d_RE_findWays_56 rfl (lv_at hl 2 rfl) ?_
          refine g_RE_wayEnd hx hb hts hown hG hP (hts _ in_49) d_RE_findWays_57 ?_
          refine lv_iload_n hx hb d_RE_findWays_60 rfl (lv_at hl 0 rfl) ?_
          replace hf := G_some hf
          obtain ⟨hi5, hf⟩ := hf
          refine r_iald hx hb hG hP 21 64 (f := (sI μ 20 (μ.1 23 y1.toNatClampNeg).toNatClampNeg v2).1 21) (by decide) (wc_C (by decide) rfl) hi5 d_RE_findWays_61 ?_
          obtain rfl := Option.some.inj hf
          exact hJ _ _ _ hP hS (lv_sub hl [2, 3] rfl)
        · replace hf := if_p hc hf
          refine lv_bipush (v := (-5)) hx hb d_RE_findWays_51 (by decide) ?_
          refine lv_goto (tgt := 62) hx hb d_RE_findWays_53 (by decide) ?_
          obtain rfl := Option.some.inj hf
          exact hJ _ _ _ hP hS (lv_sub hl [2, 3] rfl)
      · replace hf := if_p hc hf
        refine lv_iload_n hx hb d_RE_findWays_41 rfl (lv_at hl 1 rfl) ?_
        refine lv_goto (tgt := 62) hx hb d_RE_findWays_42 (by decide) ?_
        obtain rfl := Option.some.inj hf
        exact hJ _ _ _ hP hS (lv_sub hl [2, 3] rfl)
set_option maxHeartbeats 4000000 in
set_option maxRecDepth 100000 in
theorem w_RE_findWays   (C : Cx prog_4_method_15_code 4 "LakeRelief$Relief" (Option.none : Option Jvm.ClassFile.FieldType) p s m args meth c) (hG : Geo D adr cA s) {res : Mem} (hf : f_RE_findWays μ  = some res) (hq : ∀ (pc : Nat) (ls : Array Slot) (H : Heap) (locs : List Loc), decode prog_4_method_15_code pc = .ok (.return_, 1) → va_P D cls (wld adr cA res ν) H → va_S (AA adr) s.heap H locs → W p l e rm_RE_findWays s m args below meth c H locs 0 0 Q (F0 m pc ls [])) {H : Heap} {locs : List Loc} {ls : Array Slot} (hP : va_P D cls (wld adr cA μ ν) H) (hS : va_S (AA adr) s.heap H locs) (hl : lv_has ls 4 [(0, .ref (adr 18))]) : W p l e rm_RE_findWays s m args below meth c H locs 0 0 Q (F0 m 0 ls []) := by
  obtain ⟨hx, hb, hml, hown, hts, hr, hlocks⟩ := id C
  unfold f_RE_findWays at hf
  refine lv_iconst (v := 0) hx hb d_RE_findWays_0 (by decide) ?_
  refine lv_istore_n (lv' := [(1, .int 0), (0, .ref (adr 18))]) hx hb d_RE_findWays_1 rfl hl (by decide) rfl (fun ls hl => ?_)
  replace hf := B_some hf
  obtain ⟨v7, hv7, hf⟩ := hf
  refine w_RE_findWays_L2   C hG v7 ?_ FU _ _ hv7 hP hS (lv_sub hl [1, 0] rfl)
  clear hv7 hP hS hl
  intro H locs ls hP hS hl
  obtain rfl := Option.some.inj hf
  exact hq _ _ _ _ d_RE_findWays_69 hP hS
theorem c_RE_findWays (l : Launch) (D : va_G) (adr : Nat → Nat) (cA : Nat → ClassId) (μ ν : Mem)   {res : Mem} (hf : f_RE_findWays μ  = some res) : Met l y_RE_findWays (Cond.code y_RE_findWays prog_4_method_15_code 4 (Option.none : Option Jvm.ClassFile.FieldType) :: lw_ok) rm_RE_findWays (va_Pc [.ref (adr 18)] (Wd D adr cA μ ν)) (QV D adr cA res ν) 0 0 (AA adr) :=
  met_of (own := "LakeRelief$Relief") rfl rfl (Nat.le_of_ble_eq_true rfl) (fun p e s m below meth c C hG hP hS ls hl => w_RE_findWays   C hG hf (fun pc ls H locs hd hP hS => ret_v C.1 C.2.1 C.2.2.2.2.2.1 C.2.2.2.2.2.2 hG hd hP hS) hP hS hl)
end X_RE_findWays
section X_RE_leastFillBeside
variable {p : Program} {l : Launch} {e : Env} {s : State} {m : MethodId} {args : Array Value} {below : List Frame} {meth : Method} {c : Code} {Q : State → Prop}
variable {D : va_G} {adr : Nat → Nat} {cA : Nat → ClassId} {μ ν : Mem}
theorem d_RE_leastFillBeside_0 : decode prog_4_method_19_code 0 = .ok (.ldc 100, 2) := by decide +kernel
theorem d_RE_leastFillBeside_2 : decode prog_4_method_19_code 2 = .ok (.istore_n 2, 1) := by decide +kernel
theorem d_RE_leastFillBeside_3 : decode prog_4_method_19_code 3 = .ok (.iconst 0, 1) := by decide +kernel
theorem d_RE_leastFillBeside_4 : decode prog_4_method_19_code 4 = .ok (.istore_n 3, 1) := by decide +kernel
theorem d_RE_leastFillBeside_5 : decode prog_4_method_19_code 5 = .ok (.iload_n 3, 1) := by decide +kernel
theorem d_RE_leastFillBeside_6 : decode prog_4_method_19_code 6 = .ok (.iconst 4, 1) := by decide +kernel
theorem d_RE_leastFillBeside_7 : decode prog_4_method_19_code 7 = .ok (.if_icmp .ge 41, 3) := by decide +kernel
theorem d_RE_leastFillBeside_10 : decode prog_4_method_19_code 10 = .ok (.aload_n 0, 1) := by decide +kernel
theorem d_RE_leastFillBeside_11 : decode prog_4_method_19_code 11 = .ok (.iload_n 1, 1) := by decide +kernel
theorem d_RE_leastFillBeside_12 : decode prog_4_method_19_code 12 = .ok (.iload_n 3, 1) := by decide +kernel
theorem d_RE_leastFillBeside_13 : decode prog_4_method_19_code 13 = .ok (.invokevirtual 86, 3) := by decide +kernel
theorem d_RE_leastFillBeside_16 : decode prog_4_method_19_code 16 = .ok (.istore 4, 2) := by decide +kernel
theorem d_RE_leastFillBeside_18 : decode prog_4_method_19_code 18 = .ok (.iload_n 2, 1) := by decide +kernel
theorem d_RE_leastFillBeside_19 : decode prog_4_method_19_code 19 = .ok (.iload 4, 2) := by decide +kernel
theorem d_RE_leastFillBeside_21 : decode prog_4_method_19_code 21 = .ok (.bipush (-5), 2) := by decide +kernel
theorem d_RE_leastFillBeside_23 : decode prog_4_method_19_code 23 = .ok (.if_icmp .ne 8, 3) := by decide +kernel
theorem d_RE_leastFillBeside_26 : decode prog_4_method_19_code 26 = .ok (.ldc 113, 2) := by decide +kernel
theorem d_RE_leastFillBeside_28 : decode prog_4_method_19_code 28 = .ok (.goto 10, 3) := by decide +kernel
theorem d_RE_leastFillBeside_31 : decode prog_4_method_19_code 31 = .ok (.aload_n 0, 1) := by decide +kernel
theorem d_RE_leastFillBeside_32 : decode prog_4_method_19_code 32 = .ok (.getfield 21, 3) := by decide +kernel
theorem d_RE_leastFillBeside_35 : decode prog_4_method_19_code 35 = .ok (.iload 4, 2) := by decide +kernel
theorem d_RE_leastFillBeside_37 : decode prog_4_method_19_code 37 = .ok (.iaload, 1) := by decide +kernel
theorem d_RE_leastFillBeside_38 : decode prog_4_method_19_code 38 = .ok (.invokestatic 114, 3) := by decide +kernel
theorem d_RE_leastFillBeside_41 : decode prog_4_method_19_code 41 = .ok (.istore_n 2, 1) := by decide +kernel
theorem d_RE_leastFillBeside_42 : decode prog_4_method_19_code 42 = .ok (.iinc 3 1, 3) := by decide +kernel
theorem d_RE_leastFillBeside_45 : decode prog_4_method_19_code 45 = .ok (.goto (-40), 3) := by decide +kernel
theorem d_RE_leastFillBeside_48 : decode prog_4_method_19_code 48 = .ok (.iload_n 2, 1) := by decide +kernel
theorem d_RE_leastFillBeside_49 : decode prog_4_method_19_code 49 = .ok (.ireturn, 1) := by decide +kernel
set_option maxHeartbeats 4000000 in
set_option maxRecDepth 100000 in
theorem w_RE_leastFillBeside_L5 (y1 : Int32)  (C : Cx prog_4_method_19_code 5 "LakeRelief$Relief" (Option.some Jvm.ClassFile.FieldType.int) p s m args meth c) (hG : Geo D adr cA s) (v : Int32) (hE : ∀ (H : Heap) (locs : List Loc) (ls : Array Slot), va_P D cls (wld adr cA μ ν) H → va_S (AA adr) s.heap H locs → lv_has ls 5 [(2, .int v)] → W p l e rm_RE_leastFillBeside s m args below meth c H locs 0 0 Q (F0 m 48 ls [])) : ∀ (n : Nat) (y2 : Int32) (y3 : Int32), f_RE_leastFillBeside_L5 μ y1 n y2 y3 = some v → ∀ {H : Heap} {locs : List Loc} {ls : Array Slot}, va_P D cls (wld adr cA μ ν) H → va_S (AA adr) s.heap H locs → lv_has ls 5 [(0, .ref (adr 18)), (1, .int y1), (2, .int y2), (3, .int y3)] → W p l e rm_RE_leastFillBeside s m args below meth c H locs 0 0 Q (F0 m 5 ls []) := by
  obtain ⟨hx, hb, hml, hown, hts, hr, hlocks⟩ := id C
  intro n
  induction n with
  | zero => intro y2 y3 hf; rw [f_RE_leastFillBeside_L5.eq_1] at hf; cases hf
  | succ n ih =>
    intro y2 y3 hf H locs ls hP hS hl
    rw [f_RE_leastFillBeside_L5.eq_2] at hf
    refine lv_iload_n hx hb d_RE_leastFillBeside_5 rfl (lv_at hl 3 rfl) ?_
    refine lv_iconst (v := 4) hx hb d_RE_leastFillBeside_6 (by decide) ?_
    refine lv_icmp_ge (tgt := 48) hx hb d_RE_leastFillBeside_7 (by decide) (fun hc => ?_) (fun hc => ?_)
    · replace hf := if_p hc hf
      obtain rfl := Option.some.inj hf
      exact hE _ _ _ hP hS (lv_sub hl [2] rfl)
    · replace hf := if_n hc hf
      refine lv_aload_n hx hb d_RE_leastFillBeside_10 rfl (lv_at hl 0 rfl) ?_
      refine lv_iload_n hx hb d_RE_leastFillBeside_11 rfl (lv_at hl 1 rfl) ?_
      refine lv_iload_n hx hb d_RE_leastFillBeside_12 rfl (lv_at hl 3 rfl) ?_
      replace hf := B_some hf
      obtain ⟨v1, hv1, hf⟩ := hf
      refine ki (kv (As := [.int y1, .int y3]) (rest := []) ⟨hx, hb, hml, hown, hts⟩ (cw_RE_86 hts ⟨Nat.le_of_ble_eq_true rfl, Nat.le_of_ble_eq_true rfl⟩) (c_RE_beside l D adr cA μ ν y1 y3 hv1) hG hP (rc_o (q := 18) (ci := 2) hG hP (by decide) (wc_C (by decide) rfl) rfl) rfl hl.1 (Nat.le_of_ble_eq_true rfl) d_RE_leastFillBeside_13) hS (fun H locs hP hS => ?_)
      refine lv_istore (lv' := [(4, .int v1), (0, .ref (adr 18)), (1, .int y1), (2, .int y2), (3, .int y3)]) hx hb d_RE_leastFillBeside_16 hl (by decide) rfl (fun ls hl => ?_)
      refine lv_iload_n hx hb d_RE_leastFillBeside_18 rfl (lv_at hl 3 rfl) ?_
      refine lv_iload hx hb d_RE_leastFillBeside_19 (lv_at hl 0 rfl) ?_
      refine lv_bipush (v := (-5)) hx hb d_RE_leastFillBeside_21 (by decide) ?_
      replace hf := B_some hf
      obtain ⟨v2, hv2, hf⟩ := hf
      have hJ : ∀ (H : Heap) (locs : List Loc) (ls : Array Slot), va_P D cls (wld adr cA μ ν) H → va_S (AA adr) s.heap H locs → lv_has ls 5 [(0, .ref (adr 18)), (1, .int y1), (3, .int y3)] → W p l e rm_RE_leastFillBeside s m args below meth c H locs 0 0 Q (F0 m 38 ls [.int v2, .int y2]) := by
        clear hv2
        intro H locs ls hP hS hl
        refine va_mmin hx hb (hml.trans hl.1.symm) hown (hts _ in_328) (hts _ in_106) (hts _ in_6) (hts _ in_107) (Nat.le_of_ble_eq_true rfl) (Nat.le_of_ble_eq_true rfl) (Nat.zero_le _) (Nat.zero_le _) d_RE_leastFillBeside_38 ?_
        refine lv_istore_n (lv' := [(2, .int (if v2 < y2 then v2 else y2)), (0, .ref (adr 18)), (1, .int y1), (3, .int y3)]) hx hb d_RE_leastFillBeside_41 rfl hl (by decide) rfl (fun ls hl => ?_)
        refine lv_iinc (v := (y3 + 1)) (lv' := [(3, .int (y3 + 1)), (2, .int (if v2 < y2 then v2 else y2)), (0, .ref (adr 18)), (1, .int y1)]) hx hb d_RE_leastFillBeside_42 hl (k := 3) rfl rfl (by decide) rfl (fun ls hl => ?_)
        refine lv_goto (tgt := 5) hx hb d_RE_leastFillBeside_45 (by decide) ?_
        exact ih _ _ hf hP hS (lv_sub hl [2, 3, 1, 0] rfl)
      clear hf
      have hf := hv2
      clear hv2
      refine lv_icmp_ne (tgt := 31) hx hb d_RE_leastFillBeside_23 (by decide) (fun hc => ?_) (fun hc => ?_)
      · replace hf := if_n hc hf
        refine lv_aload_n hx hb d_RE_leastFillBeside_31 rfl (lv_at hl 1 rfl) ?_
        refine g_RE_fill hx hb hts hown hG hP (hts _ in_52) d_RE_leastFillBeside_32 ?_
        refine lv_iload hx hb d_RE_leastFillBeside_35 (lv_at hl 0 rfl) ?_
        replace hf := G_some hf
        obtain ⟨hi3, hf⟩ := hf
        refine r_iald hx hb hG hP 22 64 (f := μ.1 22) (by decide) (wc_C (by decide) rfl) hi3 d_RE_leastFillBeside_37 ?_
        obtain rfl := Option.some.inj hf
        exact hJ _ _ _ hP hS (lv_sub hl [1, 2, 4] rfl)
      · replace hf := if_p hc hf
        refine lv_ldc (v := (-1000000)) hx hb hown (hts _ in_327) d_RE_leastFillBeside_26 ?_
        refine lv_goto (tgt := 38) hx hb d_RE_leastFillBeside_28 (by decide) ?_
        obtain rfl := Option.some.inj hf
        exact hJ _ _ _ hP hS (lv_sub hl [1, 2, 4] rfl)
set_option maxHeartbeats 4000000 in
set_option maxRecDepth 100000 in
theorem w_RE_leastFillBeside (x1 : Int32)  (C : Cx prog_4_method_19_code 5 "LakeRelief$Relief" (Option.some Jvm.ClassFile.FieldType.int) p s m args meth c) (hG : Geo D adr cA s) {res : Int32} (hf : f_RE_leastFillBeside μ x1 = some res) (hq : ∀ (pc : Nat) (ls : Array Slot) (H : Heap) (locs : List Loc), decode prog_4_method_19_code pc = .ok (.ireturn, 1) → va_P D cls (wld adr cA μ ν) H → va_S (AA adr) s.heap H locs → W p l e rm_RE_leastFillBeside s m args below meth c H locs 0 0 Q (F0 m pc ls [.int res])) {H : Heap} {locs : List Loc} {ls : Array Slot} (hP : va_P D cls (wld adr cA μ ν) H) (hS : va_S (AA adr) s.heap H locs) (hl : lv_has ls 5 [(0, .ref (adr 18)), (1, .int x1)]) : W p l e rm_RE_leastFillBeside s m args below meth c H locs 0 0 Q (F0 m 0 ls []) := by
  obtain ⟨hx, hb, hml, hown, hts, hr, hlocks⟩ := id C
  unfold f_RE_leastFillBeside at hf
  refine lv_ldc (v := 1000001) hx hb hown (hts _ in_318) d_RE_leastFillBeside_0 ?_
  refine lv_istore_n (lv' := [(2, .int 1000001), (0, .ref (adr 18)), (1, .int x1)]) hx hb d_RE_leastFillBeside_2 rfl hl (by decide) rfl (fun ls hl => ?_)
  refine lv_iconst (v := 0) hx hb d_RE_leastFillBeside_3 (by decide) ?_
  refine lv_istore_n (lv' := [(3, .int 0), (2, .int 1000001), (0, .ref (adr 18)), (1, .int x1)]) hx hb d_RE_leastFillBeside_4 rfl hl (by decide) rfl (fun ls hl => ?_)
  replace hf := B_some hf
  obtain ⟨v4, hv4, hf⟩ := hf
  refine w_RE_leastFillBeside_L5 x1  C hG v4 ?_ FU _ _ hv4 hP hS (lv_sub hl [2, 3, 1, 0] rfl)
  clear hv4 hP hS hl
  intro H locs ls hP hS hl
  refine lv_iload_n hx hb d_RE_leastFillBeside_48 rfl (lv_at hl 0 rfl) ?_
  obtain rfl := Option.some.inj hf
  exact hq _ _ _ _ d_RE_leastFillBeside_49 hP hS
theorem c_RE_leastFillBeside (l : Launch) (D : va_G) (adr : Nat → Nat) (cA : Nat → ClassId) (μ ν : Mem) (x1 : Int32)  {res : Int32} (hf : f_RE_leastFillBeside μ x1 = some res) : Met l y_RE_leastFillBeside (Cond.code y_RE_leastFillBeside prog_4_method_19_code 5 (Option.some Jvm.ClassFile.FieldType.int) :: lw_ok) rm_RE_leastFillBeside (va_Pc [.ref (adr 18), .int x1] (Wd D adr cA μ ν)) (QI D adr cA res μ ν) 0 0 (AA adr) :=
  met_of (own := "LakeRelief$Relief") rfl rfl (Nat.le_of_ble_eq_true rfl) (fun p e s m below meth c C hG hP hS ls hl => w_RE_leastFillBeside x1  C hG hf (fun pc ls H locs hd hP hS => ret_i C.1 C.2.1 C.2.2.2.2.2.1 C.2.2.2.2.2.2 hG hd hP hS) hP hS hl)
end X_RE_leastFillBeside
section X_RE_lowerFills
variable {p : Program} {l : Launch} {e : Env} {s : State} {m : MethodId} {args : Array Value} {below : List Frame} {meth : Method} {c : Code} {Q : State → Prop}
variable {D : va_G} {adr : Nat → Nat} {cA : Nat → ClassId} {μ ν : Mem}
theorem d_RE_lowerFills_0 : decode prog_4_method_18_code 0 = .ok (.iconst 0, 1) := by decide +kernel
theorem d_RE_lowerFills_1 : decode prog_4_method_18_code 1 = .ok (.istore_n 1, 1) := by decide +kernel
theorem d_RE_lowerFills_2 : decode prog_4_method_18_code 2 = .ok (.iconst 0, 1) := by decide +kernel
theorem d_RE_lowerFills_3 : decode prog_4_method_18_code 3 = .ok (.istore_n 2, 1) := by decide +kernel
theorem d_RE_lowerFills_4 : decode prog_4_method_18_code 4 = .ok (.iload_n 2, 1) := by decide +kernel
theorem d_RE_lowerFills_5 : decode prog_4_method_18_code 5 = .ok (.aload_n 0, 1) := by decide +kernel
theorem d_RE_lowerFills_6 : decode prog_4_method_18_code 6 = .ok (.getfield 40, 3) := by decide +kernel
theorem d_RE_lowerFills_9 : decode prog_4_method_18_code 9 = .ok (.if_icmp .ge 53, 3) := by decide +kernel
theorem d_RE_lowerFills_12 : decode prog_4_method_18_code 12 = .ok (.aload_n 0, 1) := by decide +kernel
theorem d_RE_lowerFills_13 : decode prog_4_method_18_code 13 = .ok (.getfield 24, 3) := by decide +kernel
theorem d_RE_lowerFills_16 : decode prog_4_method_18_code 16 = .ok (.iload_n 2, 1) := by decide +kernel
theorem d_RE_lowerFills_17 : decode prog_4_method_18_code 17 = .ok (.iaload, 1) := by decide +kernel
theorem d_RE_lowerFills_18 : decode prog_4_method_18_code 18 = .ok (.istore_n 3, 1) := by decide +kernel
theorem d_RE_lowerFills_19 : decode prog_4_method_18_code 19 = .ok (.aload_n 0, 1) := by decide +kernel
theorem d_RE_lowerFills_20 : decode prog_4_method_18_code 20 = .ok (.getfield 9, 3) := by decide +kernel
theorem d_RE_lowerFills_23 : decode prog_4_method_18_code 23 = .ok (.iload_n 3, 1) := by decide +kernel
theorem d_RE_lowerFills_24 : decode prog_4_method_18_code 24 = .ok (.iaload, 1) := by decide +kernel
theorem d_RE_lowerFills_25 : decode prog_4_method_18_code 25 = .ok (.aload_n 0, 1) := by decide +kernel
theorem d_RE_lowerFills_26 : decode prog_4_method_18_code 26 = .ok (.iload_n 3, 1) := by decide +kernel
theorem d_RE_lowerFills_27 : decode prog_4_method_18_code 27 = .ok (.invokevirtual 105, 3) := by decide +kernel
theorem d_RE_lowerFills_30 : decode prog_4_method_18_code 30 = .ok (.invokestatic 108, 3) := by decide +kernel
theorem d_RE_lowerFills_33 : decode prog_4_method_18_code 33 = .ok (.istore 4, 2) := by decide +kernel
theorem d_RE_lowerFills_35 : decode prog_4_method_18_code 35 = .ok (.iload 4, 2) := by decide +kernel
theorem d_RE_lowerFills_37 : decode prog_4_method_18_code 37 = .ok (.aload_n 0, 1) := by decide +kernel
theorem d_RE_lowerFills_38 : decode prog_4_method_18_code 38 = .ok (.getfield 21, 3) := by decide +kernel
theorem d_RE_lowerFills_41 : decode prog_4_method_18_code 41 = .ok (.iload_n 3, 1) := by decide +kernel
theorem d_RE_lowerFills_42 : decode prog_4_method_18_code 42 = .ok (.iaload, 1) := by decide +kernel
theorem d_RE_lowerFills_43 : decode prog_4_method_18_code 43 = .ok (.if_icmp .ge 13, 3) := by decide +kernel
theorem d_RE_lowerFills_46 : decode prog_4_method_18_code 46 = .ok (.aload_n 0, 1) := by decide +kernel
theorem d_RE_lowerFills_47 : decode prog_4_method_18_code 47 = .ok (.getfield 21, 3) := by decide +kernel
theorem d_RE_lowerFills_50 : decode prog_4_method_18_code 50 = .ok (.iload_n 3, 1) := by decide +kernel
theorem d_RE_lowerFills_51 : decode prog_4_method_18_code 51 = .ok (.iload 4, 2) := by decide +kernel
theorem d_RE_lowerFills_53 : decode prog_4_method_18_code 53 = .ok (.iastore, 1) := by decide +kernel
theorem d_RE_lowerFills_54 : decode prog_4_method_18_code 54 = .ok (.iconst 1, 1) := by decide +kernel
theorem d_RE_lowerFills_55 : decode prog_4_method_18_code 55 = .ok (.istore_n 1, 1) := by decide +kernel
theorem d_RE_lowerFills_56 : decode prog_4_method_18_code 56 = .ok (.iinc 2 1, 3) := by decide +kernel
theorem d_RE_lowerFills_59 : decode prog_4_method_18_code 59 = .ok (.goto (-55), 3) := by decide +kernel
theorem d_RE_lowerFills_62 : decode prog_4_method_18_code 62 = .ok (.iload_n 1, 1) := by decide +kernel
theorem d_RE_lowerFills_63 : decode prog_4_method_18_code 63 = .ok (.ireturn, 1) := by decide +kernel
set_option maxHeartbeats 4000000 in
set_option maxRecDepth 100000 in
theorem w_RE_lowerFills_L4   (C : Cx prog_4_method_18_code 5 "LakeRelief$Relief" (Option.some Jvm.ClassFile.FieldType.boolean) p s m args meth c) (hG : Geo D adr cA s) (v : Int32 × Mem) (hE : ∀ (H : Heap) (locs : List Loc) (ls : Array Slot), va_P D cls (wld adr cA v.2 ν) H → va_S (AA adr) s.heap H locs → lv_has ls 5 [(1, .int v.1)] → W p l e rm_RE_lowerFills s m args below meth c H locs 0 0 Q (F0 m 62 ls [])) : ∀ (n : Nat) (μ : Mem) (y1 : Int32) (y2 : Int32), f_RE_lowerFills_L4 n μ y1 y2 = some v → ∀ {H : Heap} {locs : List Loc} {ls : Array Slot}, va_P D cls (wld adr cA μ ν) H → va_S (AA adr) s.heap H locs → lv_has ls 5 [(0, .ref (adr 18)), (1, .int y1), (2, .int y2)] → W p l e rm_RE_lowerFills s m args below meth c H locs 0 0 Q (F0 m 4 ls []) := by
  obtain ⟨hx, hb, hml, hown, hts, hr, hlocks⟩ := id C
  intro n
  induction n with
  | zero => intro μ y1 y2 hf; rw [f_RE_lowerFills_L4.eq_1] at hf; cases hf
  | succ n ih =>
    intro μ y1 y2 hf H locs ls hP hS hl
    rw [f_RE_lowerFills_L4.eq_2] at hf
    refine lv_iload_n hx hb d_RE_lowerFills_4 rfl (lv_at hl 2 rfl) ?_
    refine lv_aload_n hx hb d_RE_lowerFills_5 rfl (lv_at hl 0 rfl) ?_
    refine g_RE_landCount hx hb hts hown hG hP (hts _ in_61) d_RE_lowerFills_6 ?_
    refine lv_icmp_ge (tgt := 62) hx hb d_RE_lowerFills_9 (by decide) (fun hc => ?_) (fun hc => ?_)
    · replace hf := if_p hc hf
      obtain rfl := Option.some.inj hf
      exact hE _ _ _ hP hS (lv_sub hl [1] rfl)
    · replace hf := if_n hc hf
      refine lv_aload_n hx hb d_RE_lowerFills_12 rfl (lv_at hl 0 rfl) ?_
      refine g_RE_order hx hb hts hown hG hP (hts _ in_54) d_RE_lowerFills_13 ?_
      refine lv_iload_n hx hb d_RE_lowerFills_16 rfl (lv_at hl 2 rfl) ?_
      replace hf := G_some hf
      obtain ⟨hi1, hf⟩ := hf
      refine r_iald hx hb hG hP 23 64 (f := μ.1 23) (by decide) (wc_C (by decide) rfl) hi1 d_RE_lowerFills_17 ?_
      refine lv_istore_n (lv' := [(3, .int (μ.1 23 y2.toNatClampNeg)), (0, .ref (adr 18)), (1, .int y1), (2, .int y2)]) hx hb d_RE_lowerFills_18 rfl hl (by decide) rfl (fun ls hl => ?_)
      refine lv_aload_n hx hb d_RE_lowerFills_19 rfl (lv_at hl 1 rfl) ?_
      refine g_RE_height hx hb hts hown hG hP (hts _ in_44) d_RE_lowerFills_20 ?_
      refine lv_iload_n hx hb d_RE_lowerFills_23 rfl (lv_at hl 0 rfl) ?_
      replace hf := G_some hf
      obtain ⟨hi2, hf⟩ := hf
      refine r_iald hx hb hG hP 19 64 (f := μ.1 19) (by decide) (wc_C (by decide) rfl) hi2 d_RE_lowerFills_24 ?_
      refine lv_aload_n hx hb d_RE_lowerFills_25 rfl (lv_at hl 1 rfl) ?_
      refine lv_iload_n hx hb d_RE_lowerFills_26 rfl (lv_at hl 0 rfl) ?_
      replace hf := B_some hf
      obtain ⟨v3, hv3, hf⟩ := hf
      refine ki (kv (As := [.int (μ.1 23 y2.toNatClampNeg)]) (rest := [.int (μ.1 19 (μ.1 23 y2.toNatClampNeg).toNatClampNeg)]) ⟨hx, hb, hml, hown, hts⟩ (cw_RE_105 hts ⟨Nat.le_of_ble_eq_true rfl, Nat.le_of_ble_eq_true rfl⟩) (c_RE_leastFillBeside l D adr cA μ ν (μ.1 23 y2.toNatClampNeg) hv3) hG hP (rc_o (q := 18) (ci := 2) hG hP (by decide) (wc_C (by decide) rfl) rfl) rfl hl.1 (Nat.le_of_ble_eq_true rfl) d_RE_lowerFills_27) hS (fun H locs hP hS => ?_)
      refine va_mmax hx hb (hml.trans hl.1.symm) hown (hts _ in_329) (hts _ in_109) (hts _ in_6) (hts _ in_110) (Nat.le_of_ble_eq_true rfl) (Nat.le_of_ble_eq_true rfl) (Nat.zero_le _) (Nat.zero_le _) d_RE_lowerFills_30 ?_
      refine lv_istore (lv' := [(4, .int (if (μ.1 19 (μ.1 23 y2.toNatClampNeg).toNatClampNeg) < v3 then v3 else (μ.1 19 (μ.1 23 y2.toNatClampNeg).toNatClampNeg))), (3, .int (μ.1 23 y2.toNatClampNeg)), (0, .ref (adr 18)), (1, .int y1), (2, .int y2)]) hx hb d_RE_lowerFills_33 hl (by decide) rfl (fun ls hl => ?_)
      refine lv_iload hx hb d_RE_lowerFills_35 (lv_at hl 0 rfl) ?_
      refine lv_aload_n hx hb d_RE_lowerFills_37 rfl (lv_at hl 2 rfl) ?_
      refine g_RE_fill hx hb hts hown hG hP (hts _ in_52) d_RE_lowerFills_38 ?_
      refine lv_iload_n hx hb d_RE_lowerFills_41 rfl (lv_at hl 1 rfl) ?_
      replace hf := G_some hf
      obtain ⟨hi4, hf⟩ := hf
      refine r_iald hx hb hG hP 22 64 (f := μ.1 22) (by decide) (wc_C (by decide) rfl) hi4 d_RE_lowerFills_42 ?_
      replace hf := B_some hf
      obtain ⟨v5, hv5, hf⟩ := hf
      have hJ : ∀ (H : Heap) (locs : List Loc) (ls : Array Slot), va_P D cls (wld adr cA v5.2 ν) H → va_S (AA adr) s.heap H locs → lv_has ls 5 [(0, .ref (adr 18)), (1, .int v5.1), (2, .int y2)] → W p l e rm_RE_lowerFills s m args below meth c H locs 0 0 Q (F0 m 56 ls []) := by
        clear hv5
        intro H locs ls hP hS hl
        refine lv_iinc (v := (y2 + 1)) (lv' := [(2, .int (y2 + 1)), (0, .ref (adr 18)), (1, .int v5.1)]) hx hb d_RE_lowerFills_56 hl (k := 2) rfl rfl (by decide) rfl (fun ls hl => ?_)
        refine lv_goto (tgt := 4) hx hb d_RE_lowerFills_59 (by decide) ?_
        exact ih _ _ _ hf hP hS (lv_sub hl [1, 2, 0] rfl)
      clear hf
      have hf := hv5
      clear hv5
      refine lv_icmp_ge (tgt := 56) hx hb d_RE_lowerFills_43 (by decide) (fun hc => ?_) (fun hc => ?_)
      · replace hf := if_p hc hf
        obtain rfl := Option.some.inj hf
        exact hJ _ _ _ hP hS (lv_sub hl [2, 3, 4] rfl)
      · replace hf := if_n hc hf
        refine lv_aload_n hx hb d_RE_lowerFills_46 rfl (lv_at hl 2 rfl) ?_
        refine g_RE_fill hx hb hts hown hG hP (hts _ in_52) d_RE_lowerFills_47 ?_
        refine lv_iload_n hx hb d_RE_lowerFills_50 rfl (lv_at hl 1 rfl) ?_
        refine lv_iload hx hb d_RE_lowerFills_51 (lv_at hl 0 rfl) ?_
        replace hf := G_some hf
        obtain ⟨hi6, hf⟩ := hf
        refine rC_iast hx hb hG hP hS 22 64 (by decide) (fun _ _ => rfl) hi6 d_RE_lowerFills_53 (fun H locs hP hS => ?_)
        refine lv_iconst (v := 1) hx hb d_RE_lowerFills_54 (by decide) ?_
        refine lv_istore_n (lv' := [(1, .int 1), (4, .int (if (μ.1 19 (μ.1 23 y2.toNatClampNeg).toNatClampNeg) < v3 then v3 else (μ.1 19 (μ.1 23 y2.toNatClampNeg).toNatClampNeg))), (3, .int (μ.1 23 y2.toNatClampNeg)), (0, .ref (adr 18)), (2, .int y2)]) hx hb d_RE_lowerFills_55 rfl hl (by decide) rfl (fun ls hl => ?_)
        obtain rfl := Option.some.inj hf
        exact hJ _ _ _ hP hS (lv_sub hl [3, 0, 4] rfl)
set_option maxHeartbeats 4000000 in
set_option maxRecDepth 100000 in
theorem w_RE_lowerFills   (C : Cx prog_4_method_18_code 5 "LakeRelief$Relief" (Option.some Jvm.ClassFile.FieldType.boolean) p s m args meth c) (hG : Geo D adr cA s) {res : Int32 × Mem} (hf : f_RE_lowerFills μ  = some res) (hq : ∀ (pc : Nat) (ls : Array Slot) (H : Heap) (locs : List Loc), res.1 &&& 1 = res.1 → decode prog_4_method_18_code pc = .ok (.ireturn, 1) → va_P D cls (wld adr cA res.2 ν) H → va_S (AA adr) s.heap H locs → W p l e rm_RE_lowerFills s m args below meth c H locs 0 0 Q (F0 m pc ls [.int res.1])) {H : Heap} {locs : List Loc} {ls : Array Slot} (hP : va_P D cls (wld adr cA μ ν) H) (hS : va_S (AA adr) s.heap H locs) (hl : lv_has ls 5 [(0, .ref (adr 18))]) : W p l e rm_RE_lowerFills s m args below meth c H locs 0 0 Q (F0 m 0 ls []) := by
  obtain ⟨hx, hb, hml, hown, hts, hr, hlocks⟩ := id C
  unfold f_RE_lowerFills at hf
  refine lv_iconst (v := 0) hx hb d_RE_lowerFills_0 (by decide) ?_
  refine lv_istore_n (lv' := [(1, .int 0), (0, .ref (adr 18))]) hx hb d_RE_lowerFills_1 rfl hl (by decide) rfl (fun ls hl => ?_)
  refine lv_iconst (v := 0) hx hb d_RE_lowerFills_2 (by decide) ?_
  refine lv_istore_n (lv' := [(2, .int 0), (1, .int 0), (0, .ref (adr 18))]) hx hb d_RE_lowerFills_3 rfl hl (by decide) rfl (fun ls hl => ?_)
  replace hf := B_some hf
  obtain ⟨v7, hv7, hf⟩ := hf
  refine w_RE_lowerFills_L4   C hG v7 ?_ FU _ _ _ hv7 hP hS (lv_sub hl [2, 1, 0] rfl)
  clear hv7 hP hS hl
  intro H locs ls hP hS hl
  refine lv_iload_n hx hb d_RE_lowerFills_62 rfl (lv_at hl 0 rfl) ?_
  replace hf := Bg_some hf
  obtain ⟨hb8, hf⟩ := hf
  obtain rfl := Option.some.inj hf
  exact hq _ _ _ _ hb8 d_RE_lowerFills_63 hP hS
theorem c_RE_lowerFills (l : Launch) (D : va_G) (adr : Nat → Nat) (cA : Nat → ClassId) (μ ν : Mem)   {res : Int32 × Mem} (hf : f_RE_lowerFills μ  = some res) : Met l y_RE_lowerFills (Cond.code y_RE_lowerFills prog_4_method_18_code 5 (Option.some Jvm.ClassFile.FieldType.boolean) :: lw_ok) rm_RE_lowerFills (va_Pc [.ref (adr 18)] (Wd D adr cA μ ν)) (QI D adr cA res.1 res.2 ν) 0 0 (AA adr) :=
  met_of (own := "LakeRelief$Relief") rfl rfl (Nat.le_of_ble_eq_true rfl) (fun p e s m below meth c C hG hP hS ls hl => w_RE_lowerFills   C hG hf (fun pc ls H locs hz hd hP hS => ret_z C.1 C.2.1 C.2.2.2.2.2.1 C.2.2.2.2.2.2 hG hz hd hP hS) hP hS hl)
end X_RE_lowerFills
section X_RE_findFills
variable {p : Program} {l : Launch} {e : Env} {s : State} {m : MethodId} {args : Array Value} {below : List Frame} {meth : Method} {c : Code} {Q : State → Prop}
variable {D : va_G} {adr : Nat → Nat} {cA : Nat → ClassId} {μ ν : Mem}
theorem d_RE_findFills_0 : decode prog_4_method_17_code 0 = .ok (.iconst 0, 1) := by decide +kernel
theorem d_RE_findFills_1 : decode prog_4_method_17_code 1 = .ok (.istore_n 1, 1) := by decide +kernel
theorem d_RE_findFills_2 : decode prog_4_method_17_code 2 = .ok (.iload_n 1, 1) := by decide +kernel
theorem d_RE_findFills_3 : decode prog_4_method_17_code 3 = .ok (.aload_n 0, 1) := by decide +kernel
theorem d_RE_findFills_4 : decode prog_4_method_17_code 4 = .ok (.getfield 40, 3) := by decide +kernel
theorem d_RE_findFills_7 : decode prog_4_method_17_code 7 = .ok (.if_icmp .ge 22, 3) := by decide +kernel
theorem d_RE_findFills_10 : decode prog_4_method_17_code 10 = .ok (.aload_n 0, 1) := by decide +kernel
theorem d_RE_findFills_11 : decode prog_4_method_17_code 11 = .ok (.getfield 21, 3) := by decide +kernel
theorem d_RE_findFills_14 : decode prog_4_method_17_code 14 = .ok (.aload_n 0, 1) := by decide +kernel
theorem d_RE_findFills_15 : decode prog_4_method_17_code 15 = .ok (.getfield 24, 3) := by decide +kernel
theorem d_RE_findFills_18 : decode prog_4_method_17_code 18 = .ok (.iload_n 1, 1) := by decide +kernel
theorem d_RE_findFills_19 : decode prog_4_method_17_code 19 = .ok (.iaload, 1) := by decide +kernel
theorem d_RE_findFills_20 : decode prog_4_method_17_code 20 = .ok (.ldc 100, 2) := by decide +kernel
theorem d_RE_findFills_22 : decode prog_4_method_17_code 22 = .ok (.iastore, 1) := by decide +kernel
theorem d_RE_findFills_23 : decode prog_4_method_17_code 23 = .ok (.iinc 1 1, 3) := by decide +kernel
theorem d_RE_findFills_26 : decode prog_4_method_17_code 26 = .ok (.goto (-24), 3) := by decide +kernel
theorem d_RE_findFills_29 : decode prog_4_method_17_code 29 = .ok (.iconst 1, 1) := by decide +kernel
theorem d_RE_findFills_30 : decode prog_4_method_17_code 30 = .ok (.istore_n 1, 1) := by decide +kernel
theorem d_RE_findFills_31 : decode prog_4_method_17_code 31 = .ok (.iconst 0, 1) := by decide +kernel
theorem d_RE_findFills_32 : decode prog_4_method_17_code 32 = .ok (.istore_n 2, 1) := by decide +kernel
theorem d_RE_findFills_33 : decode prog_4_method_17_code 33 = .ok (.iload_n 2, 1) := by decide +kernel
theorem d_RE_findFills_34 : decode prog_4_method_17_code 34 = .ok (.aload_n 0, 1) := by decide +kernel
theorem d_RE_findFills_35 : decode prog_4_method_17_code 35 = .ok (.getfield 37, 3) := by decide +kernel
theorem d_RE_findFills_38 : decode prog_4_method_17_code 38 = .ok (.if_icmp .gt 18, 3) := by decide +kernel
theorem d_RE_findFills_41 : decode prog_4_method_17_code 41 = .ok (.iload_n 1, 1) := by decide +kernel
theorem d_RE_findFills_42 : decode prog_4_method_17_code 42 = .ok (.ifCond .eq 14, 3) := by decide +kernel
theorem d_RE_findFills_45 : decode prog_4_method_17_code 45 = .ok (.aload_n 0, 1) := by decide +kernel
theorem d_RE_findFills_46 : decode prog_4_method_17_code 46 = .ok (.invokevirtual 101, 3) := by decide +kernel
theorem d_RE_findFills_49 : decode prog_4_method_17_code 49 = .ok (.istore_n 1, 1) := by decide +kernel
theorem d_RE_findFills_50 : decode prog_4_method_17_code 50 = .ok (.iinc 2 1, 3) := by decide +kernel
theorem d_RE_findFills_53 : decode prog_4_method_17_code 53 = .ok (.goto (-20), 3) := by decide +kernel
theorem d_RE_findFills_56 : decode prog_4_method_17_code 56 = .ok (.return_, 1) := by decide +kernel
set_option maxHeartbeats 4000000 in
set_option maxRecDepth 100000 in
theorem w_RE_findFills_L2   (C : Cx prog_4_method_17_code 3 "LakeRelief$Relief" (Option.none : Option Jvm.ClassFile.FieldType) p s m args meth c) (hG : Geo D adr cA s) (v : Mem) (hE : ∀ (H : Heap) (locs : List Loc) (ls : Array Slot), va_P D cls (wld adr cA v ν) H → va_S (AA adr) s.heap H locs → lv_has ls 3 [(0, .ref (adr 18))] → W p l e rm_RE_findFills s m args below meth c H locs 0 0 Q (F0 m 29 ls [])) : ∀ (n : Nat) (μ : Mem) (y1 : Int32), f_RE_findFills_L2 n μ y1 = some v → ∀ {H : Heap} {locs : List Loc} {ls : Array Slot}, va_P D cls (wld adr cA μ ν) H → va_S (AA adr) s.heap H locs → lv_has ls 3 [(0, .ref (adr 18)), (1, .int y1)] → W p l e rm_RE_findFills s m args below meth c H locs 0 0 Q (F0 m 2 ls []) := by
  obtain ⟨hx, hb, hml, hown, hts, hr, hlocks⟩ := id C
  intro n
  induction n with
  | zero => intro μ y1 hf; rw [f_RE_findFills_L2.eq_1] at hf; cases hf
  | succ n ih =>
    intro μ y1 hf H locs ls hP hS hl
    rw [f_RE_findFills_L2.eq_2] at hf
    refine lv_iload_n hx hb d_RE_findFills_2 rfl (lv_at hl 1 rfl) ?_
    refine lv_aload_n hx hb d_RE_findFills_3 rfl (lv_at hl 0 rfl) ?_
    refine g_RE_landCount hx hb hts hown hG hP (hts _ in_61) d_RE_findFills_4 ?_
    refine lv_icmp_ge (tgt := 29) hx hb d_RE_findFills_7 (by decide) (fun hc => ?_) (fun hc => ?_)
    · replace hf := if_p hc hf
      obtain rfl := Option.some.inj hf
      exact hE _ _ _ hP hS (lv_sub hl [0] rfl)
    · replace hf := if_n hc hf
      refine lv_aload_n hx hb d_RE_findFills_10 rfl (lv_at hl 0 rfl) ?_
      refine g_RE_fill hx hb hts hown hG hP (hts _ in_52) d_RE_findFills_11 ?_
      refine lv_aload_n hx hb d_RE_findFills_14 rfl (lv_at hl 0 rfl) ?_
      refine g_RE_order hx hb hts hown hG hP (hts _ in_54) d_RE_findFills_15 ?_
      refine lv_iload_n hx hb d_RE_findFills_18 rfl (lv_at hl 1 rfl) ?_
      replace hf := G_some hf
      obtain ⟨hi1, hf⟩ := hf
      refine r_iald hx hb hG hP 23 64 (f := μ.1 23) (by decide) (wc_C (by decide) rfl) hi1 d_RE_findFills_19 ?_
      refine lv_ldc (v := 1000001) hx hb hown (hts _ in_318) d_RE_findFills_20 ?_
      replace hf := G_some hf
      obtain ⟨hi2, hf⟩ := hf
      refine rC_iast hx hb hG hP hS 22 64 (by decide) (fun _ _ => rfl) hi2 d_RE_findFills_22 (fun H locs hP hS => ?_)
      refine lv_iinc (v := (y1 + 1)) (lv' := [(1, .int (y1 + 1)), (0, .ref (adr 18))]) hx hb d_RE_findFills_23 hl (k := 1) rfl rfl (by decide) rfl (fun ls hl => ?_)
      refine lv_goto (tgt := 2) hx hb d_RE_findFills_26 (by decide) ?_
      exact ih _ _ hf hP hS (lv_sub hl [1, 0] rfl)
set_option maxHeartbeats 4000000 in
set_option maxRecDepth 100000 in
theorem w_RE_findFills_L33   (C : Cx prog_4_method_17_code 3 "LakeRelief$Relief" (Option.none : Option Jvm.ClassFile.FieldType) p s m args meth c) (hG : Geo D adr cA s) (v : Mem) (hE : ∀ (H : Heap) (locs : List Loc) (ls : Array Slot), va_P D cls (wld adr cA v ν) H → va_S (AA adr) s.heap H locs → lv_has ls 3 [] → W p l e rm_RE_findFills s m args below meth c H locs 0 0 Q (F0 m 56 ls [])) : ∀ (n : Nat) (μ : Mem) (y1 : Int32) (y2 : Int32), f_RE_findFills_L33 n μ y1 y2 = some v → ∀ {H : Heap} {locs : List Loc} {ls : Array Slot}, va_P D cls (wld adr cA μ ν) H → va_S (AA adr) s.heap H locs → lv_has ls 3 [(0, .ref (adr 18)), (1, .int y1), (2, .int y2)] → W p l e rm_RE_findFills s m args below meth c H locs 0 0 Q (F0 m 33 ls []) := by
  obtain ⟨hx, hb, hml, hown, hts, hr, hlocks⟩ := id C
  intro n
  induction n with
  | zero => intro μ y1 y2 hf; rw [f_RE_findFills_L33.eq_1] at hf; cases hf
  | succ n ih =>
    intro μ y1 y2 hf H locs ls hP hS hl
    rw [f_RE_findFills_L33.eq_2] at hf
    refine lv_iload_n hx hb d_RE_findFills_33 rfl (lv_at hl 2 rfl) ?_
    refine lv_aload_n hx hb d_RE_findFills_34 rfl (lv_at hl 0 rfl) ?_
    refine g_RE_size hx hb hts hown hG hP (hts _ in_59) d_RE_findFills_35 ?_
    refine lv_icmp_gt (tgt := 56) hx hb d_RE_findFills_38 (by decide) (fun hc => ?_) (fun hc => ?_)
    · replace hf := if_p hc hf
      obtain rfl := Option.some.inj hf
      exact hE _ _ _ hP hS (lv_sub hl [] rfl)
    · replace hf := if_n hc hf
      refine lv_iload_n hx hb d_RE_findFills_41 rfl (lv_at hl 1 rfl) ?_
      refine lv_if_eq (tgt := 56) hx hb d_RE_findFills_42 (by decide) (fun hc => ?_) (fun hc => ?_)
      · replace hf := if_p hc hf
        obtain rfl := Option.some.inj hf
        exact hE _ _ _ hP hS (lv_sub hl [] rfl)
      · replace hf := if_n hc hf
        refine lv_aload_n hx hb d_RE_findFills_45 rfl (lv_at hl 0 rfl) ?_
        replace hf := B_some hf
        obtain ⟨v4, hv4, hf⟩ := hf
        refine ki (kv (As := []) (rest := []) ⟨hx, hb, hml, hown, hts⟩ (cw_RE_101 hts ⟨Nat.le_of_ble_eq_true rfl, Nat.le_of_ble_eq_true rfl⟩) (c_RE_lowerFills l D adr cA μ ν hv4) hG hP (rc_o (q := 18) (ci := 2) hG hP (by decide) (wc_C (by decide) rfl) rfl) rfl hl.1 (Nat.le_of_ble_eq_true rfl) d_RE_findFills_46) hS (fun H locs hP hS => ?_)
        refine lv_istore_n (lv' := [(1, .int v4.1), (0, .ref (adr 18)), (2, .int y2)]) hx hb d_RE_findFills_49 rfl hl (by decide) rfl (fun ls hl => ?_)
        refine lv_iinc (v := (y2 + 1)) (lv' := [(2, .int (y2 + 1)), (1, .int v4.1), (0, .ref (adr 18))]) hx hb d_RE_findFills_50 hl (k := 2) rfl rfl (by decide) rfl (fun ls hl => ?_)
        refine lv_goto (tgt := 33) hx hb d_RE_findFills_53 (by decide) ?_
        exact ih _ _ _ hf hP hS (lv_sub hl [2, 1, 0] rfl)
set_option maxHeartbeats 4000000 in
set_option maxRecDepth 100000 in
theorem w_RE_findFills   (C : Cx prog_4_method_17_code 3 "LakeRelief$Relief" (Option.none : Option Jvm.ClassFile.FieldType) p s m args meth c) (hG : Geo D adr cA s) {res : Mem} (hf : f_RE_findFills μ  = some res) (hq : ∀ (pc : Nat) (ls : Array Slot) (H : Heap) (locs : List Loc), decode prog_4_method_17_code pc = .ok (.return_, 1) → va_P D cls (wld adr cA res ν) H → va_S (AA adr) s.heap H locs → W p l e rm_RE_findFills s m args below meth c H locs 0 0 Q (F0 m pc ls [])) {H : Heap} {locs : List Loc} {ls : Array Slot} (hP : va_P D cls (wld adr cA μ ν) H) (hS : va_S (AA adr) s.heap H locs) (hl : lv_has ls 3 [(0, .ref (adr 18))]) : W p l e rm_RE_findFills s m args below meth c H locs 0 0 Q (F0 m 0 ls []) := by
  obtain ⟨hx, hb, hml, hown, hts, hr, hlocks⟩ := id C
  unfold f_RE_findFills at hf
  refine lv_iconst (v := 0) hx hb d_RE_findFills_0 (by decide) ?_
  refine lv_istore_n (lv' := [(1, .int 0), (0, .ref (adr 18))]) hx hb d_RE_findFills_1 rfl hl (by decide) rfl (fun ls hl => ?_)
  replace hf := B_some hf
  obtain ⟨v3, hv3, hf⟩ := hf
  refine w_RE_findFills_L2   C hG v3 ?_ FU _ _ hv3 hP hS (lv_sub hl [1, 0] rfl)
  clear hv3 hP hS hl
  intro H locs ls hP hS hl
  refine lv_iconst (v := 1) hx hb d_RE_findFills_29 (by decide) ?_
  refine lv_istore_n (lv' := [(1, .int 1), (0, .ref (adr 18))]) hx hb d_RE_findFills_30 rfl hl (by decide) rfl (fun ls hl => ?_)
  refine lv_iconst (v := 0) hx hb d_RE_findFills_31 (by decide) ?_
  refine lv_istore_n (lv' := [(2, .int 0), (1, .int 1), (0, .ref (adr 18))]) hx hb d_RE_findFills_32 rfl hl (by decide) rfl (fun ls hl => ?_)
  replace hf := B_some hf
  obtain ⟨v5, hv5, hf⟩ := hf
  refine w_RE_findFills_L33   C hG v5 ?_ FU _ _ _ hv5 hP hS (lv_sub hl [2, 1, 0] rfl)
  clear hv5 hP hS hl
  intro H locs ls hP hS hl
  obtain rfl := Option.some.inj hf
  exact hq _ _ _ _ d_RE_findFills_56 hP hS
theorem c_RE_findFills (l : Launch) (D : va_G) (adr : Nat → Nat) (cA : Nat → ClassId) (μ ν : Mem)   {res : Mem} (hf : f_RE_findFills μ  = some res) : Met l y_RE_findFills (Cond.code y_RE_findFills prog_4_method_17_code 3 (Option.none : Option Jvm.ClassFile.FieldType) :: lw_ok) rm_RE_findFills (va_Pc [.ref (adr 18)] (Wd D adr cA μ ν)) (QV D adr cA res ν) 0 0 (AA adr) :=
  met_of (own := "LakeRelief$Relief") rfl rfl (Nat.le_of_ble_eq_true rfl) (fun p e s m below meth c C hG hP hS ls hl => w_RE_findFills   C hG hf (fun pc ls H locs hd hP hS => ret_v C.1 C.2.1 C.2.2.2.2.2.1 C.2.2.2.2.2.2 hG hd hP hS) hP hS hl)
end X_RE_findFills
section X_RE_survey
variable {p : Program} {l : Launch} {e : Env} {s : State} {m : MethodId} {args : Array Value} {below : List Frame} {meth : Method} {c : Code} {Q : State → Prop}
variable {D : va_G} {adr : Nat → Nat} {cA : Nat → ClassId} {μ ν : Mem}
theorem d_RE_survey_0 : decode prog_4_method_4_code 0 = .ok (.aload_n 0, 1) := by decide +kernel
theorem d_RE_survey_1 : decode prog_4_method_4_code 1 = .ok (.invokevirtual 51, 3) := by decide +kernel
theorem d_RE_survey_4 : decode prog_4_method_4_code 4 = .ok (.aload_n 0, 1) := by decide +kernel
theorem d_RE_survey_5 : decode prog_4_method_4_code 5 = .ok (.invokevirtual 54, 3) := by decide +kernel
theorem d_RE_survey_8 : decode prog_4_method_4_code 8 = .ok (.aload_n 0, 1) := by decide +kernel
theorem d_RE_survey_9 : decode prog_4_method_4_code 9 = .ok (.invokevirtual 57, 3) := by decide +kernel
theorem d_RE_survey_12 : decode prog_4_method_4_code 12 = .ok (.aload_n 0, 1) := by decide +kernel
theorem d_RE_survey_13 : decode prog_4_method_4_code 13 = .ok (.invokevirtual 60, 3) := by decide +kernel
theorem d_RE_survey_16 : decode prog_4_method_4_code 16 = .ok (.return_, 1) := by decide +kernel
set_option maxHeartbeats 4000000 in
set_option maxRecDepth 100000 in
theorem w_RE_survey   (C : Cx prog_4_method_4_code 1 "LakeRelief$Relief" (Option.none : Option Jvm.ClassFile.FieldType) p s m args meth c) (hG : Geo D adr cA s) {res : Mem} (hf : f_RE_survey μ  = some res) (hq : ∀ (pc : Nat) (ls : Array Slot) (H : Heap) (locs : List Loc), decode prog_4_method_4_code pc = .ok (.return_, 1) → va_P D cls (wld adr cA res ν) H → va_S (AA adr) s.heap H locs → W p l e rm_RE_survey s m args below meth c H locs 0 0 Q (F0 m pc ls [])) {H : Heap} {locs : List Loc} {ls : Array Slot} (hP : va_P D cls (wld adr cA μ ν) H) (hS : va_S (AA adr) s.heap H locs) (hl : lv_has ls 1 [(0, .ref (adr 18))]) : W p l e rm_RE_survey s m args below meth c H locs 0 0 Q (F0 m 0 ls []) := by
  obtain ⟨hx, hb, hml, hown, hts, hr, hlocks⟩ := id C
  unfold f_RE_survey at hf
  refine lv_aload_n hx hb d_RE_survey_0 rfl (lv_at hl 0 rfl) ?_
  replace hf := B_some hf
  obtain ⟨v1, hv1, hf⟩ := hf
  refine kw (kv (As := []) (rest := []) ⟨hx, hb, hml, hown, hts⟩ (cw_RE_51 hts ⟨Nat.le_of_ble_eq_true rfl, Nat.le_of_ble_eq_true rfl⟩) (c_RE_findNeighbours l D adr cA μ ν hv1) hG hP (rc_o (q := 18) (ci := 2) hG hP (by decide) (wc_C (by decide) rfl) rfl) rfl hl.1 (Nat.le_of_ble_eq_true rfl) d_RE_survey_1) hS (fun H locs hP hS => ?_)
  refine lv_aload_n hx hb d_RE_survey_4 rfl (lv_at hl 0 rfl) ?_
  replace hf := B_some hf
  obtain ⟨v2, hv2, hf⟩ := hf
  refine kw (kv (As := []) (rest := []) ⟨hx, hb, hml, hown, hts⟩ (cw_RE_54 hts ⟨Nat.le_of_ble_eq_true rfl, Nat.le_of_ble_eq_true rfl⟩) (c_RE_sortLand l D adr cA v1 ν hv2) hG hP (rc_o (q := 18) (ci := 2) hG hP (by decide) (wc_C (by decide) rfl) rfl) rfl hl.1 (Nat.le_of_ble_eq_true rfl) d_RE_survey_5) hS (fun H locs hP hS => ?_)
  refine lv_aload_n hx hb d_RE_survey_8 rfl (lv_at hl 0 rfl) ?_
  replace hf := B_some hf
  obtain ⟨v3, hv3, hf⟩ := hf
  refine kw (kv (As := []) (rest := []) ⟨hx, hb, hml, hown, hts⟩ (cw_RE_57 hts ⟨Nat.le_of_ble_eq_true rfl, Nat.le_of_ble_eq_true rfl⟩) (c_RE_findWays l D adr cA v2 ν hv3) hG hP (rc_o (q := 18) (ci := 2) hG hP (by decide) (wc_C (by decide) rfl) rfl) rfl hl.1 (Nat.le_of_ble_eq_true rfl) d_RE_survey_9) hS (fun H locs hP hS => ?_)
  refine lv_aload_n hx hb d_RE_survey_12 rfl (lv_at hl 0 rfl) ?_
  replace hf := B_some hf
  obtain ⟨v4, hv4, hf⟩ := hf
  refine kw (kv (As := []) (rest := []) ⟨hx, hb, hml, hown, hts⟩ (cw_RE_60 hts ⟨Nat.le_of_ble_eq_true rfl, Nat.le_of_ble_eq_true rfl⟩) (c_RE_findFills l D adr cA v3 ν hv4) hG hP (rc_o (q := 18) (ci := 2) hG hP (by decide) (wc_C (by decide) rfl) rfl) rfl hl.1 (Nat.le_of_ble_eq_true rfl) d_RE_survey_13) hS (fun H locs hP hS => ?_)
  obtain rfl := Option.some.inj hf
  exact hq _ _ _ _ d_RE_survey_16 hP hS
theorem c_RE_survey (l : Launch) (D : va_G) (adr : Nat → Nat) (cA : Nat → ClassId) (μ ν : Mem)   {res : Mem} (hf : f_RE_survey μ  = some res) : Met l y_RE_survey (Cond.code y_RE_survey prog_4_method_4_code 1 (Option.none : Option Jvm.ClassFile.FieldType) :: lw_ok) rm_RE_survey (va_Pc [.ref (adr 18)] (Wd D adr cA μ ν)) (QV D adr cA res ν) 0 0 (AA adr) :=
  met_of (own := "LakeRelief$Relief") rfl rfl (Nat.le_of_ble_eq_true rfl) (fun p e s m below meth c C hG hP hS ls hl => w_RE_survey   C hG hf (fun pc ls H locs hd hP hS => ret_v C.1 C.2.1 C.2.2.2.2.2.1 C.2.2.2.2.2.2 hG hd hP hS) hP hS hl)
end X_RE_survey
section X_RE_isHollow
variable {p : Program} {l : Launch} {e : Env} {s : State} {m : MethodId} {args : Array Value} {below : List Frame} {meth : Method} {c : Code} {Q : State → Prop}
variable {D : va_G} {adr : Nat → Nat} {cA : Nat → ClassId} {μ ν : Mem}
theorem d_RE_isHollow_0 : decode prog_4_method_20_code 0 = .ok (.aload_n 0, 1) := by decide +kernel
theorem d_RE_isHollow_1 : decode prog_4_method_20_code 1 = .ok (.iload_n 1, 1) := by decide +kernel
theorem d_RE_isHollow_2 : decode prog_4_method_20_code 2 = .ok (.invokevirtual 75, 3) := by decide +kernel
theorem d_RE_isHollow_5 : decode prog_4_method_20_code 5 = .ok (.ifCond .eq 18, 3) := by decide +kernel
theorem d_RE_isHollow_8 : decode prog_4_method_20_code 8 = .ok (.aload_n 0, 1) := by decide +kernel
theorem d_RE_isHollow_9 : decode prog_4_method_20_code 9 = .ok (.getfield 15, 3) := by decide +kernel
theorem d_RE_isHollow_12 : decode prog_4_method_20_code 12 = .ok (.iload_n 1, 1) := by decide +kernel
theorem d_RE_isHollow_13 : decode prog_4_method_20_code 13 = .ok (.iaload, 1) := by decide +kernel
theorem d_RE_isHollow_14 : decode prog_4_method_20_code 14 = .ok (.bipush (-3), 2) := by decide +kernel
theorem d_RE_isHollow_16 : decode prog_4_method_20_code 16 = .ok (.if_icmp .ne 7, 3) := by decide +kernel
theorem d_RE_isHollow_19 : decode prog_4_method_20_code 19 = .ok (.iconst 1, 1) := by decide +kernel
theorem d_RE_isHollow_20 : decode prog_4_method_20_code 20 = .ok (.goto 4, 3) := by decide +kernel
theorem d_RE_isHollow_23 : decode prog_4_method_20_code 23 = .ok (.iconst 0, 1) := by decide +kernel
theorem d_RE_isHollow_24 : decode prog_4_method_20_code 24 = .ok (.ireturn, 1) := by decide +kernel
set_option maxHeartbeats 4000000 in
set_option maxRecDepth 100000 in
theorem w_RE_isHollow (x1 : Int32)  (C : Cx prog_4_method_20_code 2 "LakeRelief$Relief" (Option.some Jvm.ClassFile.FieldType.boolean) p s m args meth c) (hG : Geo D adr cA s) {res : Int32} (hf : f_RE_isHollow μ x1 = some res) (hq : ∀ (pc : Nat) (ls : Array Slot) (H : Heap) (locs : List Loc), res &&& 1 = res → decode prog_4_method_20_code pc = .ok (.ireturn, 1) → va_P D cls (wld adr cA μ ν) H → va_S (AA adr) s.heap H locs → W p l e rm_RE_isHollow s m args below meth c H locs 0 0 Q (F0 m pc ls [.int res])) {H : Heap} {locs : List Loc} {ls : Array Slot} (hP : va_P D cls (wld adr cA μ ν) H) (hS : va_S (AA adr) s.heap H locs) (hl : lv_has ls 2 [(0, .ref (adr 18)), (1, .int x1)]) : W p l e rm_RE_isHollow s m args below meth c H locs 0 0 Q (F0 m 0 ls []) := by
  obtain ⟨hx, hb, hml, hown, hts, hr, hlocks⟩ := id C
  unfold f_RE_isHollow at hf
  refine lv_aload_n hx hb d_RE_isHollow_0 rfl (lv_at hl 0 rfl) ?_
  refine lv_iload_n hx hb d_RE_isHollow_1 rfl (lv_at hl 1 rfl) ?_
  refine ki (kv (As := [.int x1]) (rest := []) ⟨hx, hb, hml, hown, hts⟩ (cw_RE_75 hts ⟨Nat.le_of_ble_eq_true rfl, Nat.le_of_ble_eq_true rfl⟩) (c_RE_isLand l D adr cA μ ν x1) hG hP (rc_o (q := 18) (ci := 2) hG hP (by decide) (wc_C (by decide) rfl) rfl) rfl hl.1 (Nat.le_of_ble_eq_true rfl) d_RE_isHollow_2) hS (fun H locs hP hS => ?_)
  refine lv_if_eq (tgt := 23) hx hb d_RE_isHollow_5 (by decide) (fun hc => ?_) (fun hc => ?_)
  · replace hf := if_p hc hf
    refine lv_iconst (v := 0) hx hb d_RE_isHollow_23 (by decide) ?_
    obtain rfl := Option.some.inj hf
    exact hq _ _ _ _ (by decide) d_RE_isHollow_24 hP hS
  · replace hf := if_n hc hf
    refine lv_aload_n hx hb d_RE_isHollow_8 rfl (lv_at hl 0 rfl) ?_
    refine g_RE_down hx hb hts hown hG hP (hts _ in_47) d_RE_isHollow_9 ?_
    refine lv_iload_n hx hb d_RE_isHollow_12 rfl (lv_at hl 1 rfl) ?_
    replace hf := G_some hf
    obtain ⟨hi1, hf⟩ := hf
    refine r_iald hx hb hG hP 20 64 (f := μ.1 20) (by decide) (wc_C (by decide) rfl) hi1 d_RE_isHollow_13 ?_
    refine lv_bipush (v := (-3)) hx hb d_RE_isHollow_14 (by decide) ?_
    refine lv_icmp_ne (tgt := 23) hx hb d_RE_isHollow_16 (by decide) (fun hc => ?_) (fun hc => ?_)
    · replace hf := if_n hc hf
      refine lv_iconst (v := 0) hx hb d_RE_isHollow_23 (by decide) ?_
      obtain rfl := Option.some.inj hf
      exact hq _ _ _ _ (by decide) d_RE_isHollow_24 hP hS
    · replace hf := if_p hc hf
      refine lv_iconst (v := 1) hx hb d_RE_isHollow_19 (by decide) ?_
      refine lv_goto (tgt := 24) hx hb d_RE_isHollow_20 (by decide) ?_
      obtain rfl := Option.some.inj hf
      exact hq _ _ _ _ (by decide) d_RE_isHollow_24 hP hS
theorem c_RE_isHollow (l : Launch) (D : va_G) (adr : Nat → Nat) (cA : Nat → ClassId) (μ ν : Mem) (x1 : Int32)  {res : Int32} (hf : f_RE_isHollow μ x1 = some res) : Met l y_RE_isHollow (Cond.code y_RE_isHollow prog_4_method_20_code 2 (Option.some Jvm.ClassFile.FieldType.boolean) :: lw_ok) rm_RE_isHollow (va_Pc [.ref (adr 18), .int x1] (Wd D adr cA μ ν)) (QI D adr cA res μ ν) 0 0 (AA adr) :=
  met_of (own := "LakeRelief$Relief") rfl rfl (Nat.le_of_ble_eq_true rfl) (fun p e s m below meth c C hG hP hS ls hl => w_RE_isHollow x1  C hG hf (fun pc ls H locs hz hd hP hS => ret_z C.1 C.2.1 C.2.2.2.2.2.1 C.2.2.2.2.2.2 hG hz hd hP hS) hP hS hl)
end X_RE_isHollow
section X_RE_hollowCount
variable {p : Program} {l : Launch} {e : Env} {s : State} {m : MethodId} {args : Array Value} {below : List Frame} {meth : Method} {c : Code} {Q : State → Prop}
variable {D : va_G} {adr : Nat → Nat} {cA : Nat → ClassId} {μ ν : Mem}
theorem d_RE_hollowCount_0 : decode prog_4_method_21_code 0 = .ok (.iconst 0, 1) := by decide +kernel
theorem d_RE_hollowCount_1 : decode prog_4_method_21_code 1 = .ok (.istore_n 1, 1) := by decide +kernel
theorem d_RE_hollowCount_2 : decode prog_4_method_21_code 2 = .ok (.iconst 0, 1) := by decide +kernel
theorem d_RE_hollowCount_3 : decode prog_4_method_21_code 3 = .ok (.istore_n 2, 1) := by decide +kernel
theorem d_RE_hollowCount_4 : decode prog_4_method_21_code 4 = .ok (.iload_n 2, 1) := by decide +kernel
theorem d_RE_hollowCount_5 : decode prog_4_method_21_code 5 = .ok (.aload_n 0, 1) := by decide +kernel
theorem d_RE_hollowCount_6 : decode prog_4_method_21_code 6 = .ok (.getfield 37, 3) := by decide +kernel
theorem d_RE_hollowCount_9 : decode prog_4_method_21_code 9 = .ok (.if_icmp .ge 20, 3) := by decide +kernel
theorem d_RE_hollowCount_12 : decode prog_4_method_21_code 12 = .ok (.aload_n 0, 1) := by decide +kernel
theorem d_RE_hollowCount_13 : decode prog_4_method_21_code 13 = .ok (.iload_n 2, 1) := by decide +kernel
theorem d_RE_hollowCount_14 : decode prog_4_method_21_code 14 = .ok (.invokevirtual 117, 3) := by decide +kernel
theorem d_RE_hollowCount_17 : decode prog_4_method_21_code 17 = .ok (.ifCond .eq 6, 3) := by decide +kernel
theorem d_RE_hollowCount_20 : decode prog_4_method_21_code 20 = .ok (.iinc 1 1, 3) := by decide +kernel
theorem d_RE_hollowCount_23 : decode prog_4_method_21_code 23 = .ok (.iinc 2 1, 3) := by decide +kernel
theorem d_RE_hollowCount_26 : decode prog_4_method_21_code 26 = .ok (.goto (-22), 3) := by decide +kernel
theorem d_RE_hollowCount_29 : decode prog_4_method_21_code 29 = .ok (.iload_n 1, 1) := by decide +kernel
theorem d_RE_hollowCount_30 : decode prog_4_method_21_code 30 = .ok (.ireturn, 1) := by decide +kernel
set_option maxHeartbeats 4000000 in
set_option maxRecDepth 100000 in
theorem w_RE_hollowCount_L4   (C : Cx prog_4_method_21_code 3 "LakeRelief$Relief" (Option.some Jvm.ClassFile.FieldType.int) p s m args meth c) (hG : Geo D adr cA s) (v : Int32) (hE : ∀ (H : Heap) (locs : List Loc) (ls : Array Slot), va_P D cls (wld adr cA μ ν) H → va_S (AA adr) s.heap H locs → lv_has ls 3 [(1, .int v)] → W p l e rm_RE_hollowCount s m args below meth c H locs 0 0 Q (F0 m 29 ls [])) : ∀ (n : Nat) (y1 : Int32) (y2 : Int32), f_RE_hollowCount_L4 μ n y1 y2 = some v → ∀ {H : Heap} {locs : List Loc} {ls : Array Slot}, va_P D cls (wld adr cA μ ν) H → va_S (AA adr) s.heap H locs → lv_has ls 3 [(0, .ref (adr 18)), (1, .int y1), (2, .int y2)] → W p l e rm_RE_hollowCount s m args below meth c H locs 0 0 Q (F0 m 4 ls []) := by
  obtain ⟨hx, hb, hml, hown, hts, hr, hlocks⟩ := id C
  intro n
  induction n with
  | zero => intro y1 y2 hf; rw [f_RE_hollowCount_L4.eq_1] at hf; cases hf
  | succ n ih =>
    intro y1 y2 hf H locs ls hP hS hl
    rw [f_RE_hollowCount_L4.eq_2] at hf
    refine lv_iload_n hx hb d_RE_hollowCount_4 rfl (lv_at hl 2 rfl) ?_
    refine lv_aload_n hx hb d_RE_hollowCount_5 rfl (lv_at hl 0 rfl) ?_
    refine g_RE_size hx hb hts hown hG hP (hts _ in_59) d_RE_hollowCount_6 ?_
    refine lv_icmp_ge (tgt := 29) hx hb d_RE_hollowCount_9 (by decide) (fun hc => ?_) (fun hc => ?_)
    · replace hf := if_p hc hf
      obtain rfl := Option.some.inj hf
      exact hE _ _ _ hP hS (lv_sub hl [1] rfl)
    · replace hf := if_n hc hf
      refine lv_aload_n hx hb d_RE_hollowCount_12 rfl (lv_at hl 0 rfl) ?_
      refine lv_iload_n hx hb d_RE_hollowCount_13 rfl (lv_at hl 2 rfl) ?_
      replace hf := B_some hf
      obtain ⟨v1, hv1, hf⟩ := hf
      refine ki (kv (As := [.int y2]) (rest := []) ⟨hx, hb, hml, hown, hts⟩ (cw_RE_117 hts ⟨Nat.le_of_ble_eq_true rfl, Nat.le_of_ble_eq_true rfl⟩) (c_RE_isHollow l D adr cA μ ν y2 hv1) hG hP (rc_o (q := 18) (ci := 2) hG hP (by decide) (wc_C (by decide) rfl) rfl) rfl hl.1 (Nat.le_of_ble_eq_true rfl) d_RE_hollowCount_14) hS (fun H locs hP hS => ?_)
      replace hf := B_some hf
      obtain ⟨v2, hv2, hf⟩ := hf
      have hJ : ∀ (H : Heap) (locs : List Loc) (ls : Array Slot), va_P D cls (wld adr cA μ ν) H → va_S (AA adr) s.heap H locs → lv_has ls 3 [(0, .ref (adr 18)), (1, .int v2), (2, .int y2)] → W p l e rm_RE_hollowCount s m args below meth c H locs 0 0 Q (F0 m 23 ls []) := by
        clear hv2
        intro H locs ls hP hS hl
        refine lv_iinc (v := (y2 + 1)) (lv' := [(2, .int (y2 + 1)), (0, .ref (adr 18)), (1, .int v2)]) hx hb d_RE_hollowCount_23 hl (k := 2) rfl rfl (by decide) rfl (fun ls hl => ?_)
        refine lv_goto (tgt := 4) hx hb d_RE_hollowCount_26 (by decide) ?_
        exact ih _ _ hf hP hS (lv_sub hl [1, 2, 0] rfl)
      clear hf
      have hf := hv2
      clear hv2
      refine lv_if_eq (tgt := 23) hx hb d_RE_hollowCount_17 (by decide) (fun hc => ?_) (fun hc => ?_)
      · replace hf := if_p hc hf
        obtain rfl := Option.some.inj hf
        exact hJ _ _ _ hP hS (lv_sub hl [0, 1, 2] rfl)
      · replace hf := if_n hc hf
        refine lv_iinc (v := (y1 + 1)) (lv' := [(1, .int (y1 + 1)), (0, .ref (adr 18)), (2, .int y2)]) hx hb d_RE_hollowCount_20 hl (k := 1) rfl rfl (by decide) rfl (fun ls hl => ?_)
        obtain rfl := Option.some.inj hf
        exact hJ _ _ _ hP hS (lv_sub hl [1, 0, 2] rfl)
set_option maxHeartbeats 4000000 in
set_option maxRecDepth 100000 in
theorem w_RE_hollowCount   (C : Cx prog_4_method_21_code 3 "LakeRelief$Relief" (Option.some Jvm.ClassFile.FieldType.int) p s m args meth c) (hG : Geo D adr cA s) {res : Int32} (hf : f_RE_hollowCount μ  = some res) (hq : ∀ (pc : Nat) (ls : Array Slot) (H : Heap) (locs : List Loc), decode prog_4_method_21_code pc = .ok (.ireturn, 1) → va_P D cls (wld adr cA μ ν) H → va_S (AA adr) s.heap H locs → W p l e rm_RE_hollowCount s m args below meth c H locs 0 0 Q (F0 m pc ls [.int res])) {H : Heap} {locs : List Loc} {ls : Array Slot} (hP : va_P D cls (wld adr cA μ ν) H) (hS : va_S (AA adr) s.heap H locs) (hl : lv_has ls 3 [(0, .ref (adr 18))]) : W p l e rm_RE_hollowCount s m args below meth c H locs 0 0 Q (F0 m 0 ls []) := by
  obtain ⟨hx, hb, hml, hown, hts, hr, hlocks⟩ := id C
  unfold f_RE_hollowCount at hf
  refine lv_iconst (v := 0) hx hb d_RE_hollowCount_0 (by decide) ?_
  refine lv_istore_n (lv' := [(1, .int 0), (0, .ref (adr 18))]) hx hb d_RE_hollowCount_1 rfl hl (by decide) rfl (fun ls hl => ?_)
  refine lv_iconst (v := 0) hx hb d_RE_hollowCount_2 (by decide) ?_
  refine lv_istore_n (lv' := [(2, .int 0), (1, .int 0), (0, .ref (adr 18))]) hx hb d_RE_hollowCount_3 rfl hl (by decide) rfl (fun ls hl => ?_)
  replace hf := B_some hf
  obtain ⟨v3, hv3, hf⟩ := hf
  refine w_RE_hollowCount_L4   C hG v3 ?_ FU _ _ hv3 hP hS (lv_sub hl [2, 1, 0] rfl)
  clear hv3 hP hS hl
  intro H locs ls hP hS hl
  refine lv_iload_n hx hb d_RE_hollowCount_29 rfl (lv_at hl 0 rfl) ?_
  obtain rfl := Option.some.inj hf
  exact hq _ _ _ _ d_RE_hollowCount_30 hP hS
theorem c_RE_hollowCount (l : Launch) (D : va_G) (adr : Nat → Nat) (cA : Nat → ClassId) (μ ν : Mem)   {res : Int32} (hf : f_RE_hollowCount μ  = some res) : Met l y_RE_hollowCount (Cond.code y_RE_hollowCount prog_4_method_21_code 3 (Option.some Jvm.ClassFile.FieldType.int) :: lw_ok) rm_RE_hollowCount (va_Pc [.ref (adr 18)] (Wd D adr cA μ ν)) (QI D adr cA res μ ν) 0 0 (AA adr) :=
  met_of (own := "LakeRelief$Relief") rfl rfl (Nat.le_of_ble_eq_true rfl) (fun p e s m below meth c C hG hP hS ls hl => w_RE_hollowCount   C hG hf (fun pc ls H locs hd hP hS => ret_i C.1 C.2.1 C.2.2.2.2.2.1 C.2.2.2.2.2.2 hG hd hP hS) hP hS hl)
end X_RE_hollowCount
section X_RE_hollowAt
variable {p : Program} {l : Launch} {e : Env} {s : State} {m : MethodId} {args : Array Value} {below : List Frame} {meth : Method} {c : Code} {Q : State → Prop}
variable {D : va_G} {adr : Nat → Nat} {cA : Nat → ClassId} {μ ν : Mem}
theorem d_RE_hollowAt_0 : decode prog_4_method_22_code 0 = .ok (.iconst 0, 1) := by decide +kernel
theorem d_RE_hollowAt_1 : decode prog_4_method_22_code 1 = .ok (.istore_n 2, 1) := by decide +kernel
theorem d_RE_hollowAt_2 : decode prog_4_method_22_code 2 = .ok (.iconst 0, 1) := by decide +kernel
theorem d_RE_hollowAt_3 : decode prog_4_method_22_code 3 = .ok (.istore_n 3, 1) := by decide +kernel
theorem d_RE_hollowAt_4 : decode prog_4_method_22_code 4 = .ok (.iload_n 3, 1) := by decide +kernel
theorem d_RE_hollowAt_5 : decode prog_4_method_22_code 5 = .ok (.aload_n 0, 1) := by decide +kernel
theorem d_RE_hollowAt_6 : decode prog_4_method_22_code 6 = .ok (.getfield 37, 3) := by decide +kernel
theorem d_RE_hollowAt_9 : decode prog_4_method_22_code 9 = .ok (.if_icmp .ge 27, 3) := by decide +kernel
theorem d_RE_hollowAt_12 : decode prog_4_method_22_code 12 = .ok (.aload_n 0, 1) := by decide +kernel
theorem d_RE_hollowAt_13 : decode prog_4_method_22_code 13 = .ok (.iload_n 3, 1) := by decide +kernel
theorem d_RE_hollowAt_14 : decode prog_4_method_22_code 14 = .ok (.invokevirtual 117, 3) := by decide +kernel
theorem d_RE_hollowAt_17 : decode prog_4_method_22_code 17 = .ok (.ifCond .eq 13, 3) := by decide +kernel
theorem d_RE_hollowAt_20 : decode prog_4_method_22_code 20 = .ok (.iload_n 2, 1) := by decide +kernel
theorem d_RE_hollowAt_21 : decode prog_4_method_22_code 21 = .ok (.iload_n 1, 1) := by decide +kernel
theorem d_RE_hollowAt_22 : decode prog_4_method_22_code 22 = .ok (.if_icmp .ne 5, 3) := by decide +kernel
theorem d_RE_hollowAt_25 : decode prog_4_method_22_code 25 = .ok (.iload_n 3, 1) := by decide +kernel
theorem d_RE_hollowAt_26 : decode prog_4_method_22_code 26 = .ok (.ireturn, 1) := by decide +kernel
theorem d_RE_hollowAt_27 : decode prog_4_method_22_code 27 = .ok (.iinc 2 1, 3) := by decide +kernel
theorem d_RE_hollowAt_30 : decode prog_4_method_22_code 30 = .ok (.iinc 3 1, 3) := by decide +kernel
theorem d_RE_hollowAt_33 : decode prog_4_method_22_code 33 = .ok (.goto (-29), 3) := by decide +kernel
theorem d_RE_hollowAt_36 : decode prog_4_method_22_code 36 = .ok (.bipush (-3), 2) := by decide +kernel
theorem d_RE_hollowAt_38 : decode prog_4_method_22_code 38 = .ok (.ireturn, 1) := by decide +kernel
set_option maxHeartbeats 4000000 in
set_option maxRecDepth 100000 in
theorem w_RE_hollowAt_L4 (y1 : Int32)  (C : Cx prog_4_method_22_code 4 "LakeRelief$Relief" (Option.some Jvm.ClassFile.FieldType.int) p s m args meth c) (hG : Geo D adr cA s) (K : Unit → Option (Int32)) {res : Int32} (hq : ∀ (pc : Nat) (ls : Array Slot) (H : Heap) (locs : List Loc), decode prog_4_method_22_code pc = .ok (.ireturn, 1) → va_P D cls (wld adr cA μ ν) H → va_S (AA adr) s.heap H locs → W p l e rm_RE_hollowAt s m args below meth c H locs 0 0 Q (F0 m pc ls [.int res])) (hE : ∀ (u : Unit), K u = some res → ∀ (H : Heap) (locs : List Loc) (ls : Array Slot), va_P D cls (wld adr cA μ ν) H → va_S (AA adr) s.heap H locs → lv_has ls 4 [] → W p l e rm_RE_hollowAt s m args below meth c H locs 0 0 Q (F0 m 36 ls [])) : ∀ (n : Nat) (y2 : Int32) (y3 : Int32), f_RE_hollowAt_L4 μ y1 K n y2 y3 = some res → ∀ {H : Heap} {locs : List Loc} {ls : Array Slot}, va_P D cls (wld adr cA μ ν) H → va_S (AA adr) s.heap H locs → lv_has ls 4 [(0, .ref (adr 18)), (1, .int y1), (2, .int y2), (3, .int y3)] → W p l e rm_RE_hollowAt s m args below meth c H locs 0 0 Q (F0 m 4 ls []) := by
  obtain ⟨hx, hb, hml, hown, hts, hr, hlocks⟩ := id C
  intro n
  induction n with
  | zero => intro y2 y3 hf; rw [f_RE_hollowAt_L4.eq_1] at hf; cases hf
  | succ n ih =>
    intro y2 y3 hf H locs ls hP hS hl
    rw [f_RE_hollowAt_L4.eq_2] at hf
    refine lv_iload_n hx hb d_RE_hollowAt_4 rfl (lv_at hl 3 rfl) ?_
    refine lv_aload_n hx hb d_RE_hollowAt_5 rfl (lv_at hl 0 rfl) ?_
    refine g_RE_size hx hb hts hown hG hP (hts _ in_59) d_RE_hollowAt_6 ?_
    refine lv_icmp_ge (tgt := 36) hx hb d_RE_hollowAt_9 (by decide) (fun hc => ?_) (fun hc => ?_)
    · replace hf := if_p hc hf
      exact hE _ hf _ _ _ hP hS (lv_sub hl [] rfl)
    · replace hf := if_n hc hf
      refine lv_aload_n hx hb d_RE_hollowAt_12 rfl (lv_at hl 0 rfl) ?_
      refine lv_iload_n hx hb d_RE_hollowAt_13 rfl (lv_at hl 3 rfl) ?_
      replace hf := B_some hf
      obtain ⟨v1, hv1, hf⟩ := hf
      refine ki (kv (As := [.int y3]) (rest := []) ⟨hx, hb, hml, hown, hts⟩ (cw_RE_117 hts ⟨Nat.le_of_ble_eq_true rfl, Nat.le_of_ble_eq_true rfl⟩) (c_RE_isHollow l D adr cA μ ν y3 hv1) hG hP (rc_o (q := 18) (ci := 2) hG hP (by decide) (wc_C (by decide) rfl) rfl) rfl hl.1 (Nat.le_of_ble_eq_true rfl) d_RE_hollowAt_14) hS (fun H locs hP hS => ?_)
      refine lv_if_eq (tgt := 30) hx hb d_RE_hollowAt_17 (by decide) (fun hc => ?_) (fun hc => ?_)
      · replace hf := if_p hc hf
        refine lv_iinc (v := (y3 + 1)) (lv' := [(3, .int (y3 + 1)), (0, .ref (adr 18)), (1, .int y1), (2, .int y2)]) hx hb d_RE_hollowAt_30 hl (k := 3) rfl rfl (by decide) rfl (fun ls hl => ?_)
        refine lv_goto (tgt := 4) hx hb d_RE_hollowAt_33 (by decide) ?_
        exact ih _ _ hf hP hS (lv_sub hl [1, 2, 3, 0] rfl)
      · replace hf := if_n hc hf
        refine lv_iload_n hx hb d_RE_hollowAt_20 rfl (lv_at hl 2 rfl) ?_
        refine lv_iload_n hx hb d_RE_hollowAt_21 rfl (lv_at hl 1 rfl) ?_
        refine lv_icmp_ne (tgt := 27) hx hb d_RE_hollowAt_22 (by decide) (fun hc => ?_) (fun hc => ?_)
        · replace hf := if_n hc hf
          refine lv_iinc (v := (y2 + 1)) (lv' := [(2, .int (y2 + 1)), (0, .ref (adr 18)), (1, .int y1), (3, .int y3)]) hx hb d_RE_hollowAt_27 hl (k := 2) rfl rfl (by decide) rfl (fun ls hl => ?_)
          refine lv_iinc (v := (y3 + 1)) (lv' := [(3, .int (y3 + 1)), (2, .int (y2 + 1)), (0, .ref (adr 18)), (1, .int y1)]) hx hb d_RE_hollowAt_30 hl (k := 3) rfl rfl (by decide) rfl (fun ls hl => ?_)
          refine lv_goto (tgt := 4) hx hb d_RE_hollowAt_33 (by decide) ?_
          exact ih _ _ hf hP hS (lv_sub hl [2, 3, 1, 0] rfl)
        · replace hf := if_p hc hf
          refine lv_iload_n hx hb d_RE_hollowAt_25 rfl (lv_at hl 3 rfl) ?_
          obtain rfl := Option.some.inj hf
          exact hq _ _ _ _ d_RE_hollowAt_26 hP hS
set_option maxHeartbeats 4000000 in
set_option maxRecDepth 100000 in
theorem w_RE_hollowAt (x1 : Int32)  (C : Cx prog_4_method_22_code 4 "LakeRelief$Relief" (Option.some Jvm.ClassFile.FieldType.int) p s m args meth c) (hG : Geo D adr cA s) {res : Int32} (hf : f_RE_hollowAt μ x1 = some res) (hq : ∀ (pc : Nat) (ls : Array Slot) (H : Heap) (locs : List Loc), decode prog_4_method_22_code pc = .ok (.ireturn, 1) → va_P D cls (wld adr cA μ ν) H → va_S (AA adr) s.heap H locs → W p l e rm_RE_hollowAt s m args below meth c H locs 0 0 Q (F0 m pc ls [.int res])) {H : Heap} {locs : List Loc} {ls : Array Slot} (hP : va_P D cls (wld adr cA μ ν) H) (hS : va_S (AA adr) s.heap H locs) (hl : lv_has ls 4 [(0, .ref (adr 18)), (1, .int x1)]) : W p l e rm_RE_hollowAt s m args below meth c H locs 0 0 Q (F0 m 0 ls []) := by
  obtain ⟨hx, hb, hml, hown, hts, hr, hlocks⟩ := id C
  unfold f_RE_hollowAt at hf
  refine lv_iconst (v := 0) hx hb d_RE_hollowAt_0 (by decide) ?_
  refine lv_istore_n (lv' := [(2, .int 0), (0, .ref (adr 18)), (1, .int x1)]) hx hb d_RE_hollowAt_1 rfl hl (by decide) rfl (fun ls hl => ?_)
  refine lv_iconst (v := 0) hx hb d_RE_hollowAt_2 (by decide) ?_
  refine lv_istore_n (lv' := [(3, .int 0), (2, .int 0), (0, .ref (adr 18)), (1, .int x1)]) hx hb d_RE_hollowAt_3 rfl hl (by decide) rfl (fun ls hl => ?_)
  refine w_RE_hollowAt_L4 x1  C hG _ hq ?_ FU _ _ hf hP hS (lv_sub hl [2, 3, 1, 0] rfl)
  clear hf hP hS hl
  intro u hf H locs ls hP hS hl
  refine lv_bipush (v := (-3)) hx hb d_RE_hollowAt_36 (by decide) ?_
  obtain rfl := Option.some.inj hf
  exact hq _ _ _ _ d_RE_hollowAt_38 hP hS
theorem c_RE_hollowAt (l : Launch) (D : va_G) (adr : Nat → Nat) (cA : Nat → ClassId) (μ ν : Mem) (x1 : Int32)  {res : Int32} (hf : f_RE_hollowAt μ x1 = some res) : Met l y_RE_hollowAt (Cond.code y_RE_hollowAt prog_4_method_22_code 4 (Option.some Jvm.ClassFile.FieldType.int) :: lw_ok) rm_RE_hollowAt (va_Pc [.ref (adr 18), .int x1] (Wd D adr cA μ ν)) (QI D adr cA res μ ν) 0 0 (AA adr) :=
  met_of (own := "LakeRelief$Relief") rfl rfl (Nat.le_of_ble_eq_true rfl) (fun p e s m below meth c C hG hP hS ls hl => w_RE_hollowAt x1  C hG hf (fun pc ls H locs hd hP hS => ret_i C.1 C.2.1 C.2.2.2.2.2.1 C.2.2.2.2.2.2 hG hd hP hS) hP hS hl)
end X_RE_hollowAt
section X_RE_lowestOf
variable {p : Program} {l : Launch} {e : Env} {s : State} {m : MethodId} {args : Array Value} {below : List Frame} {meth : Method} {c : Code} {Q : State → Prop}
variable {D : va_G} {adr : Nat → Nat} {cA : Nat → ClassId} {μ ν : Mem}
theorem d_RE_lowestOf_0 : decode prog_4_method_23_code 0 = .ok (.iconst 0, 1) := by decide +kernel
theorem d_RE_lowestOf_1 : decode prog_4_method_23_code 1 = .ok (.istore_n 3, 1) := by decide +kernel
theorem d_RE_lowestOf_2 : decode prog_4_method_23_code 2 = .ok (.iload_n 3, 1) := by decide +kernel
theorem d_RE_lowestOf_3 : decode prog_4_method_23_code 3 = .ok (.aload_n 0, 1) := by decide +kernel
theorem d_RE_lowestOf_4 : decode prog_4_method_23_code 4 = .ok (.getfield 40, 3) := by decide +kernel
theorem d_RE_lowestOf_7 : decode prog_4_method_23_code 7 = .ok (.if_icmp .ge 29, 3) := by decide +kernel
theorem d_RE_lowestOf_10 : decode prog_4_method_23_code 10 = .ok (.lload_n 1, 1) := by decide +kernel
theorem d_RE_lowestOf_11 : decode prog_4_method_23_code 11 = .ok (.aload_n 0, 1) := by decide +kernel
theorem d_RE_lowestOf_12 : decode prog_4_method_23_code 12 = .ok (.getfield 24, 3) := by decide +kernel
theorem d_RE_lowestOf_15 : decode prog_4_method_23_code 15 = .ok (.iload_n 3, 1) := by decide +kernel
theorem d_RE_lowestOf_16 : decode prog_4_method_23_code 16 = .ok (.iaload, 1) := by decide +kernel
theorem d_RE_lowestOf_17 : decode prog_4_method_23_code 17 = .ok (.invokestatic 67, 3) := by decide +kernel
theorem d_RE_lowestOf_20 : decode prog_4_method_23_code 20 = .ok (.ifCond .eq 10, 3) := by decide +kernel
theorem d_RE_lowestOf_23 : decode prog_4_method_23_code 23 = .ok (.aload_n 0, 1) := by decide +kernel
theorem d_RE_lowestOf_24 : decode prog_4_method_23_code 24 = .ok (.getfield 24, 3) := by decide +kernel
theorem d_RE_lowestOf_27 : decode prog_4_method_23_code 27 = .ok (.iload_n 3, 1) := by decide +kernel
theorem d_RE_lowestOf_28 : decode prog_4_method_23_code 28 = .ok (.iaload, 1) := by decide +kernel
theorem d_RE_lowestOf_29 : decode prog_4_method_23_code 29 = .ok (.ireturn, 1) := by decide +kernel
theorem d_RE_lowestOf_30 : decode prog_4_method_23_code 30 = .ok (.iinc 3 1, 3) := by decide +kernel
theorem d_RE_lowestOf_33 : decode prog_4_method_23_code 33 = .ok (.goto (-31), 3) := by decide +kernel
theorem d_RE_lowestOf_36 : decode prog_4_method_23_code 36 = .ok (.bipush (-3), 2) := by decide +kernel
theorem d_RE_lowestOf_38 : decode prog_4_method_23_code 38 = .ok (.ireturn, 1) := by decide +kernel
set_option maxHeartbeats 4000000 in
set_option maxRecDepth 100000 in
theorem w_RE_lowestOf_L2 (y1 : Int64)  (C : Cx prog_4_method_23_code 4 "LakeRelief$Relief" (Option.some Jvm.ClassFile.FieldType.int) p s m args meth c) (hG : Geo D adr cA s) (K : Unit → Option (Int32)) {res : Int32} (hq : ∀ (pc : Nat) (ls : Array Slot) (H : Heap) (locs : List Loc), decode prog_4_method_23_code pc = .ok (.ireturn, 1) → va_P D cls (wld adr cA μ ν) H → va_S (AA adr) s.heap H locs → W p l e rm_RE_lowestOf s m args below meth c H locs 0 0 Q (F0 m pc ls [.int res])) (hE : ∀ (u : Unit), K u = some res → ∀ (H : Heap) (locs : List Loc) (ls : Array Slot), va_P D cls (wld adr cA μ ν) H → va_S (AA adr) s.heap H locs → lv_has ls 4 [] → W p l e rm_RE_lowestOf s m args below meth c H locs 0 0 Q (F0 m 36 ls [])) : ∀ (n : Nat) (y3 : Int32), f_RE_lowestOf_L2 μ y1 K n y3 = some res → ∀ {H : Heap} {locs : List Loc} {ls : Array Slot}, va_P D cls (wld adr cA μ ν) H → va_S (AA adr) s.heap H locs → lv_has ls 4 [(0, .ref (adr 18)), (1, .long y1), (3, .int y3)] → W p l e rm_RE_lowestOf s m args below meth c H locs 0 0 Q (F0 m 2 ls []) := by
  obtain ⟨hx, hb, hml, hown, hts, hr, hlocks⟩ := id C
  intro n
  induction n with
  | zero => intro y3 hf; rw [f_RE_lowestOf_L2.eq_1] at hf; cases hf
  | succ n ih =>
    intro y3 hf H locs ls hP hS hl
    rw [f_RE_lowestOf_L2.eq_2] at hf
    refine lv_iload_n hx hb d_RE_lowestOf_2 rfl (lv_at hl 2 rfl) ?_
    refine lv_aload_n hx hb d_RE_lowestOf_3 rfl (lv_at hl 0 rfl) ?_
    refine g_RE_landCount hx hb hts hown hG hP (hts _ in_61) d_RE_lowestOf_4 ?_
    refine lv_icmp_ge (tgt := 36) hx hb d_RE_lowestOf_7 (by decide) (fun hc => ?_) (fun hc => ?_)
    · replace hf := if_p hc hf
      exact hE _ hf _ _ _ hP hS (lv_sub hl [] rfl)
    · replace hf := if_n hc hf
      refine lv_lload_n hx hb d_RE_lowestOf_10 rfl (lv_at hl 1 rfl) ?_
      refine lv_aload_n hx hb d_RE_lowestOf_11 rfl (lv_at hl 0 rfl) ?_
      refine g_RE_order hx hb hts hown hG hP (hts _ in_54) d_RE_lowestOf_12 ?_
      refine lv_iload_n hx hb d_RE_lowestOf_15 rfl (lv_at hl 2 rfl) ?_
      replace hf := G_some hf
      obtain ⟨hi1, hf⟩ := hf
      refine r_iald hx hb hG hP 23 64 (f := μ.1 23) (by decide) (wc_C (by decide) rfl) hi1 d_RE_lowestOf_16 ?_
      refine ki (kn (As := [.long y1, .int (μ.1 23 y3.toNatClampNeg)]) (rest := []) ⟨hx, hb, hml, hown, hts⟩ (cw_RE_67 hts hG ⟨Nat.le_of_ble_eq_true rfl, Nat.le_of_ble_eq_true rfl⟩) (c_LR_isIn l D adr cA μ ν y1 (μ.1 23 y3.toNatClampNeg)) hG hP rfl hl.1 (Nat.le_of_ble_eq_true rfl) d_RE_lowestOf_17) hS (fun H locs hP hS => ?_)
      refine lv_if_eq (tgt := 30) hx hb d_RE_lowestOf_20 (by decide) (fun hc => ?_) (fun hc => ?_)
      · replace hf := if_p hc hf
        refine lv_iinc (v := (y3 + 1)) (lv' := [(3, .int (y3 + 1)), (0, .ref (adr 18)), (1, .long y1)]) hx hb d_RE_lowestOf_30 hl (k := 2) rfl rfl (by decide) rfl (fun ls hl => ?_)
        refine lv_goto (tgt := 2) hx hb d_RE_lowestOf_33 (by decide) ?_
        exact ih _ hf hP hS (lv_sub hl [1, 2, 0] rfl)
      · replace hf := if_n hc hf
        refine lv_aload_n hx hb d_RE_lowestOf_23 rfl (lv_at hl 0 rfl) ?_
        refine g_RE_order hx hb hts hown hG hP (hts _ in_54) d_RE_lowestOf_24 ?_
        refine lv_iload_n hx hb d_RE_lowestOf_27 rfl (lv_at hl 2 rfl) ?_
        replace hf := G_some hf
        obtain ⟨hi2, hf⟩ := hf
        refine r_iald hx hb hG hP 23 64 (f := μ.1 23) (by decide) (wc_C (by decide) rfl) hi2 d_RE_lowestOf_28 ?_
        obtain rfl := Option.some.inj hf
        exact hq _ _ _ _ d_RE_lowestOf_29 hP hS
set_option maxHeartbeats 4000000 in
set_option maxRecDepth 100000 in
theorem w_RE_lowestOf (x1 : Int64)  (C : Cx prog_4_method_23_code 4 "LakeRelief$Relief" (Option.some Jvm.ClassFile.FieldType.int) p s m args meth c) (hG : Geo D adr cA s) {res : Int32} (hf : f_RE_lowestOf μ x1 = some res) (hq : ∀ (pc : Nat) (ls : Array Slot) (H : Heap) (locs : List Loc), decode prog_4_method_23_code pc = .ok (.ireturn, 1) → va_P D cls (wld adr cA μ ν) H → va_S (AA adr) s.heap H locs → W p l e rm_RE_lowestOf s m args below meth c H locs 0 0 Q (F0 m pc ls [.int res])) {H : Heap} {locs : List Loc} {ls : Array Slot} (hP : va_P D cls (wld adr cA μ ν) H) (hS : va_S (AA adr) s.heap H locs) (hl : lv_has ls 4 [(0, .ref (adr 18)), (1, .long x1)]) : W p l e rm_RE_lowestOf s m args below meth c H locs 0 0 Q (F0 m 0 ls []) := by
  obtain ⟨hx, hb, hml, hown, hts, hr, hlocks⟩ := id C
  unfold f_RE_lowestOf at hf
  refine lv_iconst (v := 0) hx hb d_RE_lowestOf_0 (by decide) ?_
  refine lv_istore_n (lv' := [(3, .int 0), (0, .ref (adr 18)), (1, .long x1)]) hx hb d_RE_lowestOf_1 rfl hl (by decide) rfl (fun ls hl => ?_)
  refine w_RE_lowestOf_L2 x1  C hG _ hq ?_ FU _ hf hP hS (lv_sub hl [1, 2, 0] rfl)
  clear hf hP hS hl
  intro u hf H locs ls hP hS hl
  refine lv_bipush (v := (-3)) hx hb d_RE_lowestOf_36 (by decide) ?_
  obtain rfl := Option.some.inj hf
  exact hq _ _ _ _ d_RE_lowestOf_38 hP hS
theorem c_RE_lowestOf (l : Launch) (D : va_G) (adr : Nat → Nat) (cA : Nat → ClassId) (μ ν : Mem) (x1 : Int64)  {res : Int32} (hf : f_RE_lowestOf μ x1 = some res) : Met l y_RE_lowestOf (Cond.code y_RE_lowestOf prog_4_method_23_code 4 (Option.some Jvm.ClassFile.FieldType.int) :: lw_ok) rm_RE_lowestOf (va_Pc [.ref (adr 18), .long x1] (Wd D adr cA μ ν)) (QI D adr cA res μ ν) 0 0 (AA adr) :=
  met_of (own := "LakeRelief$Relief") rfl rfl (Nat.le_of_ble_eq_true rfl) (fun p e s m below meth c C hG hP hS ls hl => w_RE_lowestOf x1  C hG hf (fun pc ls H locs hd hP hS => ret_i C.1 C.2.1 C.2.2.2.2.2.1 C.2.2.2.2.2.2 hG hd hP hS) hP hS hl)
end X_RE_lowestOf
