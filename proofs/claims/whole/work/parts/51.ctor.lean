section CT3
theorem d_ST_init_0 : decode prog_5_method_1_code 0 = .ok (.aload_n 0, 1) := by decide +kernel
theorem d_ST_init_1 : decode prog_5_method_1_code 1 = .ok (.invokespecial 3, 3) := by decide +kernel
theorem d_ST_init_4 : decode prog_5_method_1_code 4 = .ok (.aload_n 0, 1) := by decide +kernel
theorem d_ST_init_5 : decode prog_5_method_1_code 5 = .ok (.bipush 12, 2) := by decide +kernel
theorem d_ST_init_7 : decode prog_5_method_1_code 7 = .ok (.newarray .int, 2) := by decide +kernel
theorem d_ST_init_9 : decode prog_5_method_1_code 9 = .ok (.putfield 9, 3) := by decide +kernel
theorem d_ST_init_12 : decode prog_5_method_1_code 12 = .ok (.aload_n 0, 1) := by decide +kernel
theorem d_ST_init_13 : decode prog_5_method_1_code 13 = .ok (.iconst (-1), 1) := by decide +kernel
theorem d_ST_init_14 : decode prog_5_method_1_code 14 = .ok (.putfield 15, 3) := by decide +kernel
theorem d_ST_init_17 : decode prog_5_method_1_code 17 = .ok (.aload_n 0, 1) := by decide +kernel
theorem d_ST_init_18 : decode prog_5_method_1_code 18 = .ok (.iconst 0, 1) := by decide +kernel
theorem d_ST_init_19 : decode prog_5_method_1_code 19 = .ok (.putfield 19, 3) := by decide +kernel
theorem d_ST_init_22 : decode prog_5_method_1_code 22 = .ok (.return_, 1) := by decide +kernel
def rm_ST_init : Room := { frames := 1, cells := 1, slots := 12, locals := 20 }
set_option maxHeartbeats 4000000 in
set_option maxRecDepth 100000 in
theorem c_ST_init (l : Launch) (D : va_G) (cA : Nat → ClassId) (h0 sz : Nat) : Met l y_ST_init (Cond.code y_ST_init prog_5_method_1_code 1 none :: lw_ok) rm_ST_init (va_Pc [.ref h0] (SP D cA [(h0, .inr (3, [.null, .int 0, .int 0]))] sz)) (QN D [(h0, .inr (3, [.null, .int 0, .int 0]))] sz (fun u : Nat => [(h0, .inr (3, [.ref u, .int (-1), .int 0])), (u, .inl (cA 0, 12, .inl (fun _ => 0)))]) (fun _ => True)) 1 12 (va_A [(h0, .inr (3, [.null, .int 0, .int 0]))] sz) := by
  refine metN_of (own := "LakeRelief$Strip") rfl rfl (Nat.le_of_ble_eq_true rfl) (fun p e s m below meth c C hin hG hA hP hD hS ls hl => ?_)
  obtain ⟨hx, hb, hml, hown, hts, hr, hlocks⟩ := id C
  generalize hAe : va_A [(h0, .inr (3, [.null, .int 0, .int 0]))] s.heap.size = A at hA hD hS ⊢
  refine lv_aload_n hx hb d_ST_init_0 rfl (lv_at hl 0 rfl) ?_
  refine W.objInit hx hb hown (hts _ in_24) (hts _ in_16) (hts _ in_17) rfl (by rw [hml]; exact hl.1) rfl d_ST_init_1 (Nat.le_of_ble_eq_true rfl) (Nat.le_of_ble_eq_true rfl) ?_
  refine W.eq (g2 := F0 m 4 ls []) rfl ?_
  refine lv_aload_n hx hb d_ST_init_4 rfl (lv_at hl 0 rfl) ?_
  refine lv_bipush (v := 12) hx hb d_ST_init_5 (by decide) ?_
  refine nw_i (N' := 12) hx hb hts hG.1 hP hD hS hA (by decide) (by decide) (by decide) (by decide) (by decide) d_ST_init_7 (fun q7 H hP hD hS => ?_)
  have hP : va_P D cls [(h0, .inr (3, [.null, .int 0, .int 0])), (q7, .inl (cA 0, 12, .inl (fun _ => 0)))] H := hP
  have hD : va_D A [(h0, .inr (3, [.null, .int 0, .int 0])), (q7, .inl (cA 0, 12, .inl (fun _ => 0)))] := hD
  refine W.widen (k := 1) (n := 12) (by decide) (by decide) ?_
  refine va_putF (D := D) (ci := 3) (v := .ref q7) (ty := (.array .int)) (C := R_ST) (T := T_ST) (N := 3) hx hb hts i_ST t_ST t_ST_ok n_ST hown hG.1 hP hD hS 0 rfl rfl 0 (by decide) (hts _ in_25) (fun _ h => h) rfl hin rfl (by decide +kernel) rfl rfl (Nat.le_of_ble_eq_true rfl) d_ST_init_9 (fun H locs hP hD hS => ?_)
  have hP : va_P D cls [(h0, .inr (3, [.ref q7, .int 0, .int 0])), (q7, .inl (cA 0, 12, .inl (fun _ => 0)))] H := hP
  have hD : va_D A [(h0, .inr (3, [.ref q7, .int 0, .int 0])), (q7, .inl (cA 0, 12, .inl (fun _ => 0)))] := hD
  refine lv_aload_n hx hb d_ST_init_12 rfl (lv_at hl 0 rfl) ?_
  refine lv_iconst (v := (-1)) hx hb d_ST_init_13 (by decide) ?_
  refine va_put (D := D) (ci := 3) (v := .int (-1)) (ty := .int) (C := R_ST) (T := T_ST) (N := 3) hx hb hts i_ST t_ST t_ST_ok n_ST hown hG.1 hP hD hS 0 rfl rfl 1 (by decide) (hts _ in_27) (fun _ h => h) rfl (by decide +kernel) rfl rfl (Nat.le_of_ble_eq_true rfl) d_ST_init_14 (fun H locs hP hD hS => ?_)
  have hP : va_P D cls [(h0, .inr (3, [.ref q7, .int (-1), .int 0])), (q7, .inl (cA 0, 12, .inl (fun _ => 0)))] H := hP
  have hD : va_D A [(h0, .inr (3, [.ref q7, .int (-1), .int 0])), (q7, .inl (cA 0, 12, .inl (fun _ => 0)))] := hD
  refine lv_aload_n hx hb d_ST_init_17 rfl (lv_at hl 0 rfl) ?_
  refine lv_iconst (v := 0) hx hb d_ST_init_18 (by decide) ?_
  refine va_put (D := D) (ci := 3) (v := .int 0) (ty := .int) (C := R_ST) (T := T_ST) (N := 3) hx hb hts i_ST t_ST t_ST_ok n_ST hown hG.1 hP hD hS 0 rfl rfl 2 (by decide) (hts _ in_29) (fun _ h => h) rfl (by decide +kernel) rfl rfl (Nat.le_of_ble_eq_true rfl) d_ST_init_19 (fun H locs hP hD hS => ?_)
  have hP : va_P D cls [(h0, .inr (3, [.ref q7, .int (-1), .int 0])), (q7, .inl (cA 0, 12, .inl (fun _ => 0)))] H := hP
  have hD : va_D A [(h0, .inr (3, [.ref q7, .int (-1), .int 0])), (q7, .inl (cA 0, 12, .inl (fun _ => 0)))] := hD
  subst hAe
  exact ret_n hx hb hr hlocks q7 trivial hP hD hS d_ST_init_22
theorem d_RE_init_0 : decode prog_4_method_1_code 0 = .ok (.aload_n 0, 1) := by decide +kernel
theorem d_RE_init_1 : decode prog_4_method_1_code 1 = .ok (.invokespecial 3, 3) := by decide +kernel
theorem d_RE_init_4 : decode prog_4_method_1_code 4 = .ok (.aload_n 0, 1) := by decide +kernel
theorem d_RE_init_5 : decode prog_4_method_1_code 5 = .ok (.bipush 64, 2) := by decide +kernel
theorem d_RE_init_7 : decode prog_4_method_1_code 7 = .ok (.newarray .int, 2) := by decide +kernel
theorem d_RE_init_9 : decode prog_4_method_1_code 9 = .ok (.putfield 9, 3) := by decide +kernel
theorem d_RE_init_12 : decode prog_4_method_1_code 12 = .ok (.aload_n 0, 1) := by decide +kernel
theorem d_RE_init_13 : decode prog_4_method_1_code 13 = .ok (.bipush 64, 2) := by decide +kernel
theorem d_RE_init_15 : decode prog_4_method_1_code 15 = .ok (.newarray .int, 2) := by decide +kernel
theorem d_RE_init_17 : decode prog_4_method_1_code 17 = .ok (.putfield 15, 3) := by decide +kernel
theorem d_RE_init_20 : decode prog_4_method_1_code 20 = .ok (.aload_n 0, 1) := by decide +kernel
theorem d_RE_init_21 : decode prog_4_method_1_code 21 = .ok (.bipush 64, 2) := by decide +kernel
theorem d_RE_init_23 : decode prog_4_method_1_code 23 = .ok (.newarray .int, 2) := by decide +kernel
theorem d_RE_init_25 : decode prog_4_method_1_code 25 = .ok (.putfield 18, 3) := by decide +kernel
theorem d_RE_init_28 : decode prog_4_method_1_code 28 = .ok (.aload_n 0, 1) := by decide +kernel
theorem d_RE_init_29 : decode prog_4_method_1_code 29 = .ok (.bipush 64, 2) := by decide +kernel
theorem d_RE_init_31 : decode prog_4_method_1_code 31 = .ok (.newarray .int, 2) := by decide +kernel
theorem d_RE_init_33 : decode prog_4_method_1_code 33 = .ok (.putfield 21, 3) := by decide +kernel
theorem d_RE_init_36 : decode prog_4_method_1_code 36 = .ok (.aload_n 0, 1) := by decide +kernel
theorem d_RE_init_37 : decode prog_4_method_1_code 37 = .ok (.bipush 64, 2) := by decide +kernel
theorem d_RE_init_39 : decode prog_4_method_1_code 39 = .ok (.newarray .int, 2) := by decide +kernel
theorem d_RE_init_41 : decode prog_4_method_1_code 41 = .ok (.putfield 24, 3) := by decide +kernel
theorem d_RE_init_44 : decode prog_4_method_1_code 44 = .ok (.aload_n 0, 1) := by decide +kernel
theorem d_RE_init_45 : decode prog_4_method_1_code 45 = .ok (.sipush 256, 3) := by decide +kernel
theorem d_RE_init_48 : decode prog_4_method_1_code 48 = .ok (.newarray .int, 2) := by decide +kernel
theorem d_RE_init_50 : decode prog_4_method_1_code 50 = .ok (.putfield 27, 3) := by decide +kernel
theorem d_RE_init_53 : decode prog_4_method_1_code 53 = .ok (.aload_n 0, 1) := by decide +kernel
theorem d_RE_init_54 : decode prog_4_method_1_code 54 = .ok (.bipush 64, 2) := by decide +kernel
theorem d_RE_init_56 : decode prog_4_method_1_code 56 = .ok (.newarray .int, 2) := by decide +kernel
theorem d_RE_init_58 : decode prog_4_method_1_code 58 = .ok (.putfield 30, 3) := by decide +kernel
theorem d_RE_init_61 : decode prog_4_method_1_code 61 = .ok (.aload_n 0, 1) := by decide +kernel
theorem d_RE_init_62 : decode prog_4_method_1_code 62 = .ok (.iconst 1, 1) := by decide +kernel
theorem d_RE_init_63 : decode prog_4_method_1_code 63 = .ok (.putfield 33, 3) := by decide +kernel
theorem d_RE_init_66 : decode prog_4_method_1_code 66 = .ok (.aload_n 0, 1) := by decide +kernel
theorem d_RE_init_67 : decode prog_4_method_1_code 67 = .ok (.iconst 0, 1) := by decide +kernel
theorem d_RE_init_68 : decode prog_4_method_1_code 68 = .ok (.putfield 37, 3) := by decide +kernel
theorem d_RE_init_71 : decode prog_4_method_1_code 71 = .ok (.aload_n 0, 1) := by decide +kernel
theorem d_RE_init_72 : decode prog_4_method_1_code 72 = .ok (.iconst 0, 1) := by decide +kernel
theorem d_RE_init_73 : decode prog_4_method_1_code 73 = .ok (.putfield 40, 3) := by decide +kernel
theorem d_RE_init_76 : decode prog_4_method_1_code 76 = .ok (.aload_n 0, 1) := by decide +kernel
theorem d_RE_init_77 : decode prog_4_method_1_code 77 = .ok (.lconst 0, 1) := by decide +kernel
theorem d_RE_init_78 : decode prog_4_method_1_code 78 = .ok (.putfield 43, 3) := by decide +kernel
theorem d_RE_init_81 : decode prog_4_method_1_code 81 = .ok (.return_, 1) := by decide +kernel
def rm_RE_init : Room := { frames := 1, cells := 7, slots := 640, locals := 20 }
set_option maxHeartbeats 4000000 in
set_option maxRecDepth 100000 in
theorem c_RE_init (l : Launch) (D : va_G) (cA : Nat → ClassId) (h0 sz : Nat) : Met l y_RE_init (Cond.code y_RE_init prog_4_method_1_code 1 none :: lw_ok) rm_RE_init (va_Pc [.ref h0] (SP D cA [(h0, .inr (2, [.null, .null, .null, .null, .null, .null, .null, .int 0, .int 0, .int 0, .long 0]))] sz)) (QN D [(h0, .inr (2, [.null, .null, .null, .null, .null, .null, .null, .int 0, .int 0, .int 0, .long 0]))] sz (fun u : (Nat → Nat) => [(h0, .inr (2, [.ref (u 0), .ref (u 1), .ref (u 2), .ref (u 3), .ref (u 4), .ref (u 5), .ref (u 6), .int 1, .int 0, .int 0, .long 0])), (u 0, .inl (cA 0, 64, .inl (fun _ => 0))), (u 1, .inl (cA 0, 64, .inl (fun _ => 0))), (u 2, .inl (cA 0, 64, .inl (fun _ => 0))), (u 3, .inl (cA 0, 64, .inl (fun _ => 0))), (u 4, .inl (cA 0, 64, .inl (fun _ => 0))), (u 5, .inl (cA 0, 256, .inl (fun _ => 0))), (u 6, .inl (cA 0, 64, .inl (fun _ => 0)))]) (fun _ => True)) 7 640 (va_A [(h0, .inr (2, [.null, .null, .null, .null, .null, .null, .null, .int 0, .int 0, .int 0, .long 0]))] sz) := by
  refine metN_of (own := "LakeRelief$Relief") rfl rfl (Nat.le_of_ble_eq_true rfl) (fun p e s m below meth c C hin hG hA hP hD hS ls hl => ?_)
  obtain ⟨hx, hb, hml, hown, hts, hr, hlocks⟩ := id C
  generalize hAe : va_A [(h0, .inr (2, [.null, .null, .null, .null, .null, .null, .null, .int 0, .int 0, .int 0, .long 0]))] s.heap.size = A at hA hD hS ⊢
  refine lv_aload_n hx hb d_RE_init_0 rfl (lv_at hl 0 rfl) ?_
  refine W.objInit hx hb hown (hts _ in_43) (hts _ in_16) (hts _ in_17) rfl (by rw [hml]; exact hl.1) rfl d_RE_init_1 (Nat.le_of_ble_eq_true rfl) (Nat.le_of_ble_eq_true rfl) ?_
  refine W.eq (g2 := F0 m 4 ls []) rfl ?_
  refine lv_aload_n hx hb d_RE_init_4 rfl (lv_at hl 0 rfl) ?_
  refine lv_bipush (v := 64) hx hb d_RE_init_5 (by decide) ?_
  refine nw_i (N' := 64) hx hb hts hG.1 hP hD hS hA (by decide) (by decide) (by decide) (by decide) (by decide) d_RE_init_7 (fun q7 H hP hD hS => ?_)
  have hP : va_P D cls [(h0, .inr (2, [.null, .null, .null, .null, .null, .null, .null, .int 0, .int 0, .int 0, .long 0])), (q7, .inl (cA 0, 64, .inl (fun _ => 0)))] H := hP
  have hD : va_D A [(h0, .inr (2, [.null, .null, .null, .null, .null, .null, .null, .int 0, .int 0, .int 0, .long 0])), (q7, .inl (cA 0, 64, .inl (fun _ => 0)))] := hD
  refine W.widen (k := 1) (n := 64) (by decide) (by decide) ?_
  refine va_putF (D := D) (ci := 2) (v := .ref q7) (ty := (.array .int)) (C := R_RE) (T := T_RE) (N := 11) hx hb hts i_RE t_RE t_RE_ok n_RE hown hG.1 hP hD hS 0 rfl rfl 0 (by decide) (hts _ in_44) (fun _ h => h) rfl hin rfl (by decide +kernel) rfl rfl (Nat.le_of_ble_eq_true rfl) d_RE_init_9 (fun H locs hP hD hS => ?_)
  have hP : va_P D cls [(h0, .inr (2, [.ref q7, .null, .null, .null, .null, .null, .null, .int 0, .int 0, .int 0, .long 0])), (q7, .inl (cA 0, 64, .inl (fun _ => 0)))] H := hP
  have hD : va_D A [(h0, .inr (2, [.ref q7, .null, .null, .null, .null, .null, .null, .int 0, .int 0, .int 0, .long 0])), (q7, .inl (cA 0, 64, .inl (fun _ => 0)))] := hD
  refine lv_aload_n hx hb d_RE_init_12 rfl (lv_at hl 0 rfl) ?_
  refine lv_bipush (v := 64) hx hb d_RE_init_13 (by decide) ?_
  refine nw_i (N' := 64) hx hb hts hG.1 hP hD hS hA (by decide) (by decide) (by decide) (by decide) (by decide) d_RE_init_15 (fun q15 H hP hD hS => ?_)
  have hP : va_P D cls [(h0, .inr (2, [.ref q7, .null, .null, .null, .null, .null, .null, .int 0, .int 0, .int 0, .long 0])), (q7, .inl (cA 0, 64, .inl (fun _ => 0))), (q15, .inl (cA 0, 64, .inl (fun _ => 0)))] H := hP
  have hD : va_D A [(h0, .inr (2, [.ref q7, .null, .null, .null, .null, .null, .null, .int 0, .int 0, .int 0, .long 0])), (q7, .inl (cA 0, 64, .inl (fun _ => 0))), (q15, .inl (cA 0, 64, .inl (fun _ => 0)))] := hD
  refine W.widen (k := 2) (n := 128) (by decide) (by decide) ?_
  refine va_putF (D := D) (ci := 2) (v := .ref q15) (ty := (.array .int)) (C := R_RE) (T := T_RE) (N := 11) hx hb hts i_RE t_RE t_RE_ok n_RE hown hG.1 hP hD hS 0 rfl rfl 1 (by decide) (hts _ in_47) (fun _ h => h) rfl hin rfl (by decide +kernel) rfl rfl (Nat.le_of_ble_eq_true rfl) d_RE_init_17 (fun H locs hP hD hS => ?_)
  have hP : va_P D cls [(h0, .inr (2, [.ref q7, .ref q15, .null, .null, .null, .null, .null, .int 0, .int 0, .int 0, .long 0])), (q7, .inl (cA 0, 64, .inl (fun _ => 0))), (q15, .inl (cA 0, 64, .inl (fun _ => 0)))] H := hP
  have hD : va_D A [(h0, .inr (2, [.ref q7, .ref q15, .null, .null, .null, .null, .null, .int 0, .int 0, .int 0, .long 0])), (q7, .inl (cA 0, 64, .inl (fun _ => 0))), (q15, .inl (cA 0, 64, .inl (fun _ => 0)))] := hD
  refine lv_aload_n hx hb d_RE_init_20 rfl (lv_at hl 0 rfl) ?_
  refine lv_bipush (v := 64) hx hb d_RE_init_21 (by decide) ?_
  refine nw_i (N' := 64) hx hb hts hG.1 hP hD hS hA (by decide) (by decide) (by decide) (by decide) (by decide) d_RE_init_23 (fun q23 H hP hD hS => ?_)
  have hP : va_P D cls [(h0, .inr (2, [.ref q7, .ref q15, .null, .null, .null, .null, .null, .int 0, .int 0, .int 0, .long 0])), (q7, .inl (cA 0, 64, .inl (fun _ => 0))), (q15, .inl (cA 0, 64, .inl (fun _ => 0))), (q23, .inl (cA 0, 64, .inl (fun _ => 0)))] H := hP
  have hD : va_D A [(h0, .inr (2, [.ref q7, .ref q15, .null, .null, .null, .null, .null, .int 0, .int 0, .int 0, .long 0])), (q7, .inl (cA 0, 64, .inl (fun _ => 0))), (q15, .inl (cA 0, 64, .inl (fun _ => 0))), (q23, .inl (cA 0, 64, .inl (fun _ => 0)))] := hD
  refine W.widen (k := 3) (n := 192) (by decide) (by decide) ?_
  refine va_putF (D := D) (ci := 2) (v := .ref q23) (ty := (.array .int)) (C := R_RE) (T := T_RE) (N := 11) hx hb hts i_RE t_RE t_RE_ok n_RE hown hG.1 hP hD hS 0 rfl rfl 2 (by decide) (hts _ in_49) (fun _ h => h) rfl hin rfl (by decide +kernel) rfl rfl (Nat.le_of_ble_eq_true rfl) d_RE_init_25 (fun H locs hP hD hS => ?_)
  have hP : va_P D cls [(h0, .inr (2, [.ref q7, .ref q15, .ref q23, .null, .null, .null, .null, .int 0, .int 0, .int 0, .long 0])), (q7, .inl (cA 0, 64, .inl (fun _ => 0))), (q15, .inl (cA 0, 64, .inl (fun _ => 0))), (q23, .inl (cA 0, 64, .inl (fun _ => 0)))] H := hP
  have hD : va_D A [(h0, .inr (2, [.ref q7, .ref q15, .ref q23, .null, .null, .null, .null, .int 0, .int 0, .int 0, .long 0])), (q7, .inl (cA 0, 64, .inl (fun _ => 0))), (q15, .inl (cA 0, 64, .inl (fun _ => 0))), (q23, .inl (cA 0, 64, .inl (fun _ => 0)))] := hD
  refine lv_aload_n hx hb d_RE_init_28 rfl (lv_at hl 0 rfl) ?_
  refine lv_bipush (v := 64) hx hb d_RE_init_29 (by decide) ?_
  refine nw_i (N' := 64) hx hb hts hG.1 hP hD hS hA (by decide) (by decide) (by decide) (by decide) (by decide) d_RE_init_31 (fun q31 H hP hD hS => ?_)
  have hP : va_P D cls [(h0, .inr (2, [.ref q7, .ref q15, .ref q23, .null, .null, .null, .null, .int 0, .int 0, .int 0, .long 0])), (q7, .inl (cA 0, 64, .inl (fun _ => 0))), (q15, .inl (cA 0, 64, .inl (fun _ => 0))), (q23, .inl (cA 0, 64, .inl (fun _ => 0))), (q31, .inl (cA 0, 64, .inl (fun _ => 0)))] H := hP
  have hD : va_D A [(h0, .inr (2, [.ref q7, .ref q15, .ref q23, .null, .null, .null, .null, .int 0, .int 0, .int 0, .long 0])), (q7, .inl (cA 0, 64, .inl (fun _ => 0))), (q15, .inl (cA 0, 64, .inl (fun _ => 0))), (q23, .inl (cA 0, 64, .inl (fun _ => 0))), (q31, .inl (cA 0, 64, .inl (fun _ => 0)))] := hD
  refine W.widen (k := 4) (n := 256) (by decide) (by decide) ?_
  refine va_putF (D := D) (ci := 2) (v := .ref q31) (ty := (.array .int)) (C := R_RE) (T := T_RE) (N := 11) hx hb hts i_RE t_RE t_RE_ok n_RE hown hG.1 hP hD hS 0 rfl rfl 3 (by decide) (hts _ in_52) (fun _ h => h) rfl hin rfl (by decide +kernel) rfl rfl (Nat.le_of_ble_eq_true rfl) d_RE_init_33 (fun H locs hP hD hS => ?_)
  have hP : va_P D cls [(h0, .inr (2, [.ref q7, .ref q15, .ref q23, .ref q31, .null, .null, .null, .int 0, .int 0, .int 0, .long 0])), (q7, .inl (cA 0, 64, .inl (fun _ => 0))), (q15, .inl (cA 0, 64, .inl (fun _ => 0))), (q23, .inl (cA 0, 64, .inl (fun _ => 0))), (q31, .inl (cA 0, 64, .inl (fun _ => 0)))] H := hP
  have hD : va_D A [(h0, .inr (2, [.ref q7, .ref q15, .ref q23, .ref q31, .null, .null, .null, .int 0, .int 0, .int 0, .long 0])), (q7, .inl (cA 0, 64, .inl (fun _ => 0))), (q15, .inl (cA 0, 64, .inl (fun _ => 0))), (q23, .inl (cA 0, 64, .inl (fun _ => 0))), (q31, .inl (cA 0, 64, .inl (fun _ => 0)))] := hD
  refine lv_aload_n hx hb d_RE_init_36 rfl (lv_at hl 0 rfl) ?_
  refine lv_bipush (v := 64) hx hb d_RE_init_37 (by decide) ?_
  refine nw_i (N' := 64) hx hb hts hG.1 hP hD hS hA (by decide) (by decide) (by decide) (by decide) (by decide) d_RE_init_39 (fun q39 H hP hD hS => ?_)
  have hP : va_P D cls [(h0, .inr (2, [.ref q7, .ref q15, .ref q23, .ref q31, .null, .null, .null, .int 0, .int 0, .int 0, .long 0])), (q7, .inl (cA 0, 64, .inl (fun _ => 0))), (q15, .inl (cA 0, 64, .inl (fun _ => 0))), (q23, .inl (cA 0, 64, .inl (fun _ => 0))), (q31, .inl (cA 0, 64, .inl (fun _ => 0))), (q39, .inl (cA 0, 64, .inl (fun _ => 0)))] H := hP
  have hD : va_D A [(h0, .inr (2, [.ref q7, .ref q15, .ref q23, .ref q31, .null, .null, .null, .int 0, .int 0, .int 0, .long 0])), (q7, .inl (cA 0, 64, .inl (fun _ => 0))), (q15, .inl (cA 0, 64, .inl (fun _ => 0))), (q23, .inl (cA 0, 64, .inl (fun _ => 0))), (q31, .inl (cA 0, 64, .inl (fun _ => 0))), (q39, .inl (cA 0, 64, .inl (fun _ => 0)))] := hD
  refine W.widen (k := 5) (n := 320) (by decide) (by decide) ?_
  refine va_putF (D := D) (ci := 2) (v := .ref q39) (ty := (.array .int)) (C := R_RE) (T := T_RE) (N := 11) hx hb hts i_RE t_RE t_RE_ok n_RE hown hG.1 hP hD hS 0 rfl rfl 4 (by decide) (hts _ in_54) (fun _ h => h) rfl hin rfl (by decide +kernel) rfl rfl (Nat.le_of_ble_eq_true rfl) d_RE_init_41 (fun H locs hP hD hS => ?_)
  have hP : va_P D cls [(h0, .inr (2, [.ref q7, .ref q15, .ref q23, .ref q31, .ref q39, .null, .null, .int 0, .int 0, .int 0, .long 0])), (q7, .inl (cA 0, 64, .inl (fun _ => 0))), (q15, .inl (cA 0, 64, .inl (fun _ => 0))), (q23, .inl (cA 0, 64, .inl (fun _ => 0))), (q31, .inl (cA 0, 64, .inl (fun _ => 0))), (q39, .inl (cA 0, 64, .inl (fun _ => 0)))] H := hP
  have hD : va_D A [(h0, .inr (2, [.ref q7, .ref q15, .ref q23, .ref q31, .ref q39, .null, .null, .int 0, .int 0, .int 0, .long 0])), (q7, .inl (cA 0, 64, .inl (fun _ => 0))), (q15, .inl (cA 0, 64, .inl (fun _ => 0))), (q23, .inl (cA 0, 64, .inl (fun _ => 0))), (q31, .inl (cA 0, 64, .inl (fun _ => 0))), (q39, .inl (cA 0, 64, .inl (fun _ => 0)))] := hD
  refine lv_aload_n hx hb d_RE_init_44 rfl (lv_at hl 0 rfl) ?_
  refine lv_sipush (v := 256) hx hb d_RE_init_45 (by decide) ?_
  refine nw_i (N' := 256) hx hb hts hG.1 hP hD hS hA (by decide) (by decide) (by decide) (by decide) (by decide) d_RE_init_48 (fun q48 H hP hD hS => ?_)
  have hP : va_P D cls [(h0, .inr (2, [.ref q7, .ref q15, .ref q23, .ref q31, .ref q39, .null, .null, .int 0, .int 0, .int 0, .long 0])), (q7, .inl (cA 0, 64, .inl (fun _ => 0))), (q15, .inl (cA 0, 64, .inl (fun _ => 0))), (q23, .inl (cA 0, 64, .inl (fun _ => 0))), (q31, .inl (cA 0, 64, .inl (fun _ => 0))), (q39, .inl (cA 0, 64, .inl (fun _ => 0))), (q48, .inl (cA 0, 256, .inl (fun _ => 0)))] H := hP
  have hD : va_D A [(h0, .inr (2, [.ref q7, .ref q15, .ref q23, .ref q31, .ref q39, .null, .null, .int 0, .int 0, .int 0, .long 0])), (q7, .inl (cA 0, 64, .inl (fun _ => 0))), (q15, .inl (cA 0, 64, .inl (fun _ => 0))), (q23, .inl (cA 0, 64, .inl (fun _ => 0))), (q31, .inl (cA 0, 64, .inl (fun _ => 0))), (q39, .inl (cA 0, 64, .inl (fun _ => 0))), (q48, .inl (cA 0, 256, .inl (fun _ => 0)))] := hD
  refine W.widen (k := 6) (n := 576) (by decide) (by decide) ?_
  refine va_putF (D := D) (ci := 2) (v := .ref q48) (ty := (.array .int)) (C := R_RE) (T := T_RE) (N := 11) hx hb hts i_RE t_RE t_RE_ok n_RE hown hG.1 hP hD hS 0 rfl rfl 5 (by decide) (hts _ in_56) (fun _ h => h) rfl hin rfl (by decide +kernel) rfl rfl (Nat.le_of_ble_eq_true rfl) d_RE_init_50 (fun H locs hP hD hS => ?_)
  have hP : va_P D cls [(h0, .inr (2, [.ref q7, .ref q15, .ref q23, .ref q31, .ref q39, .ref q48, .null, .int 0, .int 0, .int 0, .long 0])), (q7, .inl (cA 0, 64, .inl (fun _ => 0))), (q15, .inl (cA 0, 64, .inl (fun _ => 0))), (q23, .inl (cA 0, 64, .inl (fun _ => 0))), (q31, .inl (cA 0, 64, .inl (fun _ => 0))), (q39, .inl (cA 0, 64, .inl (fun _ => 0))), (q48, .inl (cA 0, 256, .inl (fun _ => 0)))] H := hP
  have hD : va_D A [(h0, .inr (2, [.ref q7, .ref q15, .ref q23, .ref q31, .ref q39, .ref q48, .null, .int 0, .int 0, .int 0, .long 0])), (q7, .inl (cA 0, 64, .inl (fun _ => 0))), (q15, .inl (cA 0, 64, .inl (fun _ => 0))), (q23, .inl (cA 0, 64, .inl (fun _ => 0))), (q31, .inl (cA 0, 64, .inl (fun _ => 0))), (q39, .inl (cA 0, 64, .inl (fun _ => 0))), (q48, .inl (cA 0, 256, .inl (fun _ => 0)))] := hD
  refine lv_aload_n hx hb d_RE_init_53 rfl (lv_at hl 0 rfl) ?_
  refine lv_bipush (v := 64) hx hb d_RE_init_54 (by decide) ?_
  refine nw_i (N' := 64) hx hb hts hG.1 hP hD hS hA (by decide) (by decide) (by decide) (by decide) (by decide) d_RE_init_56 (fun q56 H hP hD hS => ?_)
  have hP : va_P D cls [(h0, .inr (2, [.ref q7, .ref q15, .ref q23, .ref q31, .ref q39, .ref q48, .null, .int 0, .int 0, .int 0, .long 0])), (q7, .inl (cA 0, 64, .inl (fun _ => 0))), (q15, .inl (cA 0, 64, .inl (fun _ => 0))), (q23, .inl (cA 0, 64, .inl (fun _ => 0))), (q31, .inl (cA 0, 64, .inl (fun _ => 0))), (q39, .inl (cA 0, 64, .inl (fun _ => 0))), (q48, .inl (cA 0, 256, .inl (fun _ => 0))), (q56, .inl (cA 0, 64, .inl (fun _ => 0)))] H := hP
  have hD : va_D A [(h0, .inr (2, [.ref q7, .ref q15, .ref q23, .ref q31, .ref q39, .ref q48, .null, .int 0, .int 0, .int 0, .long 0])), (q7, .inl (cA 0, 64, .inl (fun _ => 0))), (q15, .inl (cA 0, 64, .inl (fun _ => 0))), (q23, .inl (cA 0, 64, .inl (fun _ => 0))), (q31, .inl (cA 0, 64, .inl (fun _ => 0))), (q39, .inl (cA 0, 64, .inl (fun _ => 0))), (q48, .inl (cA 0, 256, .inl (fun _ => 0))), (q56, .inl (cA 0, 64, .inl (fun _ => 0)))] := hD
  refine W.widen (k := 7) (n := 640) (by decide) (by decide) ?_
  refine va_putF (D := D) (ci := 2) (v := .ref q56) (ty := (.array .int)) (C := R_RE) (T := T_RE) (N := 11) hx hb hts i_RE t_RE t_RE_ok n_RE hown hG.1 hP hD hS 0 rfl rfl 6 (by decide) (hts _ in_57) (fun _ h => h) rfl hin rfl (by decide +kernel) rfl rfl (Nat.le_of_ble_eq_true rfl) d_RE_init_58 (fun H locs hP hD hS => ?_)
  have hP : va_P D cls [(h0, .inr (2, [.ref q7, .ref q15, .ref q23, .ref q31, .ref q39, .ref q48, .ref q56, .int 0, .int 0, .int 0, .long 0])), (q7, .inl (cA 0, 64, .inl (fun _ => 0))), (q15, .inl (cA 0, 64, .inl (fun _ => 0))), (q23, .inl (cA 0, 64, .inl (fun _ => 0))), (q31, .inl (cA 0, 64, .inl (fun _ => 0))), (q39, .inl (cA 0, 64, .inl (fun _ => 0))), (q48, .inl (cA 0, 256, .inl (fun _ => 0))), (q56, .inl (cA 0, 64, .inl (fun _ => 0)))] H := hP
  have hD : va_D A [(h0, .inr (2, [.ref q7, .ref q15, .ref q23, .ref q31, .ref q39, .ref q48, .ref q56, .int 0, .int 0, .int 0, .long 0])), (q7, .inl (cA 0, 64, .inl (fun _ => 0))), (q15, .inl (cA 0, 64, .inl (fun _ => 0))), (q23, .inl (cA 0, 64, .inl (fun _ => 0))), (q31, .inl (cA 0, 64, .inl (fun _ => 0))), (q39, .inl (cA 0, 64, .inl (fun _ => 0))), (q48, .inl (cA 0, 256, .inl (fun _ => 0))), (q56, .inl (cA 0, 64, .inl (fun _ => 0)))] := hD
  refine lv_aload_n hx hb d_RE_init_61 rfl (lv_at hl 0 rfl) ?_
  refine lv_iconst (v := 1) hx hb d_RE_init_62 (by decide) ?_
  refine va_put (D := D) (ci := 2) (v := .int 1) (ty := .int) (C := R_RE) (T := T_RE) (N := 11) hx hb hts i_RE t_RE t_RE_ok n_RE hown hG.1 hP hD hS 0 rfl rfl 7 (by decide) (hts _ in_58) (fun _ h => h) rfl (by decide +kernel) rfl rfl (Nat.le_of_ble_eq_true rfl) d_RE_init_63 (fun H locs hP hD hS => ?_)
  have hP : va_P D cls [(h0, .inr (2, [.ref q7, .ref q15, .ref q23, .ref q31, .ref q39, .ref q48, .ref q56, .int 1, .int 0, .int 0, .long 0])), (q7, .inl (cA 0, 64, .inl (fun _ => 0))), (q15, .inl (cA 0, 64, .inl (fun _ => 0))), (q23, .inl (cA 0, 64, .inl (fun _ => 0))), (q31, .inl (cA 0, 64, .inl (fun _ => 0))), (q39, .inl (cA 0, 64, .inl (fun _ => 0))), (q48, .inl (cA 0, 256, .inl (fun _ => 0))), (q56, .inl (cA 0, 64, .inl (fun _ => 0)))] H := hP
  have hD : va_D A [(h0, .inr (2, [.ref q7, .ref q15, .ref q23, .ref q31, .ref q39, .ref q48, .ref q56, .int 1, .int 0, .int 0, .long 0])), (q7, .inl (cA 0, 64, .inl (fun _ => 0))), (q15, .inl (cA 0, 64, .inl (fun _ => 0))), (q23, .inl (cA 0, 64, .inl (fun _ => 0))), (q31, .inl (cA 0, 64, .inl (fun _ => 0))), (q39, .inl (cA 0, 64, .inl (fun _ => 0))), (q48, .inl (cA 0, 256, .inl (fun _ => 0))), (q56, .inl (cA 0, 64, .inl (fun _ => 0)))] := hD
  refine lv_aload_n hx hb d_RE_init_66 rfl (lv_at hl 0 rfl) ?_
  refine lv_iconst (v := 0) hx hb d_RE_init_67 (by decide) ?_
  refine va_put (D := D) (ci := 2) (v := .int 0) (ty := .int) (C := R_RE) (T := T_RE) (N := 11) hx hb hts i_RE t_RE t_RE_ok n_RE hown hG.1 hP hD hS 0 rfl rfl 8 (by decide) (hts _ in_59) (fun _ h => h) rfl (by decide +kernel) rfl rfl (Nat.le_of_ble_eq_true rfl) d_RE_init_68 (fun H locs hP hD hS => ?_)
  have hP : va_P D cls [(h0, .inr (2, [.ref q7, .ref q15, .ref q23, .ref q31, .ref q39, .ref q48, .ref q56, .int 1, .int 0, .int 0, .long 0])), (q7, .inl (cA 0, 64, .inl (fun _ => 0))), (q15, .inl (cA 0, 64, .inl (fun _ => 0))), (q23, .inl (cA 0, 64, .inl (fun _ => 0))), (q31, .inl (cA 0, 64, .inl (fun _ => 0))), (q39, .inl (cA 0, 64, .inl (fun _ => 0))), (q48, .inl (cA 0, 256, .inl (fun _ => 0))), (q56, .inl (cA 0, 64, .inl (fun _ => 0)))] H := hP
  have hD : va_D A [(h0, .inr (2, [.ref q7, .ref q15, .ref q23, .ref q31, .ref q39, .ref q48, .ref q56, .int 1, .int 0, .int 0, .long 0])), (q7, .inl (cA 0, 64, .inl (fun _ => 0))), (q15, .inl (cA 0, 64, .inl (fun _ => 0))), (q23, .inl (cA 0, 64, .inl (fun _ => 0))), (q31, .inl (cA 0, 64, .inl (fun _ => 0))), (q39, .inl (cA 0, 64, .inl (fun _ => 0))), (q48, .inl (cA 0, 256, .inl (fun _ => 0))), (q56, .inl (cA 0, 64, .inl (fun _ => 0)))] := hD
  refine lv_aload_n hx hb d_RE_init_71 rfl (lv_at hl 0 rfl) ?_
  refine lv_iconst (v := 0) hx hb d_RE_init_72 (by decide) ?_
  refine va_put (D := D) (ci := 2) (v := .int 0) (ty := .int) (C := R_RE) (T := T_RE) (N := 11) hx hb hts i_RE t_RE t_RE_ok n_RE hown hG.1 hP hD hS 0 rfl rfl 9 (by decide) (hts _ in_61) (fun _ h => h) rfl (by decide +kernel) rfl rfl (Nat.le_of_ble_eq_true rfl) d_RE_init_73 (fun H locs hP hD hS => ?_)
  have hP : va_P D cls [(h0, .inr (2, [.ref q7, .ref q15, .ref q23, .ref q31, .ref q39, .ref q48, .ref q56, .int 1, .int 0, .int 0, .long 0])), (q7, .inl (cA 0, 64, .inl (fun _ => 0))), (q15, .inl (cA 0, 64, .inl (fun _ => 0))), (q23, .inl (cA 0, 64, .inl (fun _ => 0))), (q31, .inl (cA 0, 64, .inl (fun _ => 0))), (q39, .inl (cA 0, 64, .inl (fun _ => 0))), (q48, .inl (cA 0, 256, .inl (fun _ => 0))), (q56, .inl (cA 0, 64, .inl (fun _ => 0)))] H := hP
  have hD : va_D A [(h0, .inr (2, [.ref q7, .ref q15, .ref q23, .ref q31, .ref q39, .ref q48, .ref q56, .int 1, .int 0, .int 0, .long 0])), (q7, .inl (cA 0, 64, .inl (fun _ => 0))), (q15, .inl (cA 0, 64, .inl (fun _ => 0))), (q23, .inl (cA 0, 64, .inl (fun _ => 0))), (q31, .inl (cA 0, 64, .inl (fun _ => 0))), (q39, .inl (cA 0, 64, .inl (fun _ => 0))), (q48, .inl (cA 0, 256, .inl (fun _ => 0))), (q56, .inl (cA 0, 64, .inl (fun _ => 0)))] := hD
  refine lv_aload_n hx hb d_RE_init_76 rfl (lv_at hl 0 rfl) ?_
  refine lv_lconst (v := 0) hx hb d_RE_init_77 (by decide) ?_
  refine va_put (D := D) (ci := 2) (v := .long 0) (ty := .long) (C := R_RE) (T := T_RE) (N := 11) hx hb hts i_RE t_RE t_RE_ok n_RE hown hG.1 hP hD hS 0 rfl rfl 10 (by decide) (hts _ in_64) (fun _ h => h) rfl (by decide +kernel) rfl rfl (Nat.le_of_ble_eq_true rfl) d_RE_init_78 (fun H locs hP hD hS => ?_)
  have hP : va_P D cls [(h0, .inr (2, [.ref q7, .ref q15, .ref q23, .ref q31, .ref q39, .ref q48, .ref q56, .int 1, .int 0, .int 0, .long 0])), (q7, .inl (cA 0, 64, .inl (fun _ => 0))), (q15, .inl (cA 0, 64, .inl (fun _ => 0))), (q23, .inl (cA 0, 64, .inl (fun _ => 0))), (q31, .inl (cA 0, 64, .inl (fun _ => 0))), (q39, .inl (cA 0, 64, .inl (fun _ => 0))), (q48, .inl (cA 0, 256, .inl (fun _ => 0))), (q56, .inl (cA 0, 64, .inl (fun _ => 0)))] H := hP
  have hD : va_D A [(h0, .inr (2, [.ref q7, .ref q15, .ref q23, .ref q31, .ref q39, .ref q48, .ref q56, .int 1, .int 0, .int 0, .long 0])), (q7, .inl (cA 0, 64, .inl (fun _ => 0))), (q15, .inl (cA 0, 64, .inl (fun _ => 0))), (q23, .inl (cA 0, 64, .inl (fun _ => 0))), (q31, .inl (cA 0, 64, .inl (fun _ => 0))), (q39, .inl (cA 0, 64, .inl (fun _ => 0))), (q48, .inl (cA 0, 256, .inl (fun _ => 0))), (q56, .inl (cA 0, 64, .inl (fun _ => 0)))] := hD
  subst hAe
  exact ret_n hx hb hr hlocks (fun i => match i with | 0 => q7 | 1 => q15 | 2 => q23 | 3 => q31 | 4 => q39 | 5 => q48 | _ => q56) trivial hP hD hS d_RE_init_81
set_option maxHeartbeats 4000000 in
set_option maxRecDepth 100000 in
theorem c0_LA_begin (l : Launch) (D : va_G) (cA : Nat → ClassId) (h0 sz : Nat) : Met l y_LA_begin (Cond.code y_LA_begin prog_2_method_2_code 5 none :: lw_ok) rm_LA_begin (va_Pc [.ref h0, .long 0, .int (-3), .int (-3)] (SP D cA [(h0, .inr (0, [.long 0, .int 0, .int 0, .int 0, .int 0, .int 0, .int 0, .int 0]))] sz)) (QN D [(h0, .inr (0, [.long 0, .int 0, .int 0, .int 0, .int 0, .int 0, .int 0, .int 0]))] sz (fun _ : Unit => [(h0, .inr (0, [.long 0, .int (-3), .int (-3), .int (-3), .int (-3), .int 0, .int 0, .int 0]))]) (fun _ => True)) 0 0 (va_A [(h0, .inr (0, [.long 0, .int 0, .int 0, .int 0, .int 0, .int 0, .int 0, .int 0]))] sz) := by
  refine metN_of (own := "LakeRelief$Lake") rfl rfl (Nat.le_of_ble_eq_true rfl) (fun p e s m below meth c C _ hG hA hP hD hS ls hl => ?_)
  obtain ⟨hx, hb, hml, hown, hts, hr, hlocks⟩ := id C
  generalize hAe : va_A [(h0, .inr (0, [.long 0, .int 0, .int 0, .int 0, .int 0, .int 0, .int 0, .int 0]))] s.heap.size = A at hA hD hS ⊢
  refine lv_aload_n hx hb d_LA_begin_0 rfl (lv_at hl 0 rfl) ?_
  refine lv_lload_n hx hb d_LA_begin_1 rfl (lv_at hl 1 rfl) ?_
  refine va_put (D := D) (ci := 0) (v := .long 0) (ty := .long) (C := R_LA) (T := T_LA) (N := 8) hx hb hts i_LA t_LA t_LA_ok n_LA hown hG.1 hP hD hS 0 rfl rfl 0 (by decide) (hts _ in_111) (fun _ h => h) rfl (by decide +kernel) rfl rfl (Nat.le_of_ble_eq_true rfl) d_LA_begin_2 (fun H locs hP hD hS => ?_)
  have hP : va_P D cls [(h0, .inr (0, [.long 0, .int 0, .int 0, .int 0, .int 0, .int 0, .int 0, .int 0]))] H := hP
  have hD : va_D A [(h0, .inr (0, [.long 0, .int 0, .int 0, .int 0, .int 0, .int 0, .int 0, .int 0]))] := hD
  refine lv_aload_n hx hb d_LA_begin_5 rfl (lv_at hl 0 rfl) ?_
  refine lv_bipush (v := (-3)) hx hb d_LA_begin_6 (by decide) ?_
  refine va_put (D := D) (ci := 0) (v := .int (-3)) (ty := .int) (C := R_LA) (T := T_LA) (N := 8) hx hb hts i_LA t_LA t_LA_ok n_LA hown hG.1 hP hD hS 0 rfl rfl 1 (by decide) (hts _ in_114) (fun _ h => h) rfl (by decide +kernel) rfl rfl (Nat.le_of_ble_eq_true rfl) d_LA_begin_8 (fun H locs hP hD hS => ?_)
  have hP : va_P D cls [(h0, .inr (0, [.long 0, .int (-3), .int 0, .int 0, .int 0, .int 0, .int 0, .int 0]))] H := hP
  have hD : va_D A [(h0, .inr (0, [.long 0, .int (-3), .int 0, .int 0, .int 0, .int 0, .int 0, .int 0]))] := hD
  refine lv_aload_n hx hb d_LA_begin_11 rfl (lv_at hl 0 rfl) ?_
  refine lv_bipush (v := (-3)) hx hb d_LA_begin_12 (by decide) ?_
  refine va_put (D := D) (ci := 0) (v := .int (-3)) (ty := .int) (C := R_LA) (T := T_LA) (N := 8) hx hb hts i_LA t_LA t_LA_ok n_LA hown hG.1 hP hD hS 0 rfl rfl 2 (by decide) (hts _ in_117) (fun _ h => h) rfl (by decide +kernel) rfl rfl (Nat.le_of_ble_eq_true rfl) d_LA_begin_14 (fun H locs hP hD hS => ?_)
  have hP : va_P D cls [(h0, .inr (0, [.long 0, .int (-3), .int (-3), .int 0, .int 0, .int 0, .int 0, .int 0]))] H := hP
  have hD : va_D A [(h0, .inr (0, [.long 0, .int (-3), .int (-3), .int 0, .int 0, .int 0, .int 0, .int 0]))] := hD
  refine lv_aload_n hx hb d_LA_begin_17 rfl (lv_at hl 0 rfl) ?_
  refine lv_iload_n hx hb d_LA_begin_18 rfl (lv_at hl 2 rfl) ?_
  refine lv_iload hx hb d_LA_begin_19 (lv_at hl 3 rfl) ?_
  refine va_mmin hx hb (hml.trans hl.1.symm) hown (hts _ in_105) (hts _ in_106) (hts _ in_6) (hts _ in_107) (Nat.le_of_ble_eq_true rfl) (Nat.le_of_ble_eq_true rfl) (Nat.zero_le _) (Nat.zero_le _) d_LA_begin_21 ?_
  rw [ite_self]
  refine va_put (D := D) (ci := 0) (v := .int (-3)) (ty := .int) (C := R_LA) (T := T_LA) (N := 8) hx hb hts i_LA t_LA t_LA_ok n_LA hown hG.1 hP hD hS 0 rfl rfl 3 (by decide) (hts _ in_120) (fun _ h => h) rfl (by decide +kernel) rfl rfl (Nat.le_of_ble_eq_true rfl) d_LA_begin_24 (fun H locs hP hD hS => ?_)
  have hP : va_P D cls [(h0, .inr (0, [.long 0, .int (-3), .int (-3), .int (-3), .int 0, .int 0, .int 0, .int 0]))] H := hP
  have hD : va_D A [(h0, .inr (0, [.long 0, .int (-3), .int (-3), .int (-3), .int 0, .int 0, .int 0, .int 0]))] := hD
  refine lv_aload_n hx hb d_LA_begin_27 rfl (lv_at hl 0 rfl) ?_
  refine lv_iload_n hx hb d_LA_begin_28 rfl (lv_at hl 2 rfl) ?_
  refine lv_iload hx hb d_LA_begin_29 (lv_at hl 3 rfl) ?_
  refine va_mmax hx hb (hml.trans hl.1.symm) hown (hts _ in_108) (hts _ in_109) (hts _ in_6) (hts _ in_110) (Nat.le_of_ble_eq_true rfl) (Nat.le_of_ble_eq_true rfl) (Nat.zero_le _) (Nat.zero_le _) d_LA_begin_31 ?_
  rw [ite_self]
  refine va_put (D := D) (ci := 0) (v := .int (-3)) (ty := .int) (C := R_LA) (T := T_LA) (N := 8) hx hb hts i_LA t_LA t_LA_ok n_LA hown hG.1 hP hD hS 0 rfl rfl 4 (by decide) (hts _ in_123) (fun _ h => h) rfl (by decide +kernel) rfl rfl (Nat.le_of_ble_eq_true rfl) d_LA_begin_34 (fun H locs hP hD hS => ?_)
  have hP : va_P D cls [(h0, .inr (0, [.long 0, .int (-3), .int (-3), .int (-3), .int (-3), .int 0, .int 0, .int 0]))] H := hP
  have hD : va_D A [(h0, .inr (0, [.long 0, .int (-3), .int (-3), .int (-3), .int (-3), .int 0, .int 0, .int 0]))] := hD
  refine lv_aload_n hx hb d_LA_begin_37 rfl (lv_at hl 0 rfl) ?_
  refine lv_iconst (v := 0) hx hb d_LA_begin_38 (by decide) ?_
  refine va_put (D := D) (ci := 0) (v := .int 0) (ty := .int) (C := R_LA) (T := T_LA) (N := 8) hx hb hts i_LA t_LA t_LA_ok n_LA hown hG.1 hP hD hS 0 rfl rfl 5 (by decide) (hts _ in_126) (fun _ h => h) rfl (by decide +kernel) rfl rfl (Nat.le_of_ble_eq_true rfl) d_LA_begin_39 (fun H locs hP hD hS => ?_)
  have hP : va_P D cls [(h0, .inr (0, [.long 0, .int (-3), .int (-3), .int (-3), .int (-3), .int 0, .int 0, .int 0]))] H := hP
  have hD : va_D A [(h0, .inr (0, [.long 0, .int (-3), .int (-3), .int (-3), .int (-3), .int 0, .int 0, .int 0]))] := hD
  refine lv_aload_n hx hb d_LA_begin_42 rfl (lv_at hl 0 rfl) ?_
  refine lv_iconst (v := 0) hx hb d_LA_begin_43 (by decide) ?_
  refine va_put (D := D) (ci := 0) (v := .int 0) (ty := .boolean) (C := R_LA) (T := T_LA) (N := 8) hx hb hts i_LA t_LA t_LA_ok n_LA hown hG.1 hP hD hS 0 rfl rfl 6 (by decide) (hts _ in_129) (fun _ h => h) rfl (by decide +kernel) rfl rfl (Nat.le_of_ble_eq_true rfl) d_LA_begin_44 (fun H locs hP hD hS => ?_)
  have hP : va_P D cls [(h0, .inr (0, [.long 0, .int (-3), .int (-3), .int (-3), .int (-3), .int 0, .int 0, .int 0]))] H := hP
  have hD : va_D A [(h0, .inr (0, [.long 0, .int (-3), .int (-3), .int (-3), .int (-3), .int 0, .int 0, .int 0]))] := hD
  refine lv_aload_n hx hb d_LA_begin_47 rfl (lv_at hl 0 rfl) ?_
  refine lv_iconst (v := 0) hx hb d_LA_begin_48 (by decide) ?_
  refine va_put (D := D) (ci := 0) (v := .int 0) (ty := .int) (C := R_LA) (T := T_LA) (N := 8) hx hb hts i_LA t_LA t_LA_ok n_LA hown hG.1 hP hD hS 0 rfl rfl 7 (by decide) (hts _ in_132) (fun _ h => h) rfl (by decide +kernel) rfl rfl (Nat.le_of_ble_eq_true rfl) d_LA_begin_49 (fun H locs hP hD hS => ?_)
  have hP : va_P D cls [(h0, .inr (0, [.long 0, .int (-3), .int (-3), .int (-3), .int (-3), .int 0, .int 0, .int 0]))] H := hP
  have hD : va_D A [(h0, .inr (0, [.long 0, .int (-3), .int (-3), .int (-3), .int (-3), .int 0, .int 0, .int 0]))] := hD
  subst hAe
  exact ret_n hx hb hr hlocks () trivial hP hD hS d_LA_begin_52
theorem d_LA_init_0 : decode prog_2_method_1_code 0 = .ok (.aload_n 0, 1) := by decide +kernel
theorem d_LA_init_1 : decode prog_2_method_1_code 1 = .ok (.invokespecial 3, 3) := by decide +kernel
theorem d_LA_init_4 : decode prog_2_method_1_code 4 = .ok (.aload_n 0, 1) := by decide +kernel
theorem d_LA_init_5 : decode prog_2_method_1_code 5 = .ok (.lconst 0, 1) := by decide +kernel
theorem d_LA_init_6 : decode prog_2_method_1_code 6 = .ok (.bipush (-3), 2) := by decide +kernel
theorem d_LA_init_8 : decode prog_2_method_1_code 8 = .ok (.bipush (-3), 2) := by decide +kernel
theorem d_LA_init_10 : decode prog_2_method_1_code 10 = .ok (.invokevirtual 9, 3) := by decide +kernel
theorem d_LA_init_13 : decode prog_2_method_1_code 13 = .ok (.return_, 1) := by decide +kernel
def rm_LA_init : Room := { frames := rm_LA_begin.frames + 1, cells := 0, slots := 0, locals := 8 + (5 + 11) + rm_LA_begin.locals }
set_option maxHeartbeats 4000000 in
set_option maxRecDepth 100000 in
theorem c_LA_init (l : Launch) (D : va_G) (cA : Nat → ClassId) (h0 sz : Nat) : Met l y_LA_init (Cond.code y_LA_init prog_2_method_1_code 1 none :: lw_ok) rm_LA_init (va_Pc [.ref h0] (SP D cA [(h0, .inr (0, [.long 0, .int 0, .int 0, .int 0, .int 0, .int 0, .int 0, .int 0]))] sz)) (QN D [(h0, .inr (0, [.long 0, .int 0, .int 0, .int 0, .int 0, .int 0, .int 0, .int 0]))] sz (fun _ : Unit => [(h0, .inr (0, [.long 0, .int (-3), .int (-3), .int (-3), .int (-3), .int 0, .int 0, .int 0]))]) (fun _ => True)) 0 0 (va_A [(h0, .inr (0, [.long 0, .int 0, .int 0, .int 0, .int 0, .int 0, .int 0, .int 0]))] sz) := by
  refine metN_of (own := "LakeRelief$Lake") rfl rfl (Nat.le_of_ble_eq_true rfl) (fun p e s m below meth c C _ hG hA hP hD hS ls hl => ?_)
  obtain ⟨hx, hb, hml, hown, hts, hr, hlocks⟩ := id C
  generalize hAe : va_A [(h0, .inr (0, [.long 0, .int 0, .int 0, .int 0, .int 0, .int 0, .int 0, .int 0]))] s.heap.size = A at hA hD hS ⊢
  refine lv_aload_n hx hb d_LA_init_0 rfl (lv_at hl 0 rfl) ?_
  refine W.objInit hx hb hown (hts _ in_100) (hts _ in_16) (hts _ in_17) rfl (by rw [hml]; exact hl.1) rfl d_LA_init_1 (Nat.le_of_ble_eq_true rfl) (Nat.le_of_ble_eq_true rfl) ?_
  refine W.eq (g2 := F0 m 4 ls []) rfl ?_
  refine lv_aload_n hx hb d_LA_init_4 rfl (lv_at hl 0 rfl) ?_
  refine lv_lconst (v := 0) hx hb d_LA_init_5 (by decide) ?_
  refine lv_bipush (v := (-3)) hx hb d_LA_init_6 (by decide) ?_
  refine lv_bipush (v := (-3)) hx hb d_LA_init_8 (by decide) ?_
  have hF : ∀ q, va_A [(h0, .inr (0, [.long 0, .int 0, .int 0, .int 0, .int 0, .int 0, .int 0, .int 0]))] s.heap.size q → A q := fun q h => by rw [← hAe]; exact h
  refine va_callv (va_runV (As := [.long 0, .int (-3), .int (-3)]) (rest := []) ⟨hx, hb, hml, hown, hts⟩ (c0_LA_begin l D cA h0 s.heap.size) (cw_LA_9 hts ⟨Nat.le_of_ble_eq_true rfl, Nat.le_of_ble_eq_true rfl⟩) ⟨SP.blind, va_recv hG.1 hP (ci := 0) (q0 := 0) rfl rfl, fun U hU hW => ⟨rfl, by rw [hU], by rw [hU]; exact hP, hD.weaken (fun _ _ _ _ => trivial), hG.warm hW⟩⟩ rfl rfl hl.1 rfl (lv_room (Nat.le_of_ble_eq_true rfl)) d_LA_init_10 ⟨Nat.zero_le _, Nat.zero_le _⟩) hS (fun q _ h => hF q h) hF (fun u t H1 locs1 ht hvm hp hB hz hk hS1 => ?_)
  obtain ⟨hP1, hD1⟩ := hB
  rw [ht] at hP1
  subst hAe
  exact ret_n hx hb hr hlocks () trivial hP1 hD1 hS1 d_LA_init_13
end CT3
